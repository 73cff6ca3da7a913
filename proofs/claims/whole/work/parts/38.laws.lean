/-! what a run rests on: lines that it never met, and an aim -/
theorem ru_skip_0 : ∀ n a, ru_skip 0 n a = a
  | 0, _ => rfl
  | n + 1, a => ru_skip_end (Nat.zero_testBit a)
theorem rs_m_jump (e : en_T) (x : ln_T) (s : rs_T) : rs_m (ru_jump e x s) = rs_m s := rfl
theorem rs_m_do (e : en_T) (x : ln_T) (s : rs_T) : rs_m (ru_do e x s).1 = rs_m s := by
  unfold ru_do
  split
  · split
    · rfl
    · split <;> rfl
  · split
    · rfl
    · split
      · split <;> rfl
      · split
        · rfl
        · split
          · rfl
          · split
            · rfl
            · split <;> rfl
theorem rs_m_come {e : en_T} {s : rs_T} {i : Nat} (h : (rs_m s).testBit i = true) : (rs_m (ru_come e s)).testBit i = true := by
  unfold ru_come
  split
  · split
    · show (rs_m s ||| 2 ^ _).testBit i = true
      rw [Nat.testBit_or, h]
      rfl
    · exact h
  · exact h
theorem rs_m_loop {e : en_T} {i : Nat} : ∀ n s, (rs_m (ru_come e s)).testBit i = true → (rs_m (ru_loop e n s).1).testBit i = true
  | 0, s, h => h
  | n + 1, s, h => by
    unfold ru_loop
    by_cases hi : ru_is e s = true
    · rw [if_pos hi]
      have h2 : (rs_m (ru_do e (ru_top e (ru_come e s)) (ru_pre (ru_come e s))).1).testBit i = true := by rw [rs_m_do]; exact h
      by_cases h0 : (ru_do e (ru_top e (ru_come e s)) (ru_pre (ru_come e s))).2 = 0
      · rw [if_pos h0]
        exact rs_m_loop n _ (rs_m_come h2)
      · rw [if_neg h0]
        exact h2
    · rw [if_neg hi]
      exact h
/-- a row whose lines are all there comes to the line where it stands -/
theorem ru_low_0 (ls : List ln_T) (pg : px_T) (inp : List Int32) (am : Option (List Int32)) (s : rs_T) : ru_low (ls, pg, inp, 0, am) s = (rs_s s 0).2 := ru_skip_0 _ _
theorem rs_m_here {ls : List ln_T} {pg : px_T} {inp : List Int32} {s : rs_T} (hd : rs_d s = 0) (ha : (rs_s s 0).2 < ls.length) : (rs_m (ru_come (ls, pg, inp, 0, none) s)).testBit (rs_s s 0).2 = true := by
  unfold ru_come
  rw [ru_low_0, hd, if_pos (show ru_dp (ls, pg, inp, 0, none) (rs_s s) 0 = 0 from rfl), if_pos (show (rs_s s 0).2 < (en_ls (ls, pg, inp, 0, none)).length from ha)]
  show (rs_m s ||| 2 ^ (rs_s s 0).2).testBit _ = true
  rw [Nat.testBit_or, Nat.testBit_two_pow_self, Bool.or_true]
theorem ru_find_lost {lb : Int64} {lo : Nat} {ls : List ln_T} (h : ru_find lb 0 ls < ls.length → lo.testBit (ru_find lb 0 ls) = false) : ru_find lb lo ls = ru_find lb 0 ls := by
  have hno : ∀ k, k < ru_find lb 0 ls → (decide (ln_nm (ln_at ls k) = lb) && !lo.testBit k) = false := by
    intro k hk
    have := fa_first_no _ _ k hk
    simp only [Nat.zero_testBit, Bool.not_false, Bool.and_true] at this
    rw [this]
    rfl
  by_cases c : ru_find lb 0 ls < ls.length
  · have hy : (decide (ln_nm (ln_at ls (ru_find lb 0 ls)) = lb) && !Nat.testBit 0 (ru_find lb 0 ls)) = true := fa_first_yes (fun i => decide (ln_nm (ln_at ls i) = lb) && !Nat.testBit 0 i) ls.length c
    rw [Nat.zero_testBit, Bool.not_false, Bool.and_true] at hy
    exact ff_at hno (by rw [hy, h c]; rfl) c
  · have hle := ru_find_le lb 0 ls
    have e1 : ru_find lb 0 ls = ls.length := by omega
    rw [e1]
    exact ff_no (fun k hk => hno k (by omega))
theorem ru_jump_lost {ls : List ln_T} {pg : px_T} {inp : List Int32} {lo n : Nat} {x : ln_T} {s : rs_T} (h : ∀ i, (rs_m (ru_loop (ls, pg, inp, 0, none) n (ru_jump (ls, pg, inp, 0, none) x s)).1).testBit i = true → lo.testBit i = false) : ru_jump (ls, pg, inp, lo, none) x s = ru_jump (ls, pg, inp, 0, none) x s := by
  have e1 : ru_fd (ls, pg, inp, lo, none) x s = ru_fd (ls, pg, inp, 0, none) x s := by
    unfold ru_fd
    by_cases c0 : rs_d s = 0
    · have hls : ∀ lo, ru_ls (ls, pg, inp, lo, none) (rs_s s) (rs_d s) = ls := by
        intro lo
        rw [c0, ru_ls_0]
        rfl
      rw [if_pos c0, if_pos c0, hls, hls]
      show ru_find (ln_lb x) lo ls = ru_find (ln_lb x) 0 ls
      refine ru_find_lost (fun hlt => h _ (rs_m_loop n _ ?_))
      have hfd : ru_fd (ls, pg, inp, 0, none) x s = ru_find (ln_lb x) 0 ls := by
        unfold ru_fd
        rw [if_pos c0, hls]
        rfl
      have hj0 : rs_s (ru_jump (ls, pg, inp, 0, none) x s) = ru_to s (ru_find (ln_lb x) 0 ls) := by
        show (if ru_fd (ls, pg, inp, 0, none) x s < _ then _ else _) = _
        rw [hfd, hls, if_pos hlt]
      have hat : (rs_s (ru_jump (ls, pg, inp, 0, none) x s) 0).2 = ru_find (ln_lb x) 0 ls := by
        rw [hj0, ru_to_2, if_pos c0.symm]
      have := rs_m_here (ls := ls) (pg := pg) (inp := inp) (s := ru_jump (ls, pg, inp, 0, none) x s) c0 (by rw [hat]; exact hlt)
      rw [hat] at this
      exact this
    · rw [if_neg c0, if_neg c0]
      rfl
  unfold ru_jump
  rw [e1]
  rfl
/-- lines that were never met may be lost -/
theorem ru_lost {ls : List ln_T} {pg : px_T} {inp : List Int32} {lo : Nat} : ∀ n s, (∀ i, (rs_m (ru_loop (ls, pg, inp, 0, none) n s).1).testBit i = true → lo.testBit i = false) → ru_loop (ls, pg, inp, lo, none) n s = ru_loop (ls, pg, inp, 0, none) n s := by
  intro n s h
  have hcome : ∀ (n : Nat) (s : rs_T), (∀ i, (rs_m (ru_loop (ls, pg, inp, 0, none) n s).1).testBit i = true → lo.testBit i = false) → ru_come (ls, pg, inp, lo, none) s = ru_come (ls, pg, inp, 0, none) s ∧ ru_is (ls, pg, inp, lo, none) s = ru_is (ls, pg, inp, 0, none) s := by
    intro n s h
    have hdp : ru_dp (ls, pg, inp, lo, none) (rs_s s) (rs_d s) = ru_dp (ls, pg, inp, 0, none) (rs_s s) (rs_d s) := by
      generalize rs_d s = d
      induction d with
      | zero => rfl
      | succ d ih =>
        show (if _ then _ else _) = (if _ then _ else _)
        rw [ih]
        rfl
    by_cases c0 : ru_dp (ls, pg, inp, 0, none) (rs_s s) (rs_d s) = 0
    · have e1 : ru_low (ls, pg, inp, lo, none) s = ru_low (ls, pg, inp, 0, none) s := by
        rw [ru_low_0]
        by_cases ca : (rs_s s 0).2 < ls.length
        · have hm : (rs_m (ru_come (ls, pg, inp, 0, none) s)).testBit (rs_s s 0).2 = true := by
            unfold ru_come
            rw [ru_low_0, if_pos c0, if_pos (show (rs_s s 0).2 < (en_ls (ls, pg, inp, 0, none)).length from ca)]
            show (rs_m s ||| 2 ^ (rs_s s 0).2).testBit _ = true
            rw [Nat.testBit_or, Nat.testBit_two_pow_self, Bool.or_true]
          have hb := h _ (rs_m_loop n s hm)
          show ru_skip lo (ls.length - (rs_s s 0).2) (rs_s s 0).2 = _
          obtain ⟨k, hk⟩ : ∃ k, ls.length - (rs_s s 0).2 = k + 1 := ⟨ls.length - (rs_s s 0).2 - 1, by omega⟩
          rw [hk, ru_skip_end hb]
        · show ru_skip lo (ls.length - (rs_s s 0).2) (rs_s s 0).2 = _
          rw [show ls.length - (rs_s s 0).2 = 0 by omega]
          rfl
      unfold ru_come ru_is
      rw [hdp, e1]
      exact ⟨rfl, rfl⟩
    · refine ⟨?_, ?_⟩
      · unfold ru_come
        rw [hdp, if_neg c0, if_neg c0]
      · unfold ru_is
        rw [hdp, decide_eq_true (Or.inl c0), decide_eq_true (Or.inl c0)]
  induction n generalizing s with
  | zero =>
    obtain ⟨c1, c2⟩ := hcome 0 s h
    unfold ru_loop
    rw [c1, c2]
  | succ n ih =>
    obtain ⟨c1, c2⟩ := hcome (n + 1) s h
    unfold ru_loop at h ⊢
    rw [c1, c2]
    by_cases hi : ru_is (ls, pg, inp, 0, none) s = true
    · rw [if_pos hi] at h
      rw [if_pos hi, if_pos hi]
      generalize ru_come (ls, pg, inp, 0, none) s = s1 at h ⊢
      have htop : ru_top (ls, pg, inp, lo, none) s1 = ru_top (ls, pg, inp, 0, none) s1 := rfl
      rw [htop]
      generalize ru_top (ls, pg, inp, 0, none) s1 = x at h ⊢
      have hdo : ru_do (ls, pg, inp, lo, none) x (ru_pre s1) = ru_do (ls, pg, inp, 0, none) x (ru_pre s1) := by
        by_cases o6 : ln_or x = nI 6
        · have e0 : ru_do (ls, pg, inp, 0, none) x (ru_pre s1) = (ru_jump (ls, pg, inp, 0, none) x (ru_pre s1), 0) := by
            unfold ru_do
            rw [if_neg (by rw [o6]; decide), if_pos o6]
          rw [e0] at h ⊢
          rw [if_pos rfl] at h
          unfold ru_do
          rw [if_neg (by rw [o6]; decide), if_pos o6, ru_jump_lost h]
        · by_cases o7 : ln_or x = nI 7
          · by_cases hh : ru_holds (ln_ts x) (ru_val (ls, pg, inp, 0, none) (ln_A x) (ru_pre s1)) (ru_val (ls, pg, inp, 0, none) (ln_B x) (ru_got (ln_A x) (ru_pre s1))) = true
            · have e0 : ru_do (ls, pg, inp, 0, none) x (ru_pre s1) = (ru_jump (ls, pg, inp, 0, none) x (ru_got (ln_B x) (ru_got (ln_A x) (ru_pre s1))), 0) := by
                unfold ru_do
                rw [if_neg (by rw [o7]; decide), if_neg o6, if_pos o7, if_pos hh]
              rw [e0] at h ⊢
              rw [if_pos rfl] at h
              unfold ru_do
              rw [if_neg (by rw [o7]; decide), if_neg o6, if_pos o7]
              rw [if_pos (show ru_holds (ln_ts x) (ru_val (ls, pg, inp, lo, none) (ln_A x) (ru_pre s1)) (ru_val (ls, pg, inp, lo, none) (ln_B x) (ru_got (ln_A x) (ru_pre s1))) = true from hh), ru_jump_lost h]
            · have o5 : ¬ ln_or x = nI 5 := by rw [o7]; decide
              unfold ru_do
              rw [if_neg o5, if_neg o6, if_pos o7, if_neg (show ¬ ru_holds (ln_ts x) (ru_val (ls, pg, inp, lo, none) (ln_A x) (ru_pre s1)) (ru_val (ls, pg, inp, lo, none) (ln_B x) (ru_got (ln_A x) (ru_pre s1))) = true from hh), if_neg o5, if_neg o6, if_pos o7, if_neg hh]
          · unfold ru_do
            rw [if_neg o6, if_neg o6, if_neg o7, if_neg o7]
            rfl
      rw [hdo]
      by_cases h0 : (ru_do (ls, pg, inp, 0, none) x (ru_pre s1)).2 = 0
      · rw [if_pos h0] at h
        rw [if_pos h0, if_pos h0]
        exact ih _ h
      · rw [if_neg h0, if_neg h0]
    · rw [if_neg hi, if_neg hi]
/-! an aim: the run is given up only where its output can't become the aim's -/
def px_pre (a b : List Int32) : Prop := ∃ c, b = a ++ c
theorem px_pre.rfl' (a : List Int32) : px_pre a a := ⟨[], (List.append_nil a).symm⟩
theorem px_pre.trans {a b c : List Int32} (h : px_pre a b) (h2 : px_pre b c) : px_pre a c := by
  obtain ⟨x, rfl⟩ := h
  obtain ⟨y, rfl⟩ := h2
  exact ⟨x ++ y, (List.append_assoc a x y)⟩
theorem rs_o_come (e : en_T) (s : rs_T) : rs_o (ru_come e s) = rs_o s := by
  unfold ru_come
  split
  · split <;> rfl
  · rfl
theorem rs_o_do (e : en_T) (x : ln_T) (s : rs_T) : px_pre (rs_o s) (rs_o (ru_do e x s).1) := by
  unfold ru_do
  split
  · split
    · exact px_pre.rfl' _
    · split
      · exact px_pre.rfl' _
      · exact ⟨[_], rfl⟩
  · split
    · exact px_pre.rfl' _
    · split
      · split <;> exact px_pre.rfl' _
      · split
        · exact px_pre.rfl' _
        · split
          · exact px_pre.rfl' _
          · split
            · exact px_pre.rfl' _
            · split <;> exact px_pre.rfl' _
theorem rs_o_loop (e : en_T) : ∀ n s, px_pre (rs_o s) (rs_o (ru_loop e n s).1)
  | 0, s => by show px_pre _ (rs_o (ru_come e s)); rw [rs_o_come]; exact px_pre.rfl' _
  | n + 1, s => by
    unfold ru_loop
    by_cases hi : ru_is e s = true
    · rw [if_pos hi]
      have h2 : px_pre (rs_o s) (rs_o (ru_do e (ru_top e (ru_come e s)) (ru_pre (ru_come e s))).1) := by
        have := rs_o_do e (ru_top e (ru_come e s)) (ru_pre (ru_come e s))
        rw [show rs_o (ru_pre (ru_come e s)) = rs_o s from rs_o_come e s] at this
        exact this
      by_cases h0 : (ru_do e (ru_top e (ru_come e s)) (ru_pre (ru_come e s))).2 = 0
      · rw [if_pos h0]
        exact h2.trans (rs_o_loop e n _)
      · rw [if_neg h0]
        exact h2
    · rw [if_neg hi]
      show px_pre _ (rs_o (ru_come e s)); rw [rs_o_come]; exact px_pre.rfl' _
theorem ru_aim {ls : List ln_T} {pg : px_T} {inp : List Int32} {lo : Nat} {a : List Int32} : ∀ n s, ru_loop (ls, pg, inp, lo, some a) n s = ru_loop (ls, pg, inp, lo, none) n s ∨ ((ru_loop (ls, pg, inp, lo, some a) n s).2 = 4 ∧ rs_o (ru_loop (ls, pg, inp, lo, none) n s).1 ≠ a) := by
  have hdp : ∀ (s : Nat → Nat × Nat) d, ru_dp (ls, pg, inp, lo, some a) s d = ru_dp (ls, pg, inp, lo, none) s d := by
    intro s d
    induction d with
    | zero => rfl
    | succ d ih =>
      show (if _ then _ else _) = (if _ then _ else _)
      rw [ih]
      rfl
  have hc : ∀ s, ru_come (ls, pg, inp, lo, some a) s = ru_come (ls, pg, inp, lo, none) s := by
    intro s
    unfold ru_come
    rw [hdp]
    rfl
  have hi2 : ∀ s, ru_is (ls, pg, inp, lo, some a) s = ru_is (ls, pg, inp, lo, none) s := by
    intro s
    unfold ru_is
    rw [hdp]
    rfl
  intro n
  induction n with
  | zero =>
    intro s
    left
    unfold ru_loop
    rw [hc, hi2]
  | succ n ih =>
    intro s
    unfold ru_loop
    rw [hc, hi2]
    by_cases hi : ru_is (ls, pg, inp, lo, none) s = true
    · rw [if_pos hi, if_pos hi]
      generalize ru_come (ls, pg, inp, lo, none) s = s1
      have htop : ru_top (ls, pg, inp, lo, some a) s1 = ru_top (ls, pg, inp, lo, none) s1 := rfl
      rw [htop]
      generalize ru_top (ls, pg, inp, lo, none) s1 = x
      by_cases o5 : ln_or x = nI 5 ∧ ¬ 8 ≤ (rs_o (ru_pre s1)).length ∧ ru_off (ls, pg, inp, lo, some a) (ru_val (ls, pg, inp, lo, none) (ln_A x) (ru_pre s1)) (rs_o (ru_pre s1)) = true
      · obtain ⟨o5, o8, of⟩ := o5
        have e1 : ru_do (ls, pg, inp, lo, some a) x (ru_pre s1) = (ru_got (ln_A x) (ru_pre s1), 5) := by
          unfold ru_do
          rw [if_pos o5, if_neg o8]
          exact if_pos of
        have e0 : ru_do (ls, pg, inp, lo, none) x (ru_pre s1) = ((rs_c (ru_pre s1), rs_k (ru_got (ln_A x) (ru_pre s1)), rs_o (ru_pre s1) ++ [ru_val (ls, pg, inp, lo, none) (ln_A x) (ru_pre s1)], rs_t (ru_pre s1), rs_d (ru_pre s1), rs_s (ru_pre s1), rs_m (ru_pre s1), rs_q (ru_pre s1)), 0) := by
          unfold ru_do
          rw [if_pos o5, if_neg o8]
          exact if_neg (fun y => by cases y)
        right
        rw [e1, e0, if_neg (show ¬ (5 : Nat) = 0 by decide), if_pos rfl]
        refine ⟨rfl, fun hA => ?_⟩
        obtain ⟨c, hcc⟩ := rs_o_loop (ls, pg, inp, lo, none) n (rs_c (ru_pre s1), rs_k (ru_got (ln_A x) (ru_pre s1)), rs_o (ru_pre s1) ++ [ru_val (ls, pg, inp, lo, none) (ln_A x) (ru_pre s1)], rs_t (ru_pre s1), rs_d (ru_pre s1), rs_s (ru_pre s1), rs_m (ru_pre s1), rs_q (ru_pre s1))
        rw [hA] at hcc
        have hcc : a = (rs_o (ru_pre s1) ++ [ru_val (ls, pg, inp, lo, none) (ln_A x) (ru_pre s1)]) ++ c := hcc
        have of := of_decide_eq_true of
        rw [hcc] at of
        rcases of with z | z
        · simp only [List.length_append, List.length_cons, List.length_nil] at z
          omega
        · apply z
          rw [List.getD_eq_getElem?_getD, List.getElem?_append_left (by simp), List.getElem?_append_right (Nat.le_refl _), Nat.sub_self]
          rfl
      · have e1 : ru_do (ls, pg, inp, lo, some a) x (ru_pre s1) = ru_do (ls, pg, inp, lo, none) x (ru_pre s1) := by
          by_cases c5 : ln_or x = nI 5
          · unfold ru_do
            rw [if_pos c5, if_pos c5]
            by_cases c8 : 8 ≤ (rs_o (ru_pre s1)).length
            · rw [if_pos c8, if_pos c8]
            · rw [if_neg c8, if_neg c8]
              have hn : ¬ ru_off (ls, pg, inp, lo, some a) (ru_val (ls, pg, inp, lo, none) (ln_A x) (ru_pre s1)) (rs_o (ru_pre s1)) = true := fun y => o5 ⟨c5, c8, y⟩
              have e2 : (if ru_off (ls, pg, inp, lo, some a) (ru_val (ls, pg, inp, lo, some a) (ln_A x) (ru_pre s1)) (rs_o (ru_pre s1)) = true then (ru_got (ln_A x) (ru_pre s1), 5) else ((rs_c (ru_pre s1), rs_k (ru_got (ln_A x) (ru_pre s1)), rs_o (ru_pre s1) ++ [ru_val (ls, pg, inp, lo, some a) (ln_A x) (ru_pre s1)], rs_t (ru_pre s1), rs_d (ru_pre s1), rs_s (ru_pre s1), rs_m (ru_pre s1), rs_q (ru_pre s1)), 0)) = ((rs_c (ru_pre s1), rs_k (ru_got (ln_A x) (ru_pre s1)), rs_o (ru_pre s1) ++ [ru_val (ls, pg, inp, lo, none) (ln_A x) (ru_pre s1)], rs_t (ru_pre s1), rs_d (ru_pre s1), rs_s (ru_pre s1), rs_m (ru_pre s1), rs_q (ru_pre s1)), 0) := if_neg hn
              rw [e2]
              exact (if_neg (fun y => by cases y)).symm
          · unfold ru_do
            rw [if_neg c5, if_neg c5]
            rfl
        rw [e1]
        by_cases h0 : (ru_do (ls, pg, inp, lo, none) x (ru_pre s1)).2 = 0
        · rw [if_pos h0, if_pos h0]
          exact ih _
        · rw [if_neg h0, if_neg h0]
          exact Or.inl rfl
    · rw [if_neg hi, if_neg hi]
      exact Or.inl rfl
