/-! a line told twice, one of the two lost -/
def mj_ (j a : Nat) : Nat := if a ≤ j then a else a - 1
/-- ls' is ls with a line more at j -/
def dx_ (j : Nat) (ls ls' : List ln_T) : Prop := ls'.length = ls.length + 1 ∧ j ≤ ls.length ∧ (∀ p, p < j → ln_at ls' p = ln_at ls p) ∧ (∀ p, j < p → p < ls'.length → ln_at ls' p = ln_at ls (p - 1))
def s4_ (j : Nat) (ls' : List ln_T) (s s' : rs_T) : Prop := rs_c s' = rs_c s ∧ rs_k s' = rs_k s ∧ rs_o s' = rs_o s ∧ rs_d s' = rs_d s ∧ (∀ q, q ≠ 0 → rs_s s' q = rs_s s q) ∧ (rs_s s 0).2 = mj_ j (rs_s s' 0).2 ∧ (rs_s s' 0).2 ≤ ls'.length
theorem mj_lt {j a n : Nat} (hj : j ≤ n) (ha : a ≠ j) : mj_ j a < n ↔ a < n + 1 := by
  unfold mj_
  split <;> omega
theorem mj_at {j a : Nat} {ls ls' : List ln_T} (h : dx_ j ls ls') (ha : a ≠ j) (hl : a < ls'.length) : ln_at ls' a = ln_at ls (mj_ j a) := by
  unfold mj_
  split
  · exact h.2.2.1 a (by omega)
  · exact h.2.2.2 a (by omega) hl
theorem s4_dp {j : Nat} {ls ls' : List ln_T} {pg : px_T} {inp : List Int32} {s s' : Nat → Nat × Nat} (h : ∀ q, q ≠ 0 → s' q = s q) : ∀ d, ru_dp (ls', pg, inp, 2 ^ j, none) s' d = ru_dp (ls, pg, inp, 0, none) s d
  | 0 => rfl
  | d + 1 => by
    have e1 : ru_ls (ls', pg, inp, 2 ^ j, none) s' (d + 1) = ru_ls (ls, pg, inp, 0, none) s (d + 1) := by
      rw [ru_ls_1 (by omega), ru_ls_1 (by omega), h (d + 1) (by omega)]
      rfl
    show (if (s' (d + 1)).2 < (ru_ls (ls', pg, inp, 2 ^ j, none) s' (d + 1)).length then d + 1 else ru_dp (ls', pg, inp, 2 ^ j, none) s' d) = (if (s (d + 1)).2 < (ru_ls (ls, pg, inp, 0, none) s (d + 1)).length then d + 1 else ru_dp (ls, pg, inp, 0, none) s d)
    rw [e1, h (d + 1) (by omega), s4_dp h d]
theorem s4_low {j : Nat} {ls ls' : List ln_T} {pg : px_T} {inp : List Int32} {s' : rs_T} (h : dx_ j ls ls') (ha : (rs_s s' 0).2 ≤ ls'.length) : ru_low (ls', pg, inp, 2 ^ j, none) s' = if (rs_s s' 0).2 = j then j + 1 else (rs_s s' 0).2 := by
  have h1 := h.1
  have h2 := h.2.1
  show ru_skip (2 ^ j) (ls'.length - (rs_s s' 0).2) (rs_s s' 0).2 = _
  split
  · rename_i c
    rw [c]
    obtain ⟨n, hn⟩ : ∃ n, ls'.length - j = n + 1 := ⟨ls'.length - j - 1, by omega⟩
    rw [hn, ru_skip_step (Nat.testBit_two_pow_self)]
    cases n with
    | zero => rfl
    | succ n => exact ru_skip_end (by rw [Nat.testBit_two_pow]; exact decide_eq_false (by omega))
  · rename_i c
    generalize ls'.length - (rs_s s' 0).2 = n
    cases n with
    | zero => rfl
    | succ n => exact ru_skip_end (by rw [Nat.testBit_two_pow]; exact decide_eq_false (fun q => c q.symm))
theorem s4_come {j : Nat} {ls ls' : List ln_T} {pg : px_T} {inp : List Int32} {s s' : rs_T} (h : dx_ j ls ls') (hs : s4_ j ls' s s') : s4_ j ls' (ru_come (ls, pg, inp, 0, none) s) (ru_come (ls', pg, inp, 2 ^ j, none) s') ∧ ru_is (ls', pg, inp, 2 ^ j, none) s' = ru_is (ls, pg, inp, 0, none) s ∧ (ru_is (ls, pg, inp, 0, none) s = true → rs_d (ru_come (ls', pg, inp, 2 ^ j, none) s') = 0 → (rs_s (ru_come (ls', pg, inp, 2 ^ j, none) s') 0).2 ≠ j) := by
  obtain ⟨a1, a2, a3, a4, a5, a6, a7⟩ := hs
  have h1 := h.1
  have h2 := h.2.1
  have hdp := s4_dp (j := j) (ls := ls) (ls' := ls') (pg := pg) (inp := inp) a5 (rs_d s)
  have hl' := s4_low (pg := pg) (inp := inp) h a7
  have hl : ru_low (ls, pg, inp, 0, none) s = mj_ j (rs_s s' 0).2 := by rw [ru_low_0]; exact a6
  have hnj : ru_low (ls', pg, inp, 2 ^ j, none) s' ≠ j := by rw [hl']; split <;> omega
  have hmj : ru_low (ls, pg, inp, 0, none) s = mj_ j (ru_low (ls', pg, inp, 2 ^ j, none) s') := by
    rw [hl, hl']
    unfold mj_
    split
    · split
      · split
        · omega
        · omega
      · rfl
    · split
      · omega
      · rfl
  have hle : ru_low (ls', pg, inp, 2 ^ j, none) s' ≤ ls'.length := by rw [hl']; split <;> omega
  have hlt : ru_low (ls, pg, inp, 0, none) s < ls.length ↔ ru_low (ls', pg, inp, 2 ^ j, none) s' < ls'.length := by
    rw [hmj, h1]
    exact mj_lt h2 hnj
  have his : ru_is (ls', pg, inp, 2 ^ j, none) s' = ru_is (ls, pg, inp, 0, none) s := by
    unfold ru_is
    rw [a4, hdp]
    refine decide_eq_decide.2 (or_congr Iff.rfl hlt.symm)
  refine ⟨?_, his, ?_⟩
  · unfold ru_come
    rw [a4, hdp]
    by_cases c : ru_dp (ls, pg, inp, 0, none) (rs_s s) (rs_d s) = 0
    · rw [if_pos c, if_pos c]
      have hk : ∀ (m q m' q' : Nat), s4_ j ls' (rs_c s, rs_k s, rs_o s, rs_t s, 0, ru_up (rs_s s) 0 ((rs_s s 0).1, ru_low (ls, pg, inp, 0, none) s), m, q) (rs_c s', rs_k s', rs_o s', rs_t s', 0, ru_up (rs_s s') 0 ((rs_s s' 0).1, ru_low (ls', pg, inp, 2 ^ j, none) s'), m', q') := by
        intro m q m' q'
        refine ⟨a1, a2, a3, rfl, fun w hw => ?_, ?_, ?_⟩
        · show ru_up (rs_s s') 0 _ w = ru_up (rs_s s) 0 _ w
          rw [ru_up_ne _ _ hw, ru_up_ne _ _ hw]
          exact a5 w hw
        · show (ru_up (rs_s s) 0 _ 0).2 = mj_ j (ru_up (rs_s s') 0 _ 0).2
          rw [ru_up_eq, ru_up_eq]
          exact hmj
        · show (ru_up (rs_s s') 0 _ 0).2 ≤ ls'.length
          rw [ru_up_eq]
          exact hle
      by_cases c2 : ru_low (ls, pg, inp, 0, none) s < ls.length
      · rw [if_pos (show ru_low (ls, pg, inp, 0, none) s < (en_ls (ls, pg, inp, 0, none)).length from c2), if_pos (show ru_low (ls', pg, inp, 2 ^ j, none) s' < (en_ls (ls', pg, inp, 2 ^ j, none)).length from hlt.1 c2)]
        exact hk _ _ _ _
      · rw [if_neg (show ¬ ru_low (ls, pg, inp, 0, none) s < (en_ls (ls, pg, inp, 0, none)).length from c2), if_neg (show ¬ ru_low (ls', pg, inp, 2 ^ j, none) s' < (en_ls (ls', pg, inp, 2 ^ j, none)).length from fun q => c2 (hlt.2 q))]
        exact hk _ _ _ _
    · rw [if_neg c, if_neg c]
      exact ⟨a1, a2, a3, rfl, a5, a6, a7⟩
  · intro hi hd
    unfold ru_come at hd ⊢
    rw [a4, hdp] at hd ⊢
    by_cases c : ru_dp (ls, pg, inp, 0, none) (rs_s s) (rs_d s) = 0
    · rw [if_pos c]
      split
      · show (ru_up (rs_s s') 0 _ 0).2 ≠ j
        rw [ru_up_eq]; exact hnj
      · show (ru_up (rs_s s') 0 _ 0).2 ≠ j
        rw [ru_up_eq]; exact hnj
    · rw [if_neg c] at hd
      exact absurd hd c
theorem s4_ls {j : Nat} {ls ls' : List ln_T} {pg : px_T} {inp : List Int32} {s s' : rs_T} (hs : s4_ j ls' s s') (hd : rs_d s ≠ 0) : ru_ls (ls', pg, inp, 2 ^ j, none) (rs_s s') (rs_d s') = ru_ls (ls, pg, inp, 0, none) (rs_s s) (rs_d s) := by
  rw [hs.2.2.2.1, ru_ls_1 hd, ru_ls_1 hd, hs.2.2.2.2.1 _ hd]
  rfl
theorem s4_top {j : Nat} {ls ls' : List ln_T} {pg : px_T} {inp : List Int32} {s s' : rs_T} (h : dx_ j ls ls') (hs : s4_ j ls' s s') (hn : rs_d s' = 0 → (rs_s s' 0).2 ≠ j ∧ (rs_s s' 0).2 < ls'.length) : ru_top (ls', pg, inp, 2 ^ j, none) s' = ru_top (ls, pg, inp, 0, none) s ∧ s4_ j ls' (ru_pre s) (ru_pre s') := by
  have hs0 := hs
  obtain ⟨a1, a2, a3, a4, a5, a6, a7⟩ := hs
  by_cases hd : rs_d s = 0
  · obtain ⟨n1, n2⟩ := hn (by rw [a4]; exact hd)
    refine ⟨?_, a1, a2, a3, a4, fun w hw => ?_, ?_, ?_⟩
    · unfold ru_top ru_a
      rw [a4, hd, ru_ls_0, ru_ls_0, a6]
      exact mj_at h n1 n2
    · show ru_to s' _ w = ru_to s _ w
      unfold ru_to
      rw [a4, hd, ru_up_ne _ _ hw, ru_up_ne _ _ hw]
      exact a5 w hw
    · show (ru_to s (ru_a s + 1) 0).2 = mj_ j (ru_to s' (ru_a s' + 1) 0).2
      rw [ru_to_2, ru_to_2, if_pos hd.symm, if_pos (by rw [a4]; exact hd.symm)]
      unfold ru_a
      rw [a4, hd, a6]
      unfold mj_
      split
      · rw [if_pos (by omega)]
      · rw [if_neg (by omega)]
        omega
    · show (ru_to s' (ru_a s' + 1) 0).2 ≤ ls'.length
      rw [ru_to_2, if_pos (by rw [a4]; exact hd.symm)]
      unfold ru_a
      rw [a4, hd]
      exact n2
  · have hlsq := s4_ls (ls := ls) (pg := pg) (inp := inp) hs0 hd
    have ha : ru_a s' = ru_a s := by unfold ru_a; rw [a4, a5 _ hd]
    refine ⟨?_, a1, a2, a3, a4, fun w hw => ?_, ?_, ?_⟩
    · unfold ru_top
      rw [hlsq, ha]
    · show ru_to s' _ w = ru_to s _ w
      unfold ru_to
      rw [ha, a4, a5 _ hd]
      unfold ru_up
      split
      · rfl
      · exact a5 w hw
    · show (ru_to s (ru_a s + 1) 0).2 = mj_ j (ru_to s' (ru_a s' + 1) 0).2
      rw [ru_to_2, ru_to_2, if_neg (fun q => hd q.symm), if_neg (fun q => hd (by rw [← a4]; exact q.symm))]
      exact a6
    · show (ru_to s' (ru_a s' + 1) 0).2 ≤ ls'.length
      rw [ru_to_2, if_neg (fun q => hd (by rw [← a4]; exact q.symm))]
      exact a7
theorem s4_got {j : Nat} {ls' : List ln_T} {s s' : rs_T} (hs : s4_ j ls' s s') (v : Int32 × Int32) : s4_ j ls' (ru_got v s) (ru_got v s') := by
  obtain ⟨a1, a2, a3, a4, a5, a6, a7⟩ := hs
  refine ⟨a1, ?_, a3, a4, a5, a6, a7⟩
  show (if v.1 = nI 0 then rs_k s' else if v.1 = nI 1 then rs_k s' else rs_k s' + 1) = (if v.1 = nI 0 then rs_k s else if v.1 = nI 1 then rs_k s else rs_k s + 1)
  rw [a2]
theorem s4_val {j : Nat} {ls ls' : List ln_T} {pg : px_T} {inp : List Int32} {s s' : rs_T} (hs : s4_ j ls' s s') (v : Int32 × Int32) : ru_val (ls', pg, inp, 2 ^ j, none) v s' = ru_val (ls, pg, inp, 0, none) v s := by
  unfold ru_val
  rw [hs.1, hs.2.1]
  rfl
theorem s4_find {j : Nat} {ls ls' : List ln_T} (h : dx_ j ls ls') (lb : Int64) : ru_find lb 0 ls = mj_ j (ru_find lb (2 ^ j) ls') ∧ (ru_find lb (2 ^ j) ls' < ls'.length ↔ ru_find lb 0 ls < ls.length) ∧ ru_find lb (2 ^ j) ls' ≤ ls'.length := by
  have h1 := h.1
  have h2 := h.2.1
  have hb : ∀ p, (2 ^ j).testBit p = decide (j = p) := fun p => Nat.testBit_two_pow
  by_cases c : ru_find lb (2 ^ j) ls' < ls'.length
  · have hy : (decide (ln_nm (ln_at ls' (ru_find lb (2 ^ j) ls')) = lb) && !Nat.testBit (2 ^ j) (ru_find lb (2 ^ j) ls')) = true := fa_first_yes (fun i => decide (ln_nm (ln_at ls' i) = lb) && !Nat.testBit (2 ^ j) i) ls'.length c
    have hno : ∀ k, k < ru_find lb (2 ^ j) ls' → (decide (ln_nm (ln_at ls' k) = lb) && !Nat.testBit (2 ^ j) k) = false := fun k hk => fa_first_no (fun i => decide (ln_nm (ln_at ls' i) = lb) && !Nat.testBit (2 ^ j) i) ls'.length k hk
    generalize ru_find lb (2 ^ j) ls' = f at c hy hno
    rw [Bool.and_eq_true, hb] at hy
    have hfj : f ≠ j := fun q => by rw [q] at hy; simp at hy
    have hml := (mj_lt h2 hfj).2 (by omega)
    have e : ru_find lb 0 ls = mj_ j f := by
      refine ff_at (fun k hk => ?_) (by rw [← mj_at h hfj c, hy.1, Nat.zero_testBit]; rfl) hml
      -- the place in ls' that stands for k
      have hk2 : ∃ k', k' < f ∧ k' ≠ j ∧ k' < ls'.length ∧ mj_ j k' = k := by
        unfold mj_ at hk ⊢
        rcases Nat.lt_or_ge k j with w | w
        · refine ⟨k, ?_, by omega, ?_, if_pos (by omega)⟩
          · split at hk <;> omega
          · split at hk <;> omega
        · refine ⟨k + 1, ?_, by omega, ?_, ?_⟩
          · split at hk <;> omega
          · split at hk <;> omega
          · rw [if_neg (by omega)]; omega
      obtain ⟨k', k1, k2, k3, k4⟩ := hk2
      have := hno k' k1
      rw [mj_at h k2 k3, k4, hb, decide_eq_false (p := j = k') (fun q => k2 q.symm)] at this
      rw [Nat.zero_testBit]
      exact this
    rw [e]
    exact ⟨rfl, ⟨fun _ => hml, fun _ => c⟩, by omega⟩
  · have hle := ru_find_le lb (2 ^ j) ls'
    have e1 : ru_find lb (2 ^ j) ls' = ls'.length := by omega
    have hno : ∀ k, k < ls'.length → (decide (ln_nm (ln_at ls' k) = lb) && !Nat.testBit (2 ^ j) k) = false := fun k hk => fa_first_no (fun i => decide (ln_nm (ln_at ls' i) = lb) && !Nat.testBit (2 ^ j) i) ls'.length k (by rw [show fa_first _ _ = ru_find lb (2 ^ j) ls' from rfl, e1]; exact hk)
    have e : ru_find lb 0 ls = ls.length := by
      refine ff_no (fun k hk => ?_)
      have hk2 : ∃ k', k' ≠ j ∧ k' < ls'.length ∧ mj_ j k' = k := by
        unfold mj_
        rcases Nat.lt_or_ge k j with w | w
        · exact ⟨k, by omega, by omega, if_pos (by omega)⟩
        · exact ⟨k + 1, by omega, by omega, by rw [if_neg (by omega)]; omega⟩
      obtain ⟨k', k2, k3, k4⟩ := hk2
      have := hno k' k3
      rw [mj_at h k2 k3, k4, hb, decide_eq_false (p := j = k') (fun q => k2 q.symm)] at this
      rw [Nat.zero_testBit]
      exact this
    rw [e, e1]
    refine ⟨?_, ⟨fun q => absurd q (Nat.lt_irrefl _), fun q => absurd q (Nat.lt_irrefl _)⟩, Nat.le_refl _⟩
    unfold mj_
    rw [if_neg (by omega), h1]
    rfl
theorem s4_to {j : Nat} {ls' : List ln_T} {s s' : rs_T} (hs : s4_ j ls' s s') {a a' : Nat} (h0 : rs_d s = 0 → a = mj_ j a' ∧ a' ≤ ls'.length) (h1 : rs_d s ≠ 0 → a' = a) (m q m' q' : Nat) (t t' : List (Nat × Nat)) : s4_ j ls' (rs_c s, rs_k s, rs_o s, t, rs_d s, ru_to s a, m, q) (rs_c s', rs_k s', rs_o s', t', rs_d s', ru_to s' a', m', q') := by
  obtain ⟨a1, a2, a3, a4, a5, a6, a7⟩ := hs
  refine ⟨a1, a2, a3, a4, fun w hw => ?_, ?_, ?_⟩
  · show ru_to s' a' w = ru_to s a w
    unfold ru_to
    by_cases hd : rs_d s = 0
    · rw [a4, hd, ru_up_ne _ _ hw, ru_up_ne _ _ hw]
      exact a5 w hw
    · rw [h1 hd, a4, a5 _ hd]
      unfold ru_up
      split
      · rfl
      · exact a5 w hw
  · show (ru_to s a 0).2 = mj_ j (ru_to s' a' 0).2
    rw [ru_to_2, ru_to_2]
    by_cases hd : rs_d s = 0
    · rw [if_pos hd.symm, if_pos (by rw [a4]; exact hd.symm)]
      exact (h0 hd).1
    · rw [if_neg (fun q => hd q.symm), if_neg (fun q => hd (by rw [← a4]; exact q.symm))]
      exact a6
  · show (ru_to s' a' 0).2 ≤ ls'.length
    rw [ru_to_2]
    by_cases hd : rs_d s = 0
    · rw [if_pos (by rw [a4]; exact hd.symm)]
      exact (h0 hd).2
    · rw [if_neg (fun q => hd (by rw [← a4]; exact q.symm))]
      exact a7
theorem s4_jump {j : Nat} {ls ls' : List ln_T} {pg : px_T} {inp : List Int32} {s s' : rs_T} (h : dx_ j ls ls') (hs : s4_ j ls' s s') (x : ln_T) : s4_ j ls' (ru_jump (ls, pg, inp, 0, none) x s) (ru_jump (ls', pg, inp, 2 ^ j, none) x s') := by
  have hs0 := hs
  obtain ⟨a1, a2, a3, a4, a5, a6, a7⟩ := hs
  obtain ⟨f1, f2, f3⟩ := s4_find h (ln_lb x)
  by_cases hd : rs_d s = 0
  · have e0 : ru_fd (ls, pg, inp, 0, none) x s = ru_find (ln_lb x) 0 ls := by unfold ru_fd; rw [if_pos hd, hd, ru_ls_0]; rfl
    have e1 : ru_fd (ls', pg, inp, 2 ^ j, none) x s' = ru_find (ln_lb x) (2 ^ j) ls' := by unfold ru_fd; rw [if_pos (by rw [a4]; exact hd), a4, hd, ru_ls_0]; rfl
    have l0 : ru_ls (ls, pg, inp, 0, none) (rs_s s) (rs_d s) = ls := by rw [hd, ru_ls_0]; rfl
    have l1 : ru_ls (ls', pg, inp, 2 ^ j, none) (rs_s s') (rs_d s') = ls' := by rw [a4, hd, ru_ls_0]; rfl
    unfold ru_jump
    rw [e0, e1, l0, l1]
    by_cases c : ru_find (ln_lb x) 0 ls < ls.length
    · rw [if_pos c, if_pos (f2.2 c)]
      exact s4_to hs0 (fun _ => ⟨f1, f3⟩) (fun q => absurd hd q) _ _ _ _ _ _
    · rw [if_neg c, if_neg (fun q => c (f2.1 q))]
      exact ⟨a1, a2, a3, a4, a5, a6, a7⟩
  · have hlsq := s4_ls (ls := ls) (pg := pg) (inp := inp) hs0 hd
    have e1 : ru_fd (ls', pg, inp, 2 ^ j, none) x s' = ru_fd (ls, pg, inp, 0, none) x s := by
      unfold ru_fd
      rw [hlsq, if_neg hd, if_neg (fun q => hd (by rw [← a4]; exact q))]
    unfold ru_jump
    rw [e1, hlsq]
    by_cases c : ru_fd (ls, pg, inp, 0, none) x s < (ru_ls (ls, pg, inp, 0, none) (rs_s s) (rs_d s)).length
    · simp only [if_pos c]
      exact s4_to hs0 (fun q => absurd q hd) (fun _ => rfl) _ _ _ _ _ _
    · simp only [if_neg c]
      exact ⟨a1, a2, a3, a4, a5, a6, a7⟩
theorem s4_do {j : Nat} {ls ls' : List ln_T} {pg : px_T} {inp : List Int32} {s s' : rs_T} (h : dx_ j ls ls') (hs : s4_ j ls' s s') (x : ln_T) : s4_ j ls' (ru_do (ls, pg, inp, 0, none) x s).1 (ru_do (ls', pg, inp, 2 ^ j, none) x s').1 ∧ (ru_do (ls', pg, inp, 2 ^ j, none) x s').2 = (ru_do (ls, pg, inp, 0, none) x s).2 := by
  have hs0 := hs
  have hv := fun v => s4_val (ls := ls) (pg := pg) (inp := inp) hs0 v
  have hg := s4_got hs0 (ln_A x)
  have hv2 := s4_val (ls := ls) (pg := pg) (inp := inp) hg (ln_B x)
  obtain ⟨a1, a2, a3, a4, a5, a6, a7⟩ := hs
  unfold ru_do
  by_cases o5 : ln_or x = nI 5
  · rw [if_pos o5, if_pos o5, a3]
    by_cases c8 : 8 ≤ (rs_o s).length
    · rw [if_pos c8, if_pos c8]; exact ⟨hg, rfl⟩
    · rw [if_neg c8, if_neg c8, if_neg (fun q => by cases q), if_neg (fun q => by cases q), hv]
      exact ⟨⟨a1, hg.2.1, rfl, a4, a5, a6, a7⟩, rfl⟩
  · rw [if_neg o5, if_neg o5]
    by_cases o6 : ln_or x = nI 6
    · rw [if_pos o6, if_pos o6]; exact ⟨s4_jump h hs0 x, rfl⟩
    · rw [if_neg o6, if_neg o6]
      by_cases o7 : ln_or x = nI 7
      · rw [if_pos o7, if_pos o7, hv, hv2]
        by_cases hh : ru_holds (ln_ts x) (ru_val (ls, pg, inp, 0, none) (ln_A x) s) (ru_val (ls, pg, inp, 0, none) (ln_B x) (ru_got (ln_A x) s)) = true
        · rw [if_pos hh, if_pos hh]; exact ⟨s4_jump h (s4_got hg _) x, rfl⟩
        · rw [if_neg hh, if_neg hh]; exact ⟨s4_got hg _, rfl⟩
      · rw [if_neg o7, if_neg o7]
        by_cases o8 : ln_or x = nI 8
        · rw [if_pos o8, if_pos o8]
          refine ⟨⟨a1, a2, a3, by show rs_d s' + 1 = rs_d s + 1; rw [a4], fun w hw => ?_, ?_, ?_⟩, rfl⟩
          · show ru_up (rs_s s') (rs_d s' + 1) _ w = ru_up (rs_s s) (rs_d s + 1) _ w
            rw [a4]
            unfold ru_up
            split
            · rfl
            · exact a5 w hw
          · show (ru_up (rs_s s) (rs_d s + 1) ((ln_cl x).toNatClampNeg, 0) 0).2 = mj_ j (ru_up (rs_s s') (rs_d s' + 1) ((ln_cl x).toNatClampNeg, 0) 0).2
            rw [ru_up_ne _ _ (by omega), ru_up_ne _ _ (by omega)]
            exact a6
          · show (ru_up (rs_s s') (rs_d s' + 1) ((ln_cl x).toNatClampNeg, 0) 0).2 ≤ _
            rw [ru_up_ne _ _ (by omega)]
            exact a7
        · rw [if_neg o8, if_neg o8]
          by_cases o9 : ln_or x = nI 9
          · rw [if_pos o9, if_pos o9]
            refine ⟨s4_to hs0 (fun hd => ?_) (fun hd => ?_) _ _ _ _ _ _, rfl⟩
            · rw [a4, hd, ru_ls_0, ru_ls_0]
              show ls.length = mj_ j ls'.length ∧ ls'.length ≤ ls'.length
              refine ⟨?_, Nat.le_refl _⟩
              have h1 := h.1
              have h2 := h.2.1
              unfold mj_
              rw [if_neg (by omega), h1]
              rfl
            · rw [s4_ls (ls := ls) (pg := pg) (inp := inp) hs0 hd]
          · rw [if_neg o9, if_neg o9]
            by_cases o10 : ln_or x = nI 10
            · rw [if_pos o10, if_pos o10]; exact ⟨hs0, rfl⟩
            · rw [if_neg o10, if_neg o10, hv]
              by_cases o4 : ln_or x = nI 4 ∧ ru_val (ls, pg, inp, 0, none) (ln_A x) s = nI 0
              · rw [if_pos o4, if_pos o4]; exact ⟨hg, rfl⟩
              · rw [if_neg o4, if_neg o4]
                refine ⟨⟨?_, hg.2.1, a3, a4, a5, a6, a7⟩, rfl⟩
                show ru_up (rs_c s') _ _ = ru_up (rs_c s) _ _
                rw [a1]
theorem s4_loop {j : Nat} {ls ls' : List ln_T} {pg : px_T} {inp : List Int32} (h : dx_ j ls ls') : ∀ n s s', s4_ j ls' s s' → rs_o (ru_loop (ls', pg, inp, 2 ^ j, none) n s').1 = rs_o (ru_loop (ls, pg, inp, 0, none) n s).1 ∧ (ru_loop (ls', pg, inp, 2 ^ j, none) n s').2 = (ru_loop (ls, pg, inp, 0, none) n s).2
  | 0, s, s', hs => by
    obtain ⟨c1, c2, -⟩ := s4_come (pg := pg) (inp := inp) h hs
    refine ⟨c1.2.2.1, ?_⟩
    show (if ru_is (ls', pg, inp, 2 ^ j, none) s' then 1 else 0) = (if ru_is (ls, pg, inp, 0, none) s then 1 else 0)
    rw [c2]
  | n + 1, s, s', hs => by
    obtain ⟨c1, c2, c3⟩ := s4_come (pg := pg) (inp := inp) h hs
    unfold ru_loop
    rw [c2]
    by_cases hi : ru_is (ls, pg, inp, 0, none) s = true
    · rw [if_pos hi, if_pos hi]
      have hlt := ru_come_lt (e := (ls', pg, inp, 2 ^ j, none)) (s := s') (by rw [c2]; exact hi)
      obtain ⟨t1, t2⟩ := s4_top (pg := pg) (inp := inp) h c1 (fun hd => ⟨c3 hi hd, by
        unfold ru_a at hlt
        rw [hd, ru_ls_0] at hlt
        exact hlt⟩)
      rw [t1]
      obtain ⟨d1, d2⟩ := s4_do (pg := pg) (inp := inp) h t2 (ru_top (ls, pg, inp, 0, none) (ru_come (ls, pg, inp, 0, none) s))
      rw [d2]
      by_cases h0 : (ru_do (ls, pg, inp, 0, none) (ru_top (ls, pg, inp, 0, none) (ru_come (ls, pg, inp, 0, none) s)) (ru_pre (ru_come (ls, pg, inp, 0, none) s))).2 = 0
      · rw [if_pos h0, if_pos h0]
        exact s4_loop h n _ _ d1
      · rw [if_neg h0, if_neg h0]
        exact ⟨d1.2.2.1, rfl⟩
    · rw [if_neg hi, if_neg hi]
      exact ⟨c1.2.2.1, rfl⟩
/-- a line more, that is lost: nothing is changed -/
theorem od_more {p : px_T} {t : tx_T} {ls ls' : List ln_T} {fu r j k : Nat} (h : dx_ j ls ls') : od2_ (en_of p t ls' (2 ^ j) k none) r fu = od2_ (en_of p t ls 0 k none) r fu := by
  obtain ⟨h1, h2⟩ := s4_loop (pg := p) (inp := tx_in t k) h fu (ru_init r) (ru_init r) ⟨rfl, rfl, rfl, rfl, fun _ _ => rfl, by
    show 0 = mj_ j 0
    unfold mj_
    rw [if_pos (Nat.zero_le _)], Nat.zero_le _⟩
  exact Prod.ext h2 h1
