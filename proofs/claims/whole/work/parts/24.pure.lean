/-! a line: order, tokens, name, counter, first value, second value, test, label, called; what an order has not is 0 -/
abbrev ln_T : Type := Int32 × Int32 × Int64 × Int32 × (Int32 × Int32) × (Int32 × Int32) × Int32 × Int64 × Int32
def ln_or (x : ln_T) : Int32 := x.1
def ln_tk (x : ln_T) : Int32 := x.2.1
def ln_nm (x : ln_T) : Int64 := x.2.2.1
def ln_ct (x : ln_T) : Int32 := x.2.2.2.1
def ln_A (x : ln_T) : Int32 × Int32 := x.2.2.2.2.1
def ln_B (x : ln_T) : Int32 × Int32 := x.2.2.2.2.2.1
def ln_ts (x : ln_T) : Int32 := x.2.2.2.2.2.2.1
def ln_lb (x : ln_T) : Int64 := x.2.2.2.2.2.2.2.1
def ln_cl (x : ln_T) : Int32 := x.2.2.2.2.2.2.2.2
def ln_0 : ln_T := (0, 0, 0, 0, (0, 0), (0, 0), 0, 0, 0)
def ln_mk (o tk : Int32) (nm : Int64) (ct kA vA kB vB ts : Int32) (lb : Int64) (cl : Int32) : ln_T :=
  (o, tk, nm, if o ≤ nI 4 then ct else nI 0, if o ≤ nI 5 ∨ o = nI 7 then (kA, vA) else (nI 0, nI 0), if o = nI 7 then (kB, vB) else (nI 0, nI 0), if o = nI 7 then ts else nI 0, if o = nI 6 ∨ o = nI 7 then lb else 0, if o = nI 8 then cl else nI 0)
def ln_okv (v : Int32 × Int32) : Prop := v.1 = nI 0 ∨ (v.1 = nI 1 ∧ ∃ c, c < 4 ∧ v.2 = nI c) ∨ v.1 = nI 2
def ln_ok (r : Nat) (x : ln_T) : Prop := (∃ k, k ≤ 10 ∧ ln_or x = nI k) ∧ (∃ c, c < 4 ∧ ln_ct x = nI c) ∧ ln_okv (ln_A x) ∧ ln_okv (ln_B x) ∧ (∃ j, j < 4 ∧ ln_ts x = nI j) ∧ (ln_or x = nI 8 → ∃ c, c < r ∧ ln_cl x = nI c)
/-- where a line of that name is first that is not lost; the row's length if there is none -/
def ln_at (ls : List ln_T) (i : Nat) : ln_T := ls.getD i ln_0
def ru_find (lb : Int64) (lost : Nat) (ls : List ln_T) : Nat := fa_first (fun i => decide (ln_nm (ln_at ls i) = lb) && !lost.testBit i) ls.length
/-! what a run stands in: the row's lines, the rows, the trial's numbers, the lost lines, an aim -/
abbrev en_T : Type := List ln_T × List (List ln_T) × List Int32 × Nat × Option (List Int32)
def en_ls (e : en_T) : List ln_T := e.1
def en_pg (e : en_T) : List (List ln_T) := e.2.1
def en_in (e : en_T) : List Int32 := e.2.2.1
def en_lo (e : en_T) : Nat := e.2.2.2.1
def en_am (e : en_T) : Option (List Int32) := e.2.2.2.2
/-! the machine: counters, taken, output, trace, depth, stack, lines met, how far it looked -/
abbrev rs_T : Type := (Nat → Int32) × Nat × List Int32 × List (Nat × Nat) × Nat × (Nat → Nat × Nat) × Nat × Nat
def rs_c (s : rs_T) : Nat → Int32 := s.1
def rs_k (s : rs_T) : Nat := s.2.1
def rs_o (s : rs_T) : List Int32 := s.2.2.1
def rs_t (s : rs_T) : List (Nat × Nat) := s.2.2.2.1
def rs_d (s : rs_T) : Nat := s.2.2.2.2.1
def rs_s (s : rs_T) : Nat → Nat × Nat := s.2.2.2.2.2.1
def rs_m (s : rs_T) : Nat := s.2.2.2.2.2.2.1
def rs_q (s : rs_T) : Nat := s.2.2.2.2.2.2.2
def ru_up {α : Type} (f : Nat → α) (i : Nat) (x : α) : Nat → α := fun j => if j = i then x else f j
theorem ru_up_eq {α : Type} (f : Nat → α) (i : Nat) (x : α) : ru_up f i x i = x := if_pos rfl
theorem ru_up_ne {α : Type} (f : Nat → α) {i j : Nat} (x : α) (h : j ≠ i) : ru_up f i x j = f j := if_neg h
/-- the lines of the j-th open row -/
def ru_ls (e : en_T) (s : Nat → Nat × Nat) (j : Nat) : List ln_T := if j = 0 then en_ls e else (en_pg e).getD (s j).1 []
def ru_val (e : en_T) (v : Int32 × Int32) (s : rs_T) : Int32 := if v.1 = nI 0 then v.2 else if v.1 = nI 1 then rs_c s v.2.toNatClampNeg else (en_in e).getD (rs_k s) (nI 0)
def ru_got (v : Int32 × Int32) (s : rs_T) : rs_T := (rs_c s, (if v.1 = nI 0 then rs_k s else if v.1 = nI 1 then rs_k s else rs_k s + 1), rs_o s, rs_t s, rs_d s, rs_s s, rs_m s, rs_q s)
def ru_dp (e : en_T) (s : Nat → Nat × Nat) : Nat → Nat
  | 0 => 0
  | j + 1 => if (s (j + 1)).2 < (ru_ls e s (j + 1)).length then j + 1 else ru_dp e s j
def ru_skip (lost : Nat) : Nat → Nat → Nat
  | 0, a => a
  | n + 1, a => if lost.testBit a then ru_skip lost n (a + 1) else a
def ru_low (e : en_T) (s : rs_T) : Nat := ru_skip (en_lo e) ((en_ls e).length - (rs_s s 0).2) (rs_s s 0).2
/-- on to the line that is to be done -/
def ru_come (e : en_T) (s : rs_T) : rs_T :=
  if ru_dp e (rs_s s) (rs_d s) = 0 then
    if ru_low e s < (en_ls e).length then (rs_c s, rs_k s, rs_o s, rs_t s, 0, ru_up (rs_s s) 0 ((rs_s s 0).1, ru_low e s), rs_m s ||| 2 ^ ru_low e s, max (rs_q s) (ru_low e s + 1))
    else (rs_c s, rs_k s, rs_o s, rs_t s, 0, ru_up (rs_s s) 0 ((rs_s s 0).1, ru_low e s), rs_m s, rs_q s)
  else (rs_c s, rs_k s, rs_o s, rs_t s, ru_dp e (rs_s s) (rs_d s), rs_s s, rs_m s, rs_q s)
def ru_is (e : en_T) (s : rs_T) : Bool := decide (ru_dp e (rs_s s) (rs_d s) ≠ 0 ∨ ru_low e s < (en_ls e).length)
def ru_a (s : rs_T) : Nat := (rs_s s (rs_d s)).2
def ru_top (e : en_T) (s : rs_T) : ln_T := ln_at (ru_ls e (rs_s s) (rs_d s)) (ru_a s)
def ru_tr (s : rs_T) : Nat × Nat := (if rs_d s = 0 then 0 else (rs_s s (rs_d s)).1 + 1, ru_a s)
def ru_to (s : rs_T) (a : Nat) : Nat → Nat × Nat := ru_up (rs_s s) (rs_d s) ((rs_s s (rs_d s)).1, a)
def ru_pre (s : rs_T) : rs_T := (rs_c s, rs_k s, rs_o s, rs_t s ++ [ru_tr s], rs_d s, ru_to s (ru_a s + 1), rs_m s, rs_q s)
def ru_fd (e : en_T) (x : ln_T) (s : rs_T) : Nat := ru_find (ln_lb x) (if rs_d s = 0 then en_lo e else 0) (ru_ls e (rs_s s) (rs_d s))
def ru_jump (e : en_T) (x : ln_T) (s : rs_T) : rs_T :=
  (rs_c s, rs_k s, rs_o s, rs_t s, rs_d s, (if ru_fd e x s < (ru_ls e (rs_s s) (rs_d s)).length then ru_to s (ru_fd e x s) else rs_s s), rs_m s,
   if rs_d s = 0 then max (rs_q s) (if ru_fd e x s < (ru_ls e (rs_s s) (rs_d s)).length then ru_fd e x s + 1 else (ru_ls e (rs_s s) (rs_d s)).length) else rs_q s)
def ru_holds (t v w : Int32) : Bool := if t = nI 0 then decide (v = w) else if t = nI 1 then decide (v ≠ w) else if t = nI 2 then decide (v < w) else decide (v ≤ w)
def ru_off (e : en_T) (v : Int32) (o : List Int32) : Bool := match en_am e with
  | none => false
  | some a => decide (a.length ≤ o.length ∨ a.getD o.length (nI 0) ≠ v)
def ru_ctr (o v x : Int32) : Int32 := if o = nI 0 then v else if o = nI 1 then x + v else if o = nI 2 then x - v else if o = nI 3 then x * v else x / v
/-- what a line does; 0: it goes on, n + 1: it stops by n -/
def ru_do (e : en_T) (x : ln_T) (s : rs_T) : rs_T × Nat :=
  if ln_or x = nI 5 then
    if 8 ≤ (rs_o s).length then (ru_got (ln_A x) s, 4)
    else if ru_off e (ru_val e (ln_A x) s) (rs_o s) then (ru_got (ln_A x) s, 5)
    else ((rs_c s, rs_k (ru_got (ln_A x) s), rs_o s ++ [ru_val e (ln_A x) s], rs_t s, rs_d s, rs_s s, rs_m s, rs_q s), 0)
  else if ln_or x = nI 6 then (ru_jump e x s, 0)
  else if ln_or x = nI 7 then
    if ru_holds (ln_ts x) (ru_val e (ln_A x) s) (ru_val e (ln_B x) (ru_got (ln_A x) s)) then (ru_jump e x (ru_got (ln_B x) (ru_got (ln_A x) s)), 0)
    else (ru_got (ln_B x) (ru_got (ln_A x) s), 0)
  else if ln_or x = nI 8 then ((rs_c s, rs_k s, rs_o s, rs_t s, rs_d s + 1, ru_up (rs_s s) (rs_d s + 1) ((ln_cl x).toNatClampNeg, 0), rs_m s, rs_q s), 0)
  else if ln_or x = nI 9 then ((rs_c s, rs_k s, rs_o s, rs_t s, rs_d s, ru_to s (ru_ls e (rs_s s) (rs_d s)).length, rs_m s, rs_q s), 0)
  else if ln_or x = nI 10 then (s, 0)
  else if ln_or x = nI 4 ∧ ru_val e (ln_A x) s = nI 0 then (ru_got (ln_A x) s, 3)
  else ((ru_up (rs_c s) (ln_ct x).toNatClampNeg (ru_ctr (ln_or x) (ru_val e (ln_A x) s) (rs_c s (ln_ct x).toNatClampNeg)), rs_k (ru_got (ln_A x) s), rs_o s, rs_t s, rs_d s, rs_s s, rs_m s, rs_q s), 0)
/-- the run with so much fuel left -/
def ru_loop (e : en_T) : Nat → rs_T → rs_T × Nat
  | 0, s => (ru_come e s, if ru_is e s then 1 else 0)
  | n + 1, s => if ru_is e s then
      (if (ru_do e (ru_top e (ru_come e s)) (ru_pre (ru_come e s))).2 = 0 then ru_loop e n (ru_do e (ru_top e (ru_come e s)) (ru_pre (ru_come e s))).1
       else ((ru_do e (ru_top e (ru_come e s)) (ru_pre (ru_come e s))).1, (ru_do e (ru_top e (ru_come e s)) (ru_pre (ru_come e s))).2 - 1))
    else (ru_come e s, 0)
def ru_init (r : Nat) : rs_T := (fun _ => nI 0, 0, [], [], 0, fun _ => (r, 0), 0, 0)
def ru_run (e : en_T) (r fu : Nat) : rs_T × Nat := ru_loop e fu (ru_init r)
/-! what stays true -/
def en_ok (e : en_T) (r : Nat) : Prop := (∀ x ∈ en_ls e, ln_ok r x) ∧ (en_ls e).length ≤ 16 ∧ (en_pg e).length ≤ 4 ∧ (∀ j, j < (en_pg e).length → ∀ x ∈ (en_pg e).getD j [], ln_ok j x) ∧ (∀ j, ((en_pg e).getD j []).length ≤ 16) ∧ r < (en_pg e).length ∧ en_lo e < 65536 ∧ (en_in e).length ≤ 6
def rs_ok (e : en_T) (r : Nat) (s : rs_T) : Prop := (rs_s s 0).1 = r ∧ (∀ j, j < rs_d s → (rs_s s (j + 1)).1 + (j + 1) ≤ r) ∧ (∀ j, j ≤ rs_d s → (rs_s s j).2 ≤ (ru_ls e (rs_s s) j).length) ∧ (rs_o s).length ≤ 8 ∧ rs_k s ≤ 2 * (rs_t s).length ∧ rs_m s < 65536 ∧ rs_q s ≤ (en_ls e).length
theorem ru_ls_0 (e : en_T) (s : Nat → Nat × Nat) : ru_ls e s 0 = en_ls e := if_pos rfl
theorem ru_ls_1 {e : en_T} {s : Nat → Nat × Nat} {j : Nat} (h : j ≠ 0) : ru_ls e s j = (en_pg e).getD (s j).1 [] := if_neg h
theorem ru_ls_up {e : en_T} {s : Nat → Nat × Nat} {i j r a : Nat} (h : (s i).1 = r) : ru_ls e (ru_up s i (r, a)) j = ru_ls e s j := by
  unfold ru_ls ru_up
  split
  · rfl
  · split
    · rename_i e2; subst e2; rw [h]
    · rfl
theorem ru_ls_le {e : en_T} {r : Nat} (h : en_ok e r) (s : Nat → Nat × Nat) (j : Nat) : (ru_ls e s j).length ≤ 16 := by
  obtain ⟨h1, h2, h3, h4, h5, h6, h7, h8⟩ := h
  unfold ru_ls
  split
  · exact h2
  · exact h5 _
theorem rs_ok.dle {e : en_T} {r : Nat} {s : rs_T} (h : rs_ok e r s) : rs_d s ≤ r := by
  rcases Nat.eq_zero_or_pos (rs_d s) with c | c
  · omega
  · have := h.2.1 (rs_d s - 1) (by omega)
    omega
theorem ru_dp_le (e : en_T) (s : Nat → Nat × Nat) : ∀ j, ru_dp e s j ≤ j
  | 0 => Nat.le_refl 0
  | j + 1 => by
    unfold ru_dp
    split
    · omega
    · exact Nat.le_succ_of_le (ru_dp_le e s j)
theorem ru_dp_lt (e : en_T) (s : Nat → Nat × Nat) : ∀ j, ru_dp e s j ≠ 0 → (s (ru_dp e s j)).2 < (ru_ls e s (ru_dp e s j)).length
  | 0, h => absurd rfl h
  | j + 1, h => by
    unfold ru_dp at h ⊢
    split
    · assumption
    · rename_i c
      rw [if_neg c] at h
      exact ru_dp_lt e s j h
theorem ru_skip_ge (lost : Nat) : ∀ n a, a ≤ ru_skip lost n a
  | 0, a => Nat.le_refl a
  | n + 1, a => by
    unfold ru_skip
    split
    · exact Nat.le_of_succ_le (ru_skip_ge lost n (a + 1))
    · exact Nat.le_refl a
theorem ru_skip_le (lost : Nat) : ∀ n a, ru_skip lost n a ≤ a + n
  | 0, a => Nat.le_refl a
  | n + 1, a => by
    unfold ru_skip
    split
    · have := ru_skip_le lost n (a + 1)
      omega
    · omega
theorem ru_low_le {e : en_T} {s : rs_T} (h : (rs_s s 0).2 ≤ (en_ls e).length) : ru_low e s ≤ (en_ls e).length := by
  have := ru_skip_le (en_lo e) ((en_ls e).length - (rs_s s 0).2) (rs_s s 0).2
  unfold ru_low
  omega
theorem ru_or_lt {m a : Nat} (h : m < 65536) (ha : a < 16) : m ||| 2 ^ a < 65536 := by
  have h1 : 2 ^ a < 2 ^ 16 := Nat.pow_lt_pow_right (by decide) ha
  exact Nat.or_lt_two_pow (n := 16) h h1
theorem ru_come_ok {e : en_T} {r : Nat} {s : rs_T} (he : en_ok e r) (h : rs_ok e r s) : rs_ok e r (ru_come e s) := by
  obtain ⟨h1, h2, h3, h4, h5, h6, h7⟩ := h
  have h0 := h3 0 (Nat.zero_le _)
  rw [ru_ls_0] at h0
  have hl := ru_low_le (e := e) (s := s) h0
  have hlen := he.2.1
  have hz : ∀ j, j ≤ 0 → (ru_up (rs_s s) 0 ((rs_s s 0).1, ru_low e s) j).2 ≤ (ru_ls e (ru_up (rs_s s) 0 ((rs_s s 0).1, ru_low e s)) j).length := by
    intro j hj
    obtain rfl : j = 0 := Nat.le_zero.mp hj
    rw [ru_up_eq, ru_ls_0]
    exact hl
  have hy : (ru_up (rs_s s) 0 ((rs_s s 0).1, ru_low e s) 0).1 = r := by rw [ru_up_eq]; exact h1
  unfold ru_come
  by_cases c1 : ru_dp e (rs_s s) (rs_d s) = 0
  · rw [if_pos c1]
    by_cases c2 : ru_low e s < (en_ls e).length
    · rw [if_pos c2]
      refine ⟨hy, fun j hj => absurd hj (Nat.not_lt_zero _), hz, h4, h5, ru_or_lt h6 (by omega), ?_⟩
      show max (rs_q s) (ru_low e s + 1) ≤ _
      omega
    · rw [if_neg c2]
      exact ⟨hy, fun j hj => absurd hj (Nat.not_lt_zero _), hz, h4, h5, h6, h7⟩
  · rw [if_neg c1]
    have hd := ru_dp_le e (rs_s s) (rs_d s)
    exact ⟨h1, fun j hj => h2 j (Nat.lt_of_lt_of_le hj hd), fun j hj => h3 j (Nat.le_trans hj hd), h4, h5, h6, h7⟩
theorem ru_come_lt {e : en_T} {s : rs_T} (h : ru_is e s = true) : ru_a (ru_come e s) < (ru_ls e (rs_s (ru_come e s)) (rs_d (ru_come e s))).length := by
  unfold ru_is at h
  have h := of_decide_eq_true h
  unfold ru_come ru_a
  by_cases c : ru_dp e (rs_s s) (rs_d s) = 0
  · have c2 : ru_low e s < (en_ls e).length := by
      rcases h with h | h
      · exact absurd c h
      · exact h
    rw [if_pos c, if_pos c2]
    simp only [rs_s, rs_d, ru_up_eq, ru_ls_0]
    exact c2
  · rw [if_neg c]
    exact ru_dp_lt e (rs_s s) (rs_d s) c
theorem ru_to_ls {e : en_T} {s : rs_T} {a j : Nat} : ru_ls e (ru_to s a) j = ru_ls e (rs_s s) j := ru_ls_up rfl
/-- a row of the stack set to another line -/
theorem rs_ok.to {e : en_T} {r a : Nat} {s : rs_T} (h : rs_ok e r s) (ha : a ≤ (ru_ls e (rs_s s) (rs_d s)).length) :
    (ru_to s a 0).1 = r ∧ (∀ j, j < rs_d s → (ru_to s a (j + 1)).1 + (j + 1) ≤ r) ∧ (∀ j, j ≤ rs_d s → (ru_to s a j).2 ≤ (ru_ls e (ru_to s a) j).length) := by
  obtain ⟨h1, h2, h3, -⟩ := h
  refine ⟨?_, fun j hj => ?_, fun j hj => ?_⟩
  · unfold ru_to ru_up
    split
    · rename_i c; rw [← c]; exact h1
    · exact h1
  · have := h2 j hj
    unfold ru_to ru_up
    split
    · rename_i c; rw [← c]; exact this
    · exact this
  · rw [ru_to_ls]
    have := h3 j hj
    unfold ru_to ru_up
    split
    · rename_i c; subst c; exact ha
    · exact this
theorem ru_find_le (lb : Int64) (lost : Nat) (ls : List ln_T) : ru_find lb lost ls ≤ ls.length := fa_first_le _ _
theorem ru_jump_ok {e : en_T} {r : Nat} {x : ln_T} {s : rs_T} (h : rs_ok e r s) : rs_ok e r (ru_jump e x s) := by
  have hf : ru_fd e x s ≤ (ru_ls e (rs_s s) (rs_d s)).length := ru_find_le _ _ _
  have ht := h.to hf
  obtain ⟨h1, h2, h3, h4, h5, h6, h7⟩ := h
  have hq : (if rs_d s = 0 then max (rs_q s) (if ru_fd e x s < (ru_ls e (rs_s s) (rs_d s)).length then ru_fd e x s + 1 else (ru_ls e (rs_s s) (rs_d s)).length) else rs_q s) ≤ (en_ls e).length := by
    by_cases c0 : rs_d s = 0
    · rw [if_pos c0]
      rw [c0, ru_ls_0] at hf ⊢
      split
      · omega
      · omega
    · rw [if_neg c0]; exact h7
  unfold ru_jump
  by_cases c1 : ru_fd e x s < (ru_ls e (rs_s s) (rs_d s)).length
  · simp only [if_pos c1] at hq ⊢
    exact ⟨ht.1, ht.2.1, ht.2.2, h4, h5, h6, hq⟩
  · simp only [if_neg c1] at hq ⊢
    exact ⟨h1, h2, h3, h4, h5, h6, hq⟩
theorem ru_got_s (v : Int32 × Int32) (s : rs_T) : rs_s (ru_got v s) = rs_s s ∧ rs_d (ru_got v s) = rs_d s ∧ rs_o (ru_got v s) = rs_o s ∧ rs_t (ru_got v s) = rs_t s ∧ rs_c (ru_got v s) = rs_c s ∧ rs_m (ru_got v s) = rs_m s ∧ rs_q (ru_got v s) = rs_q s := ⟨rfl, rfl, rfl, rfl, rfl, rfl, rfl⟩
theorem ru_got_k (v : Int32 × Int32) (s : rs_T) : rs_k (ru_got v s) ≤ rs_k s + 1 := by
  show (if v.1 = nI 0 then rs_k s else if v.1 = nI 1 then rs_k s else rs_k s + 1) ≤ _
  split
  · omega
  · split <;> omega
/-- all but the count of what was taken -/
def rs_ok2 (e : en_T) (r : Nat) (s : rs_T) : Prop := (rs_s s 0).1 = r ∧ (∀ j, j < rs_d s → (rs_s s (j + 1)).1 + (j + 1) ≤ r) ∧ (∀ j, j ≤ rs_d s → (rs_s s j).2 ≤ (ru_ls e (rs_s s) j).length) ∧ (rs_o s).length ≤ 8 ∧ rs_k s + 2 ≤ 2 * (rs_t s).length ∧ rs_m s < 65536 ∧ rs_q s ≤ (en_ls e).length
theorem ru_pre_ok {e : en_T} {r : Nat} {s : rs_T} (h : rs_ok e r s) (ha : ru_a s < (ru_ls e (rs_s s) (rs_d s)).length) : rs_ok2 e r (ru_pre s) := by
  have ht := h.to (a := ru_a s + 1) ha
  obtain ⟨c, k, o, t, d, sk, m, q⟩ := s
  obtain ⟨h1, h2, h3, h4, h5, h6, h7⟩ := h
  refine ⟨ht.1, ht.2.1, ht.2.2, h4, ?_, h6, h7⟩
  show k + 2 ≤ 2 * (t ++ [_]).length
  simp only [List.length_append, List.length_cons, List.length_nil]
  simp only [rs_k, rs_t] at h5
  omega
theorem rs_ok2.weak {e : en_T} {r : Nat} {s : rs_T} (h : rs_ok2 e r s) : rs_ok e r s := by
  obtain ⟨h1, h2, h3, h4, h5, h6, h7⟩ := h
  exact ⟨h1, h2, h3, h4, by omega, h6, h7⟩
theorem rs_ok2.got {e : en_T} {r : Nat} {s : rs_T} (h : rs_ok2 e r s) (v : Int32 × Int32) : rs_ok e r (ru_got v s) := by
  have hk := ru_got_k v s
  obtain ⟨h1, h2, h3, h4, h5, h6, h7⟩ := h
  refine ⟨h1, h2, h3, h4, ?_, h6, h7⟩
  show rs_k (ru_got v s) ≤ 2 * (rs_t s).length
  omega
theorem rs_ok2.got2 {e : en_T} {r : Nat} {s : rs_T} (h : rs_ok2 e r s) (v w : Int32 × Int32) : rs_ok e r (ru_got w (ru_got v s)) := by
  have hk := ru_got_k v s
  have hk2 := ru_got_k w (ru_got v s)
  obtain ⟨h1, h2, h3, h4, h5, h6, h7⟩ := h
  refine ⟨h1, h2, h3, h4, ?_, h6, h7⟩
  show rs_k (ru_got w (ru_got v s)) ≤ 2 * (rs_t s).length
  omega
theorem ru_do_ok {e : en_T} {r : Nat} {x : ln_T} {s : rs_T} (h : rs_ok2 e r s) (hr : r < 4) (hx : ln_ok (rs_s s (rs_d s)).1 x) : rs_ok e r (ru_do e x s).1 := by
  have hw := h.weak
  have hg := h.got (ln_A x)
  unfold ru_do
  split
  · split
    · exact hg
    · split
      · exact hg
      · obtain ⟨h1, h2, h3, h4, h5, h6, h7⟩ := hg
        rename_i c1 _
        refine ⟨h1, h2, h3, ?_, h5, h6, h7⟩
        show (rs_o s ++ [_]).length ≤ 8
        simp only [List.length_append, List.length_cons, List.length_nil]
        omega
  · split
    · exact ru_jump_ok hw
    · split
      · split
        · exact ru_jump_ok (h.got2 _ _)
        · exact h.got2 _ _
      · split
        · rename_i c8
          obtain ⟨cc, hc1, hc2⟩ := hx.2.2.2.2.2 c8
          have hle := hw.dle
          obtain ⟨h1, h2, h3, h4, h5, h6, h7⟩ := hw
          have hb : (rs_s s (rs_d s)).1 + rs_d s ≤ r := by
            rcases Nat.eq_zero_or_pos (rs_d s) with c | c
            · rw [c, h1]; omega
            · have := h2 (rs_d s - 1) (by omega)
              rw [Nat.sub_add_cancel c] at this
              omega
          have hcl : (ln_cl x).toNatClampNeg = cc := by
            rw [hc2]
            exact nI_clamp (by omega)
          refine ⟨?_, ?_, ?_, h4, h5, h6, h7⟩
          · show (ru_up (rs_s s) (rs_d s + 1) ((ln_cl x).toNatClampNeg, 0) 0).1 = r
            rw [ru_up_ne _ _ (by omega)]; exact h1
          · intro j hj
            show (ru_up (rs_s s) (rs_d s + 1) ((ln_cl x).toNatClampNeg, 0) (j + 1)).1 + (j + 1) ≤ r
            by_cases c : j = rs_d s
            · subst c
              rw [ru_up_eq]
              show (ln_cl x).toNatClampNeg + _ ≤ r
              rw [hcl]
              omega
            · rw [ru_up_ne _ _ (by omega)]
              exact h2 j (by simp only [rs_d] at hj c ⊢; omega)
          · intro j hj
            show (ru_up (rs_s s) (rs_d s + 1) ((ln_cl x).toNatClampNeg, 0) j).2 ≤ _
            by_cases c : j = rs_d s + 1
            · subst c; rw [ru_up_eq]; exact Nat.zero_le _
            · rw [ru_up_ne _ _ c]
              have e3 : ru_ls e (ru_up (rs_s s) (rs_d s + 1) ((ln_cl x).toNatClampNeg, 0)) j = ru_ls e (rs_s s) j := by
                unfold ru_ls
                rw [ru_up_ne _ _ c]
              show _ ≤ (ru_ls e (ru_up (rs_s s) (rs_d s + 1) ((ln_cl x).toNatClampNeg, 0)) j).length
              rw [e3]
              exact h3 j (by simp only [rs_d] at hj c ⊢; omega)
        · split
          · have ht := hw.to (a := (ru_ls e (rs_s s) (rs_d s)).length) (Nat.le_refl _)
            obtain ⟨h1, h2, h3, h4, h5, h6, h7⟩ := hw
            exact ⟨ht.1, ht.2.1, ht.2.2, h4, h5, h6, h7⟩
          · split
            · exact hw
            · split
              · exact hg
              · exact hg
