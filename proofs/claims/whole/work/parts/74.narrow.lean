/-! suspicion: who is left -/
theorem tk_filter {p : Nat → Bool} {xs : List Nat} {i : Nat} (h : i < xs.length) : (xs.take (i + 1)).filter p = (xs.take i).filter p ++ (if p (xs.getD i 0) then [xs.getD i 0] else []) := by
  rw [List.take_add_one, List.getElem?_eq_getElem h, List.filter_append]
  congr 1
  rw [List.getD_eq_getElem?_getD, List.getElem?_eq_getElem h]
  show List.filter p [xs[i]] = if p xs[i] then [xs[i]] else []
  cases c : p xs[i] with
  | true => rw [List.filter_cons_of_pos c]; rfl
  | false => rw [List.filter_cons_of_neg (by rw [c]; decide)]; rfl
def lft_ (G : mm_G) (xs : List Nat) (z : Nat) : Prop := mg_i G 175 11 = nI xs.length ∧ xs.length ≤ 120 ∧ ∀ i, i < xs.length → mg_i G 177 i = nI (xs.getD i 0) ∧ xs.getD i 0 < z
def fL_ (c k : Nat) : Bool := decide (c = 177) || (decide (c = 175) && decide (k = 11))
theorem fL_F {c k : Nat} (h : c ≠ 177 ∧ (c ≠ 175 ∨ k ≠ 11)) : fL_ c k = false := by
  cases e : fL_ c k with
  | false => rfl
  | true =>
    unfold fL_ at e
    simp only [Bool.or_eq_true, Bool.and_eq_true, decide_eq_true_eq] at e
    omega
theorem gr_iff {P : ps_T} {r n t x : Nat} {q : Nat × List Int32} (hz : (sL_ P r n).length ≤ 120) (hx : x < (sL_ P r n).length) : (nI (gr_ P r n t x) = (if gf_ P r n t q (sL_ P r n).length < (sL_ P r n).length then nI (gf_ P r n t q (sL_ P r n).length) else -1)) ↔ sD_ P r n x t = q := by
  have hgle : gr_ P r n t x ≤ x := fa_first_le _ _
  constructor
  · intro e
    split at e
    · rename_i c
      have ee : gr_ P r n t x = gf_ P r n t q (sL_ P r n).length := (nI_eq (by omega) (by omega)).1 e
      have hq : decide (sD_ P r n (gf_ P r n t q (sL_ P r n).length) t = q) = true := fa_first_yes (fun j => decide (sD_ P r n j t = q)) _ c
      rw [← ee] at hq
      have hq := of_decide_eq_true hq
      rcases Nat.lt_or_eq_of_le hgle with y | y
      · have hy : decide (sD_ P r n (gr_ P r n t x) t = sD_ P r n x t) = true := fa_first_yes (fun j => decide (sD_ P r n j t = sD_ P r n x t)) x y
        rw [← of_decide_eq_true hy]; exact hq
      · rw [y] at hq; exact hq
    · rw [ki_m1 (by omega)] at e
      exact e.elim
  · intro e
    have hle : gf_ P r n t q (sL_ P r n).length ≤ x := by
      rcases Nat.lt_or_ge x (gf_ P r n t q (sL_ P r n).length) with y | y
      · have := fa_first_no (fun j => decide (sD_ P r n j t = q)) (sL_ P r n).length x y
        rw [decide_eq_true e] at this
        cases this
      · exact y
    rw [if_pos (by omega)]
    have hno : ∀ j, j < gf_ P r n t q (sL_ P r n).length → decide (sD_ P r n j t = sD_ P r n x t) = false := fun j hj => by
      have := fa_first_no (fun j => decide (sD_ P r n j t = q)) (sL_ P r n).length j hj
      rw [e]
      exact this
    have hyes : decide (sD_ P r n (gf_ P r n t q (sL_ P r n).length) t = q) = true := fa_first_yes (fun j => decide (sD_ P r n j t = q)) _ (by show gf_ P r n t q (sL_ P r n).length < _; omega)
    congr 1
    rcases Nat.lt_or_eq_of_le hle with y | y
    · exact ff_at hno (by rw [e]; exact hyes) y
    · rw [y] at hno
      rw [y]
      exact ff_no hno
theorem s_keepGroup {l : Launch} {κ : mm_K} {d : Nat} {G : mm_G} {K : mm_G → Prop} {P : ps_T} {r n t : Nat} {q : Nat × List Int32} {xs : List Nat} (hP : ps_ok P) (hn : n ≤ 2) (ht : t < 8) (hg : gU_ G P r n t (sL_ P r n).length) (hx : lft_ G xs (sL_ P r n).length)
    (h : ∀ G', lft_ G' (xs.filter (fun x => decide (sD_ P r n x t = q))) (sL_ P r n).length → fr_ fL_ G G' → K G') : mC l κ true d 0 0 m_X9_keepGroup [.ref 175, .int (nI t), .int (if gf_ P r n t q (sL_ P r n).length < (sL_ P r n).length then nI (gf_ P r n t q (sL_ P r n).length) else -1)] G (rV K) := by
  have h120 : (sL_ P r n).length ≤ 120 := su_120 (hP.1.2.2 r) hn
  obtain ⟨x1, x2, x3⟩ := hx
  refine e_X9_keepGroup _ _ ?_
  suffices H : ∀ w i G1, i + w = xs.length → fr_ fL_ G G1 → mg_i G1 175 11 = nI xs.length → ((xs.take i).filter (fun x => decide (sD_ P r n x t = q))).length ≤ i → (∀ j, j < ((xs.take i).filter (fun x => decide (sD_ P r n x t = q))).length → mg_i G1 177 j = nI (((xs.take i).filter (fun x => decide (sD_ P r n x t = q))).getD j 0) ∧ ((xs.take i).filter (fun x => decide (sD_ P r n x t = q))).getD j 0 < (sL_ P r n).length) → (∀ j, i ≤ j → j < xs.length → mg_i G1 177 j = nI (xs.getD j 0)) → mV l κ true d 0 0 m_X9_keepGroup 5 [some (.ref 175), some (.int (nI t)), some (.int (if gf_ P r n t q (sL_ P r n).length < (sL_ P r n).length then nI (gf_ P r n t q (sL_ P r n).length) else -1)), some (.int (nI ((xs.take i).filter (fun x => decide (sD_ P r n x t = q))).length)), some (.int (nI i))] [] G1 (rV K) from
    H _ 0 G (Nat.zero_add _) fr_.rfl' x1 (Nat.le_refl _) (fun j hj => absurd hj (Nat.not_lt_zero j)) (fun j _ hj => (x3 j hj).1)
  intro w
  induction w with
  | zero =>
    intro i G1 hi f1 e1 hle b1 b2
    obtain rfl : i = xs.length := by omega
    rw [List.take_length] at *
    refine p_X9_keepGroup_5 _ _ _ _ ⟨fun _ => h _ ⟨by simp only [mg_i_i, mg_i_l, mg_i_r, mg_i_b, mg_l_i, mg_l_l, mg_l_r, mg_l_b, mg_r_i, mg_r_l, mg_r_r, mg_r_b, false_and, and_false, true_and, and_true, reduceCtorEq, if_true, if_false, reduceIte, Nat.reduceEqDiff, Nat.reduceAdd, Nat.succ_ne_self, ne_eq, not_false_eq_true, not_true_eq_false], by omega, fun j hj => by simp only [mg_i_i, mg_i_l, mg_i_r, mg_i_b, mg_l_i, mg_l_l, mg_l_r, mg_l_b, mg_r_i, mg_r_l, mg_r_r, mg_r_b, false_and, and_false, true_and, and_true, reduceCtorEq, if_true, if_false, reduceIte, Nat.reduceEqDiff, Nat.reduceAdd, Nat.succ_ne_self, ne_eq, not_false_eq_true, not_true_eq_false]; exact b1 j hj⟩ (f1.si rfl), fun y => absurd (by rw [e1]; exact nI_le (by omega) (by omega)) y⟩
  | succ w ih =>
    intro i G1 hi f1 e1 hle b1 b2
    have hil : i < xs.length := by omega
    have hxi := (x3 i hil).2
    have ex := b2 i (Nat.le_refl _) hil
    have hgr : gr_ P r n t (xs.getD i 0) ≤ xs.getD i 0 := fa_first_le _ _
    have eg : mg_i G1 178 (8 * xs.getD i 0 + t) = nI (gr_ P r n t (xs.getD i 0)) := by rw [f1.i _ _ (fL_F (by omega))]; exact (hg _ hxi).1
    refine p_X9_keepGroup_5 _ _ _ _ ⟨fun y => absurd y (by rw [e1]; exact nI_ge (by omega) (by omega)), fun _ => ?_⟩
    rw [nI_clamp (by omega), ex, ki_mul, nI_add, nI_add, nI_add, nI_clamp (by omega), nI_clamp (by omega), show xs.getD i 0 * 8 + t = 8 * xs.getD i 0 + t by omega, eg, gr_iff h120 hxi]
    have etk := tk_filter (p := fun x => decide (sD_ P r n x t = q)) hil
    refine ⟨(ki_vp (by omega)).2 (by omega), (ki_vp (by omega)).2 (by omega), fun y => ?_, fun y => ⟨(ki_vp (by omega)).2 (by omega), (ki_vp (by omega)).2 (by omega), ?_⟩⟩
    · have ee : (xs.take (i + 1)).filter (fun x => decide (sD_ P r n x t = q)) = (xs.take i).filter (fun x => decide (sD_ P r n x t = q)) := by
        rw [etk]
        simp only [decide_eq_false y]
        exact List.append_nil _
      have hh := ih (i + 1) G1 (by omega) f1 e1 (by rw [ee]; omega) (by rw [ee]; exact b1) (fun j h1 h2 => b2 j (by omega) h2)
      rw [ee] at hh
      exact hh
    · have ee : (xs.take (i + 1)).filter (fun x => decide (sD_ P r n x t = q)) = (xs.take i).filter (fun x => decide (sD_ P r n x t = q)) ++ [xs.getD i 0] := by
        rw [etk]
        simp only [decide_eq_true y, if_true]
      have el : ((xs.take (i + 1)).filter (fun x => decide (sD_ P r n x t = q))).length = ((xs.take i).filter (fun x => decide (sD_ P r n x t = q))).length + 1 := by rw [ee, List.length_append]; rfl
      have hh := ih (i + 1) (ms_i G1 177 ((xs.take i).filter (fun x => decide (sD_ P r n x t = q))).length (nI (xs.getD i 0))) (by omega) (f1.si rfl) (by simp only [mg_i_i, mg_i_l, mg_i_r, mg_i_b, mg_l_i, mg_l_l, mg_l_r, mg_l_b, mg_r_i, mg_r_l, mg_r_r, mg_r_b, false_and, and_false, true_and, and_true, reduceCtorEq, if_true, if_false, reduceIte, Nat.reduceEqDiff, Nat.reduceAdd, Nat.succ_ne_self, ne_eq, not_false_eq_true, not_true_eq_false]; exact e1) (by omega) (fun j hj => ?_) (fun j h1 h2 => ?_)
      · rw [el] at hh
        exact hh
      · rw [el] at hj
        rw [ee]
        simp only [mg_i_i, mg_i_l, mg_i_r, mg_i_b, mg_l_i, mg_l_l, mg_l_r, mg_l_b, mg_r_i, mg_r_l, mg_r_r, mg_r_b, false_and, and_false, true_and, and_true, reduceCtorEq, if_true, if_false, reduceIte, Nat.reduceEqDiff, Nat.reduceAdd, Nat.succ_ne_self, ne_eq, not_false_eq_true, not_true_eq_false]
        by_cases c : j = ((xs.take i).filter (fun x => decide (sD_ P r n x t = q))).length
        · rw [if_pos c, c, ap_eq]; exact ⟨rfl, hxi⟩
        · rw [if_neg c, ap_lt (by omega)]; exact b1 j (by omega)
      · simp only [mg_i_i, mg_i_l, mg_i_r, mg_i_b, mg_l_i, mg_l_l, mg_l_r, mg_l_b, mg_r_i, mg_r_l, mg_r_r, mg_r_b, false_and, and_false, true_and, and_true, reduceCtorEq, if_true, if_false, reduceIte, Nat.reduceEqDiff, Nat.reduceAdd, Nat.succ_ne_self, ne_eq, not_false_eq_true, not_true_eq_false]
        rw [if_neg (by omega)]; exact b2 j (by omega) h2
