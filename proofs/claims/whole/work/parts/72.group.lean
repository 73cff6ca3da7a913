/-! suspicion: groups -/
def dd_ (G : mm_G) (o : Nat × List Int32) : Prop := mg_i G 92 2 = nI o.1 ∧ cd_ G 92 o.2 ∧ o.1 < 100
theorem dd_.fr {S : Nat → Nat → Bool} {G G1 : mm_G} {o : Nat × List Int32} (h : dd_ G o) (hf : fr_ S G G1) (hS : ∀ c k, c ≤ 97 → S c k = false) : dd_ G1 o := by
  obtain ⟨h1, ⟨h2, h3, h4⟩, h5⟩ := h
  refine ⟨by rw [hf.i _ _ (hS _ _ (by omega))]; exact h1, ⟨by rw [hf.i _ _ (hS _ _ (by omega))]; exact h2, h3, fun j hj => by rw [hf.i _ _ (hS _ _ (by omega))]; exact h4 j hj⟩, h5⟩
theorem s_isRec {l : Launch} {κ : mm_K} {d : Nat} {G : mm_G} {K : Int32 → mm_G → Prop} {at' : Nat} {o q : Nat × List Int32} (ha : at' < 960) (hr : rc_d G at' o) (hd : dd_ G q) (ho : o.1 < 100) (ho2 : o.2.length ≤ 8) (h : K (if o = q then nI 1 else nI 0) G) : mC l κ true d 0 0 m_X9_isRecorded [.ref 175, .int (nI (10 * at'))] G (rI K) := by
  obtain ⟨r1, r2, r3⟩ := hr
  obtain ⟨q1, ⟨q2, q3, q4⟩, q5⟩ := hd
  refine e_X9_isRecorded _ ?_
  rw [nI_add, nI_clamp (by omega), nI_clamp (by omega), r1, r2, q1, q2, nI_eq (by omega) (by omega), nI_eq (by omega) (by omega)]
  refine ⟨(ki_vp (by omega)).2 (by omega), fun z => ?_, fun z => ⟨(ki_vp (by omega)).2 (by omega), fun z2 => ?_, fun z2 => ?_⟩⟩
  · rw [if_neg (fun e => z (by rw [e]))] at h; exact h
  · suffices H : ∀ n i, i + n = q.2.length → (∀ j, j < i → o.2.getD j (nI 0) = q.2.getD j (nI 0)) → mV l κ true d 0 0 m_X9_isRecorded 44 [some (.ref 175), some (.int (nI (10 * at'))), some (.int (nI i))] [] G (rI K) from H _ 0 (Nat.zero_add _) (fun j hj => absurd hj (Nat.not_lt_zero j))
    intro n
    induction n with
    | zero =>
      intro i hi hj
      refine p_X9_isRecorded_44 _ _ ⟨fun _ => ?_, fun y => absurd (by rw [q2]; exact nI_le (by omega) (by omega)) y⟩
      rw [if_pos (Prod.ext z (ls_ext z2 (fun j y => hj j (by omega))))] at h
      exact h
    | succ n ih =>
      intro i hi hj
      refine p_X9_isRecorded_44 _ _ ⟨fun y => absurd y (by rw [q2]; exact nI_ge (by omega) (by omega)), fun _ => ?_⟩
      rw [nI_add, nI_add, nI_add, nI_clamp (by omega), nI_clamp (by omega), r3 i (by omega), q4 i (by omega)]
      refine ⟨(ki_vp (by omega)).2 (by omega), (ki_vp (by omega)).2 (by omega), fun y => ih (i + 1) (by omega) (fun j hj2 => ?_), fun y => ?_⟩
      · rcases Nat.lt_succ_iff_lt_or_eq.mp hj2 with c | c
        · exact hj j c
        · subst c; exact y
      · rw [if_neg (fun e => y (by rw [e]))] at h; exact h
  · rw [if_neg (fun e => z2 (by rw [e]))] at h; exact h
theorem sD_ok {P : ps_T} {r n i t : Nat} (hP : ps_ok P) (hr : r < (ps_p P).length) (hi : i < (sL_ P r n).length) : (sD_ P r n i t).1 < 100 ∧ (sD_ P r n i t).2.length ≤ 8 ∧ sv_ P r n i < 2 ^ (px_at (ps_p P) r).length := by
  have h16 := px_len_lt (hP.1.2.2 r)
  have hm := su_mem (gd_mem hi)
  have hs : sv_ P r n i < 2 ^ (px_at (ps_p P) r).length := hm.1
  obtain ⟨h1, h2, h3, h4⟩ := rr_ok (k := t) (lo := sv_ P r n i) hP hr (by omega)
  exact ⟨Nat.lt_of_le_of_lt h3 (by decide), h1, hs⟩
def gf_ (P : ps_T) (r n t : Nat) (q : Nat × List Int32) (m : Nat) : Nat := fa_first (fun j => decide (sD_ P r n j t = q)) m
theorem s_groupOf {l : Launch} {κ : mm_K} {d : Nat} {G : mm_G} {K : Int32 → mm_G → Prop} {P : ps_T} {r n t m : Nat} {q : Nat × List Int32} (hP : ps_ok P) (hr : r < (ps_p P).length) (hn : n ≤ 2) (ht : t < 8) (hm : m ≤ (sL_ P r n).length) (hg : gU_ G P r n t m) (hd : dd_ G q) (h : K (if gf_ P r n t q m < m then nI (gf_ P r n t q m) else -1) G) : mC l κ true (d + 1) 0 0 m_X9_groupOfDeed [.ref 175, .int (nI t), .int (nI m)] G (rI K) := by
  have h120 : (sL_ P r n).length ≤ 120 := su_120 (hP.1.2.2 r) hn
  refine e_X9_groupOfDeed _ _ ?_
  suffices H : ∀ w c, c + w = m → (∀ j, j < c → decide (sD_ P r n j t = q) = false) → mV l κ true (d + 1) 0 0 m_X9_groupOfDeed 2 [some (.ref 175), some (.int (nI t)), some (.int (nI m)), some (.int (nI c)), none] [] G (rI K) from H m 0 (Nat.zero_add _) (fun j hj => absurd hj (Nat.not_lt_zero j))
  intro w
  induction w with
  | zero =>
    intro c hc hno
    have e : gf_ P r n t q m = m := ff_no (fun j hj => hno j (by omega))
    rw [e, if_neg (Nat.lt_irrefl _)] at h
    exact p_X9_groupOfDeed_2 _ _ _ ⟨fun _ => h, fun y => absurd (nI_le (by omega) (by omega)) y⟩
  | succ w ih =>
    intro c hc hno
    obtain ⟨g1, g2⟩ := hg c (by omega)
    have hgle : gr_ P r n t c ≤ c := fa_first_le _ _
    have hstep : decide (sD_ P r n c t = q) = false → mV l κ true (d + 1) 0 0 m_X9_groupOfDeed 2 [some (.ref 175), some (.int (nI t)), some (.int (nI m)), some (.int (nI (c + 1))), none] [] G (rI K) := by
      intro hF
      refine ih (c + 1) (by omega) (fun j hj => ?_)
      rcases Nat.lt_succ_iff_lt_or_eq.mp hj with y | y
      · exact hno j y
      · subst y; exact hF
    refine p_X9_groupOfDeed_2 _ _ _ ⟨fun y => absurd y (nI_ge (by omega) (by omega)), fun _ => ?_⟩
    rw [ki_mul, nI_add, nI_add, nI_clamp (by omega), show c * 8 + t = 8 * c + t by omega, g1, nI_eq (by omega) (by omega)]
    refine ⟨(ki_vp (by omega)).2 (by omega), fun y => hstep ?_, fun y => ?_⟩
    · have hy : decide (sD_ P r n (gr_ P r n t c) t = sD_ P r n c t) = true := fa_first_yes (fun j => decide (sD_ P r n j t = sD_ P r n c t)) c (by show gr_ P r n t c < c; omega)
      have hy := of_decide_eq_true hy
      have hF := hno (gr_ P r n t c) (by omega)
      rw [hy] at hF
      exact hF
    · obtain ⟨d1, d2, d3⟩ := sD_ok (t := t) hP hr (show c < (sL_ P r n).length by omega)
      rw [ki_mul, show (8 * c + t) * 10 = 10 * (8 * c + t) by omega]
      refine s_isRec (by omega) (g2 y) hd d1 d2 ?_
      by_cases e : sD_ P r n c t = q
      · rw [if_pos e]
        refine ⟨fun y => absurd y (by decide), fun _ => ?_⟩
        have ef : gf_ P r n t q m = c := ff_at hno (decide_eq_true e) (by omega)
        rw [ef, if_pos (by omega)] at h
        exact h
      · rw [if_neg e]
        exact ⟨fun _ => hstep (decide_eq_false e), fun y => absurd rfl y⟩
def fW_ (a : Nat) (c k : Nat) : Bool := (decide (c = 178) && decide (k = a)) || (decide (c = 179) && (decide (10 * a ≤ k) && decide (k < 10 * a + 10)))
theorem fW_F {a c k : Nat} (h : (c ≠ 178 ∨ k ≠ a) ∧ (c ≠ 179 ∨ k < 10 * a ∨ 10 * a + 10 ≤ k)) : fW_ a c k = false := by
  cases e : fW_ a c k with
  | false => rfl
  | true =>
    unfold fW_ at e
    simp only [Bool.or_eq_true, Bool.and_eq_true, decide_eq_true_eq] at e
    omega
theorem fW_T {a c k : Nat} (h : (c = 178 ∧ k = a) ∨ (c = 179 ∧ 10 * a ≤ k ∧ k < 10 * a + 10)) : fW_ a c k = true := by
  unfold fW_
  simp only [Bool.or_eq_true, Bool.and_eq_true, decide_eq_true_eq]
  exact h
theorem rc_d.fW {G G1 : mm_G} {a b : Nat} {o : Nat × List Int32} (h : rc_d G b o) (hf : fr_ (fW_ a) G G1) (hab : b ≠ a) (ho : o.2.length ≤ 8) : rc_d G1 b o := by
  obtain ⟨h1, h2, h3⟩ := h
  refine ⟨by rw [hf.i _ _ (fW_F (by omega))]; exact h1, by rw [hf.i _ _ (fW_F (by omega))]; exact h2, fun j hj => by rw [hf.i _ _ (fW_F (by omega))]; exact h3 j hj⟩
theorem s_keepDeed {l : Launch} {κ : mm_K} {d : Nat} {G : mm_G} {K : mm_G → Prop} {c t : Nat} {q : Nat × List Int32} (hc : c < 120) (ht : t < 8) (hd : dd_ G q) (h : ∀ G', rc_d G' (8 * c + t) q → fr_ (fW_ (8 * c + t)) G G' → K G') : mC l κ true d 0 0 m_X9_keepDeed [.ref 175, .int (nI c), .int (nI t)] G (rV K) := by
  refine e_X9_keepDeed _ _ ?_
  have hq := hd
  obtain ⟨q1, ⟨q2, q3, q4⟩, q5⟩ := hq
  rw [ki_mul, nI_add, ki_mul, nI_add, nI_clamp (by omega), nI_clamp (by omega), show (c * 8 + t) * 10 = 10 * (8 * c + t) by omega, q1, q2]
  refine ⟨(ki_vp (by omega)).2 (by omega), (ki_vp (by omega)).2 (by omega), ?_⟩
  have f0 : fr_ (fW_ (8 * c + t)) G (ms_i (ms_i G 179 (10 * (8 * c + t)) (nI q.1)) 179 (10 * (8 * c + t) + 1) (nI q.2.length)) := (fr_.rfl'.si (fW_T (by omega))).si (fW_T (by omega))
  suffices H : ∀ n i G1, i + n = q.2.length → fr_ (fW_ (8 * c + t)) G G1 → mg_i G1 179 (10 * (8 * c + t)) = nI q.1 → mg_i G1 179 (10 * (8 * c + t) + 1) = nI q.2.length → (∀ j, j < i → mg_i G1 179 (10 * (8 * c + t) + 2 + j) = q.2.getD j (nI 0)) → mV l κ true d 0 0 m_X9_keepDeed 47 [some (.ref 175), some (.int (nI c)), some (.int (nI t)), some (.int (nI (10 * (8 * c + t)))), some (.int (nI i))] [] G1 (rV K) from
    H _ 0 _ (Nat.zero_add _) f0 (by simp only [mg_i_i, mg_i_l, mg_i_r, mg_i_b, mg_l_i, mg_l_l, mg_l_r, mg_l_b, mg_r_i, mg_r_l, mg_r_r, mg_r_b, false_and, and_false, true_and, and_true, reduceCtorEq, if_true, if_false, reduceIte, Nat.reduceEqDiff, Nat.reduceAdd, Nat.succ_ne_self, ne_eq, not_false_eq_true, not_true_eq_false]; rw [if_neg (by omega)]) (by simp only [mg_i_i, mg_i_l, mg_i_r, mg_i_b, mg_l_i, mg_l_l, mg_l_r, mg_l_b, mg_r_i, mg_r_l, mg_r_r, mg_r_b, false_and, and_false, true_and, and_true, reduceCtorEq, if_true, if_false, reduceIte, Nat.reduceEqDiff, Nat.reduceAdd, Nat.succ_ne_self, ne_eq, not_false_eq_true, not_true_eq_false]) (fun j hj => absurd hj (Nat.not_lt_zero j))
  intro n
  induction n with
  | zero =>
    intro i G1 hi f1 r1 r2 r3
    have hd1 := hd.fr f1 (fun c k hk => fW_F (by omega))
    exact p_X9_keepDeed_47 _ _ _ _ ⟨fun _ => h G1 ⟨r1, r2, fun j hj => r3 j (by omega)⟩ f1, fun y => absurd (by rw [hd1.2.1.1]; exact nI_le (by omega) (by omega)) y⟩
  | succ n ih =>
    intro i G1 hi f1 r1 r2 r3
    have hd1 := hd.fr f1 (fun c k hk => fW_F (by omega))
    refine p_X9_keepDeed_47 _ _ _ _ ⟨fun y => absurd y (by rw [hd1.2.1.1]; exact nI_ge (by omega) (by omega)), fun _ => ?_⟩
    rw [nI_add, nI_add, nI_add, nI_clamp (by omega), nI_clamp (by omega), hd1.2.1.2.2 i (by omega)]
    refine ⟨(ki_vp (by omega)).2 (by omega), (ki_vp (by omega)).2 (by omega), ih (i + 1) _ (by omega) (f1.si (fW_T (by omega))) ?_ ?_ (fun j hj => ?_)⟩
    · simp only [mg_i_i, mg_i_l, mg_i_r, mg_i_b, mg_l_i, mg_l_l, mg_l_r, mg_l_b, mg_r_i, mg_r_l, mg_r_r, mg_r_b, false_and, and_false, true_and, and_true, reduceCtorEq, if_true, if_false, reduceIte, Nat.reduceEqDiff, Nat.reduceAdd, Nat.succ_ne_self, ne_eq, not_false_eq_true, not_true_eq_false]; rw [if_neg (by omega)]; exact r1
    · simp only [mg_i_i, mg_i_l, mg_i_r, mg_i_b, mg_l_i, mg_l_l, mg_l_r, mg_l_b, mg_r_i, mg_r_l, mg_r_r, mg_r_b, false_and, and_false, true_and, and_true, reduceCtorEq, if_true, if_false, reduceIte, Nat.reduceEqDiff, Nat.reduceAdd, Nat.succ_ne_self, ne_eq, not_false_eq_true, not_true_eq_false]; rw [if_neg (by omega)]; exact r2
    · simp only [mg_i_i, mg_i_l, mg_i_r, mg_i_b, mg_l_i, mg_l_l, mg_l_r, mg_l_b, mg_r_i, mg_r_l, mg_r_r, mg_r_b, false_and, and_false, true_and, and_true, reduceCtorEq, if_true, if_false, reduceIte, Nat.reduceEqDiff, Nat.reduceAdd, Nat.succ_ne_self, ne_eq, not_false_eq_true, not_true_eq_false]
      by_cases e : j = i
      · rw [if_pos (by omega), e]
      · rw [if_neg (by omega)]; exact r3 j (by omega)
