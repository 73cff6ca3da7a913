/-! the component's run, without and with an aim -/
theorem s_runL0 {l : Launch} {κ : mm_K} {d : Nat} {K : mm_G → Prop} {e : en_T} {c r t fu : Nat} {v2 v3 : Int32} (he : en_ok e r) (hc : c ∈ rc_L) (hfu : fu ≤ 300) : ∀ (n : Nat) (G : mm_G) (s : rs_T), (rs_t s).length + n = fu → mg_i G 62 5 = nI fu → ce_ G e c r t → ca_ G e none → cs_ G e c r t none s → rs_ok e r s →
    (∀ G', cs_ G' e c r t none (ru_loop e n s).1 → fr_ fc_ G G' → mg_i G' 92 2 = nI (ru_loop e n s).2 → K G') →
    mV l κ true (d + 2) 0 0 m_X3_runs 12 [some (.ref 91), some (.ref c), some (.int v2), some (.int v3), some .null, some (.int (nI (rs_t s).length))] [] G (rV K)
  | 0, G, s, hn, hF, hE, hA, hS, hk, h => by
    refine p_X3_runs0_12 c (rc_row hc) v2 v3 _ ⟨fun z => absurd z (nI_nlt (by omega) (by omega)), fun _ => s_comes he hE hS hk (fun G' g1 g2 => ⟨fun z => ⟨fun _ => ?_, fun z2 => absurd ?_ z2⟩, fun z => ?_⟩)⟩
    · have hi : ru_is e s = true := by
        by_cases hi : ru_is e s = true
        · exact hi
        · rw [if_neg hi] at z; exact absurd rfl z
      have hL : ru_loop e 0 s = (ru_come e s, 1) := by unfold ru_loop; rw [if_pos hi]
      rw [hL] at h
      exact h _ (g1.stop _) (g2.si rfl) (by simp only [mg_i_i, mg_i_l, mg_i_r, mg_i_b, mg_l_i, mg_l_l, mg_l_r, mg_l_b, mg_r_i, mg_r_l, mg_r_r, mg_r_b, false_and, and_false, true_and, and_true, reduceCtorEq, if_true, if_false, reduceIte, Nat.reduceEqDiff, Nat.reduceAdd, Nat.succ_ne_self, ne_eq, not_false_eq_true, not_true_eq_false])
    · rw [g2.i _ _ (fc_F (by omega)), hF]
      exact nI_le (by omega) (by omega)
    · have hi : ¬ ru_is e s = true := by
        intro hi
        rw [if_pos hi] at z; exact absurd z (by decide)
      have hL : ru_loop e 0 s = (ru_come e s, 0) := by unfold ru_loop; rw [if_neg hi]
      rw [hL] at h
      exact h _ (g1.stop _) (g2.si rfl) (by simp only [mg_i_i, mg_i_l, mg_i_r, mg_i_b, mg_l_i, mg_l_l, mg_l_r, mg_l_b, mg_r_i, mg_r_l, mg_r_r, mg_r_b, false_and, and_false, true_and, and_true, reduceCtorEq, if_true, if_false, reduceIte, Nat.reduceEqDiff, Nat.reduceAdd, Nat.succ_ne_self, ne_eq, not_false_eq_true, not_true_eq_false])
  | n + 1, G, s, hn, hF, hE, hA, hS, hk, h => by
    refine p_X3_runs0_12 c (rc_row hc) v2 v3 _ ⟨fun z => absurd z (nI_nlt (by omega) (by omega)), fun _ => s_comes he hE hS hk (fun G' g1 g2 => ⟨fun z => ⟨fun z2 => ?_, fun _ => ⟨fun _ => ?_, fun z2 => absurd (nI_lt (by omega) (by omega)) z2⟩⟩, fun z => ?_⟩)⟩
    · rw [g2.i _ _ (fc_F (by omega)), hF, nI_leI (by omega) (by omega)] at z2
      omega
    · have hi : ru_is e s = true := by
        by_cases hi : ru_is e s = true
        · exact hi
        · rw [if_neg hi] at z; exact absurd rfl z
      have hlt := ru_come_lt hi
      have hko := ru_come_ok he hk
      have hE2 := hE.fc g2 he.2.2.1
      have htl : (rs_t (ru_come e s)).length < 300 := by rw [rs_t_come]; omega
      refine s_doesLine he hE2 (hA.fc g2) g1 hko hlt htl (fun G2 b g3 g4 g5 => ⟨fun zb => ?_, fun zb => ?_⟩)
      · have h0 : (ru_do e (ru_top e (ru_come e s)) (ru_pre (ru_come e s))).2 = 0 := by
          by_cases h0 : (ru_do e (ru_top e (ru_come e s)) (ru_pre (ru_come e s))).2 = 0
          · exact h0
          · exact absurd (g5.2 h0).1 zb
        have hL : ru_loop e (n + 1) s = ru_loop e n (ru_do e (ru_top e (ru_come e s)) (ru_pre (ru_come e s))).1 := by
          show (if _ then _ else _) = _
          rw [if_pos hi, if_pos h0]
        rw [hL] at h
        have hlen : (rs_t (ru_do e (ru_top e (ru_come e s)) (ru_pre (ru_come e s))).1).length = (rs_t s).length + 1 := by
          rw [rs_t_do]
          show (rs_t (ru_come e s) ++ [_]).length = _
          rw [List.length_append, rs_t_come]
          rfl
        have hf := g2.trans g4
        have hnx := s_runL0 (l := l) (κ := κ) (d := d) (K := K) (v2 := v2) (v3 := v3) he hc hfu n G2 (ru_do e (ru_top e (ru_come e s)) (ru_pre (ru_come e s))).1 (by omega) (by rw [hf.i _ _ (fc_F (by omega))]; exact hF) (hE2.fc g4 he.2.2.1) ((hA.fc g2).fc g4) g3 (ru_do_ok (ru_pre_ok hko hlt) (by have := he.2.2.1; have := he.2.2.2.2.2.1; omega) (by
            show ln_ok (ru_to (ru_come e s) (ru_a (ru_come e s) + 1) (rs_d (ru_come e s))).1 _
            rw [ru_to_1]
            exact ln_ok_at he hko hlt)) (fun G' k1 k2 k3 => h G' k1 (hf.trans k2) k3)
        rw [hlen] at hnx
        rw [nI_add]
        exact hnx
      · have h0 : ¬ (ru_do e (ru_top e (ru_come e s)) (ru_pre (ru_come e s))).2 = 0 := by
          intro h0
          rw [g5.1 h0] at zb
          exact absurd zb (by decide)
        have hL : ru_loop e (n + 1) s = ((ru_do e (ru_top e (ru_come e s)) (ru_pre (ru_come e s))).1, (ru_do e (ru_top e (ru_come e s)) (ru_pre (ru_come e s))).2 - 1) := by
          show (if _ then _ else _) = _
          rw [if_pos hi, if_neg h0]
        rw [hL] at h
        exact h _ g3 (g2.trans g4) (g5.2 h0).2
    · have hi : ¬ ru_is e s = true := by
        intro hi
        rw [if_pos hi] at z; exact absurd z (by decide)
      have hL : ru_loop e (n + 1) s = (ru_come e s, 0) := by
        show (if _ then _ else _) = _
        rw [if_neg hi]
      rw [hL] at h
      exact h _ (g1.stop _) (g2.si rfl) (by simp only [mg_i_i, mg_i_l, mg_i_r, mg_i_b, mg_l_i, mg_l_l, mg_l_r, mg_l_b, mg_r_i, mg_r_l, mg_r_r, mg_r_b, false_and, and_false, true_and, and_true, reduceCtorEq, if_true, if_false, reduceIte, Nat.reduceEqDiff, Nat.reduceAdd, Nat.succ_ne_self, ne_eq, not_false_eq_true, not_true_eq_false])
theorem s_begin0 {l : Launch} {κ : mm_K} {d : Nat} {G : mm_G} {K : mm_G → Prop} {e : en_T} {c r t : Nat} (hc : c ∈ rc_L)
    (h : ∀ G', cs_ G' e c r t none (ru_init r) → fr_ fc_ G G' → K G') : mC l κ true (d + 1) 0 0 m_X3_begin [.ref 91, .ref c, .int (nI (en_lo e)), .int (nI t), .null] G (rV K) := by
  refine e_X3_begin0 c (rc_row hc) _ _ (e_X0_begin 92 mm_deed3 ?_)
  suffices H : ∀ n i G1, i + n = 4 → (∀ j, j < i → mg_i G1 94 j = nI 0) → mg_i G1 92 1 = nI 0 → mg_i G1 92 3 = nI 0 → fr_ fc_ G G1 → mV l κ true (d + 1) 0 0 m_X3_begin 10 [some (.ref 91), some (.ref c), some (.int (nI (en_lo e))), some (.int (nI t)), some .null, some (.int (nI i))] [] G1 (rV K) from
    H 4 0 _ rfl (fun j hj => absurd hj (Nat.not_lt_zero j)) (by simp only [mg_i_i, mg_i_l, mg_i_r, mg_i_b, mg_l_i, mg_l_l, mg_l_r, mg_l_b, mg_r_i, mg_r_l, mg_r_r, mg_r_b, false_and, and_false, true_and, and_true, reduceCtorEq, if_true, if_false, reduceIte, Nat.reduceEqDiff, Nat.reduceAdd, Nat.succ_ne_self, ne_eq, not_false_eq_true, not_true_eq_false]) (by simp only [mg_i_i, mg_i_l, mg_i_r, mg_i_b, mg_l_i, mg_l_l, mg_l_r, mg_l_b, mg_r_i, mg_r_l, mg_r_r, mg_r_b, false_and, and_false, true_and, and_true, reduceCtorEq, if_true, if_false, reduceIte, Nat.reduceEqDiff, Nat.reduceAdd, Nat.succ_ne_self, ne_eq, not_false_eq_true, not_true_eq_false]) (((fr_.rfl'.si rfl).si rfl).si rfl)
  intro n
  induction n with
  | zero =>
    intro i G1 hi hj h1 h3 hf
    have e0 : (nI 0).toNatClampNeg = 0 := nI_clamp (by omega)
    refine p_X3_begin0_10 c (rc_row hc) _ _ _ ⟨fun _ => ⟨(ki_vp (by omega)).2 (by omega), (ki_vp (by omega)).2 (by omega), ?_⟩, fun z => absurd (nI_le (by omega) (by omega)) z⟩
    rw [e0]
    refine h _ ?_ ((((((((((hf.si rfl).si rfl).si rfl).sr rfl).si rfl).si rfl).si rfl).si rfl).si rfl).sr rfl)
    refine ⟨?_, ?_, ?_, ?_, ?_, ?_, ?_, ?_, ?_, ?_, ?_, ?_, ?_, ?_, ?_⟩ <;> try simp only [mg_i_i, mg_i_l, mg_i_r, mg_i_b, mg_l_i, mg_l_l, mg_l_r, mg_l_b, mg_r_i, mg_r_l, mg_r_r, mg_r_b, false_and, and_false, true_and, and_true, reduceCtorEq, if_true, if_false, reduceIte, Nat.reduceEqDiff, Nat.reduceAdd, Nat.succ_ne_self, ne_eq, not_false_eq_true, not_true_eq_false] <;> try assumption
    · rfl
    · rfl
    · show (-1 : Int32) + nI 1 = nI 0; decide
    · rfl
    · show nI 0 = nI (min 0 _)
      rw [Nat.zero_min]
    · intro j hj; exact absurd hj (Nat.not_lt_zero j)
    · exact fun j hj4 => hj j (by omega)
    · intro j hj; exact absurd hj (Nat.not_lt_zero j)
    · intro j hj
      obtain rfl : j = 0 := Nat.le_zero.mp hj
      rfl
    · intro j hj
      obtain rfl : j = 0 := Nat.le_zero.mp hj
      rfl
  | succ n ih =>
    intro i G1 hi hj h1 h3 hf
    refine p_X3_begin0_10 c (rc_row hc) _ _ _ ⟨fun z => absurd z (nI_ge (by omega) (by omega)), fun _ => ⟨(ki_vp (by omega)).2 (by omega), ?_⟩⟩
    rw [nI_add, nI_clamp (by omega)]
    refine ih (i + 1) _ (by omega) (fun j hj2 => ?_) (by simp only [mg_i_i, mg_i_l, mg_i_r, mg_i_b, mg_l_i, mg_l_l, mg_l_r, mg_l_b, mg_r_i, mg_r_l, mg_r_r, mg_r_b, false_and, and_false, true_and, and_true, reduceCtorEq, if_true, if_false, reduceIte, Nat.reduceEqDiff, Nat.reduceAdd, Nat.succ_ne_self, ne_eq, not_false_eq_true, not_true_eq_false]; exact h1) (by simp only [mg_i_i, mg_i_l, mg_i_r, mg_i_b, mg_l_i, mg_l_l, mg_l_r, mg_l_b, mg_r_i, mg_r_l, mg_r_r, mg_r_b, false_and, and_false, true_and, and_true, reduceCtorEq, if_true, if_false, reduceIte, Nat.reduceEqDiff, Nat.reduceAdd, Nat.succ_ne_self, ne_eq, not_false_eq_true, not_true_eq_false]; exact h3) (hf.si rfl)
    simp only [mg_i_i, mg_i_l, mg_i_r, mg_i_b, mg_l_i, mg_l_l, mg_l_r, mg_l_b, mg_r_i, mg_r_l, mg_r_r, mg_r_b, false_and, and_false, true_and, and_true, reduceCtorEq, if_true, if_false, reduceIte, Nat.reduceEqDiff, Nat.reduceAdd, Nat.succ_ne_self, ne_eq, not_false_eq_true, not_true_eq_false]
    split
    · rfl
    · exact hj j (by omega)
theorem s_runs0 {l : Launch} {κ : mm_K} {d : Nat} {G : mm_G} {K : mm_G → Prop} {e : en_T} {c r t fu : Nat} (he : en_ok e r) (hfu : fu ≤ 300) (hF : mg_i G 62 5 = nI fu) (hE : ce_ G e c r t) (hA : ca_ G e none)
    (h : ∀ G', cs_ G' e c r t none (ru_run e r fu).1 → fr_ fc_ G G' → mg_i G' 92 2 = nI (ru_run e r fu).2 → K G') : mC l κ true (d + 2) 0 0 m_X3_runs [.ref 91, .ref c, .int (nI (en_lo e)), .int (nI t), .null] G (rV K) := by
  refine e_X3_runs0 c (rc_row hE.1) _ _ (s_begin0 (r := r) hE.1 (fun G' g1 g2 => ?_))
  refine s_runL0 he hE.1 hfu fu G' (ru_init r) (Nat.zero_add _) (by rw [g2.i _ _ (fc_F (by omega))]; exact hF) (hE.fc g2 he.2.2.1) (hA.fc g2) g1 ?_ (fun G'' k1 k2 k3 => h G'' k1 (g2.trans k2) k3)
  refine ⟨rfl, fun j hj => absurd hj (Nat.not_lt_zero j), fun j hj => ?_, Nat.zero_le _, Nat.zero_le _, (show 0 < 65536 by decide), Nat.zero_le _⟩
  exact Nat.zero_le _
theorem s_runL1 {l : Launch} {κ : mm_K} {d : Nat} {K : mm_G → Prop} {e : en_T} {c r t fu : Nat} {v2 v3 : Int32} {w : Nat} (hw : DeedAt w) (he : en_ok e r) (hc : c ∈ rc_L) (hfu : fu ≤ 300) : ∀ (n : Nat) (G : mm_G) (s : rs_T), (rs_t s).length + n = fu → mg_i G 62 5 = nI fu → ce_ G e c r t → ca_ G e (some w) → cs_ G e c r t (some w) s → rs_ok e r s →
    (∀ G', cs_ G' e c r t (some w) (ru_loop e n s).1 → fr_ fc_ G G' → mg_i G' 92 2 = nI (ru_loop e n s).2 → K G') →
    mV l κ true (d + 2) 0 0 m_X3_runs 12 [some (.ref 91), some (.ref c), some (.int v2), some (.int v3), some (.ref w), some (.int (nI (rs_t s).length))] [] G (rV K)
  | 0, G, s, hn, hF, hE, hA, hS, hk, h => by
    refine p_X3_runs1_12 c (rc_row hc) w hw v2 v3 _ ⟨fun z => absurd z (nI_nlt (by omega) (by omega)), fun _ => s_comes he hE hS hk (fun G' g1 g2 => ⟨fun z => ⟨fun _ => ?_, fun z2 => absurd ?_ z2⟩, fun z => ?_⟩)⟩
    · have hi : ru_is e s = true := by
        by_cases hi : ru_is e s = true
        · exact hi
        · rw [if_neg hi] at z; exact absurd rfl z
      have hL : ru_loop e 0 s = (ru_come e s, 1) := by unfold ru_loop; rw [if_pos hi]
      rw [hL] at h
      exact h _ (g1.stop _) (g2.si rfl) (by simp only [mg_i_i, mg_i_l, mg_i_r, mg_i_b, mg_l_i, mg_l_l, mg_l_r, mg_l_b, mg_r_i, mg_r_l, mg_r_r, mg_r_b, false_and, and_false, true_and, and_true, reduceCtorEq, if_true, if_false, reduceIte, Nat.reduceEqDiff, Nat.reduceAdd, Nat.succ_ne_self, ne_eq, not_false_eq_true, not_true_eq_false])
    · rw [g2.i _ _ (fc_F (by omega)), hF]
      exact nI_le (by omega) (by omega)
    · have hi : ¬ ru_is e s = true := by
        intro hi
        rw [if_pos hi] at z; exact absurd z (by decide)
      have hL : ru_loop e 0 s = (ru_come e s, 0) := by unfold ru_loop; rw [if_neg hi]
      rw [hL] at h
      exact h _ (g1.stop _) (g2.si rfl) (by simp only [mg_i_i, mg_i_l, mg_i_r, mg_i_b, mg_l_i, mg_l_l, mg_l_r, mg_l_b, mg_r_i, mg_r_l, mg_r_r, mg_r_b, false_and, and_false, true_and, and_true, reduceCtorEq, if_true, if_false, reduceIte, Nat.reduceEqDiff, Nat.reduceAdd, Nat.succ_ne_self, ne_eq, not_false_eq_true, not_true_eq_false])
  | n + 1, G, s, hn, hF, hE, hA, hS, hk, h => by
    refine p_X3_runs1_12 c (rc_row hc) w hw v2 v3 _ ⟨fun z => absurd z (nI_nlt (by omega) (by omega)), fun _ => s_comes he hE hS hk (fun G' g1 g2 => ⟨fun z => ⟨fun z2 => ?_, fun _ => ⟨fun _ => ?_, fun z2 => absurd (nI_lt (by omega) (by omega)) z2⟩⟩, fun z => ?_⟩)⟩
    · rw [g2.i _ _ (fc_F (by omega)), hF, nI_leI (by omega) (by omega)] at z2
      omega
    · have hi : ru_is e s = true := by
        by_cases hi : ru_is e s = true
        · exact hi
        · rw [if_neg hi] at z; exact absurd rfl z
      have hlt := ru_come_lt hi
      have hko := ru_come_ok he hk
      have hE2 := hE.fc g2 he.2.2.1
      have htl : (rs_t (ru_come e s)).length < 300 := by rw [rs_t_come]; omega
      refine s_doesLine he hE2 (hA.fc g2) g1 hko hlt htl (fun G2 b g3 g4 g5 => ⟨fun zb => ?_, fun zb => ?_⟩)
      · have h0 : (ru_do e (ru_top e (ru_come e s)) (ru_pre (ru_come e s))).2 = 0 := by
          by_cases h0 : (ru_do e (ru_top e (ru_come e s)) (ru_pre (ru_come e s))).2 = 0
          · exact h0
          · exact absurd (g5.2 h0).1 zb
        have hL : ru_loop e (n + 1) s = ru_loop e n (ru_do e (ru_top e (ru_come e s)) (ru_pre (ru_come e s))).1 := by
          show (if _ then _ else _) = _
          rw [if_pos hi, if_pos h0]
        rw [hL] at h
        have hlen : (rs_t (ru_do e (ru_top e (ru_come e s)) (ru_pre (ru_come e s))).1).length = (rs_t s).length + 1 := by
          rw [rs_t_do]
          show (rs_t (ru_come e s) ++ [_]).length = _
          rw [List.length_append, rs_t_come]
          rfl
        have hf := g2.trans g4
        have hnx := s_runL1 (l := l) (κ := κ) (d := d) (K := K) (v2 := v2) (v3 := v3) hw he hc hfu n G2 (ru_do e (ru_top e (ru_come e s)) (ru_pre (ru_come e s))).1 (by omega) (by rw [hf.i _ _ (fc_F (by omega))]; exact hF) (hE2.fc g4 he.2.2.1) ((hA.fc g2).fc g4) g3 (ru_do_ok (ru_pre_ok hko hlt) (by have := he.2.2.1; have := he.2.2.2.2.2.1; omega) (by
            show ln_ok (ru_to (ru_come e s) (ru_a (ru_come e s) + 1) (rs_d (ru_come e s))).1 _
            rw [ru_to_1]
            exact ln_ok_at he hko hlt)) (fun G' k1 k2 k3 => h G' k1 (hf.trans k2) k3)
        rw [hlen] at hnx
        rw [nI_add]
        exact hnx
      · have h0 : ¬ (ru_do e (ru_top e (ru_come e s)) (ru_pre (ru_come e s))).2 = 0 := by
          intro h0
          rw [g5.1 h0] at zb
          exact absurd zb (by decide)
        have hL : ru_loop e (n + 1) s = ((ru_do e (ru_top e (ru_come e s)) (ru_pre (ru_come e s))).1, (ru_do e (ru_top e (ru_come e s)) (ru_pre (ru_come e s))).2 - 1) := by
          show (if _ then _ else _) = _
          rw [if_pos hi, if_neg h0]
        rw [hL] at h
        exact h _ g3 (g2.trans g4) (g5.2 h0).2
    · have hi : ¬ ru_is e s = true := by
        intro hi
        rw [if_pos hi] at z; exact absurd z (by decide)
      have hL : ru_loop e (n + 1) s = (ru_come e s, 0) := by
        show (if _ then _ else _) = _
        rw [if_neg hi]
      rw [hL] at h
      exact h _ (g1.stop _) (g2.si rfl) (by simp only [mg_i_i, mg_i_l, mg_i_r, mg_i_b, mg_l_i, mg_l_l, mg_l_r, mg_l_b, mg_r_i, mg_r_l, mg_r_r, mg_r_b, false_and, and_false, true_and, and_true, reduceCtorEq, if_true, if_false, reduceIte, Nat.reduceEqDiff, Nat.reduceAdd, Nat.succ_ne_self, ne_eq, not_false_eq_true, not_true_eq_false])
theorem s_begin1 {l : Launch} {κ : mm_K} {d : Nat} {G : mm_G} {K : mm_G → Prop} {e : en_T} {c r t : Nat} {w : Nat} (hw : DeedAt w) (hc : c ∈ rc_L)
    (h : ∀ G', cs_ G' e c r t (some w) (ru_init r) → fr_ fc_ G G' → K G') : mC l κ true (d + 1) 0 0 m_X3_begin [.ref 91, .ref c, .int (nI (en_lo e)), .int (nI t), (.ref w)] G (rV K) := by
  refine e_X3_begin1 c (rc_row hc) _ _ w hw (e_X0_begin 92 mm_deed3 ?_)
  suffices H : ∀ n i G1, i + n = 4 → (∀ j, j < i → mg_i G1 94 j = nI 0) → mg_i G1 92 1 = nI 0 → mg_i G1 92 3 = nI 0 → fr_ fc_ G G1 → mV l κ true (d + 1) 0 0 m_X3_begin 10 [some (.ref 91), some (.ref c), some (.int (nI (en_lo e))), some (.int (nI t)), some (.ref w), some (.int (nI i))] [] G1 (rV K) from
    H 4 0 _ rfl (fun j hj => absurd hj (Nat.not_lt_zero j)) (by simp only [mg_i_i, mg_i_l, mg_i_r, mg_i_b, mg_l_i, mg_l_l, mg_l_r, mg_l_b, mg_r_i, mg_r_l, mg_r_r, mg_r_b, false_and, and_false, true_and, and_true, reduceCtorEq, if_true, if_false, reduceIte, Nat.reduceEqDiff, Nat.reduceAdd, Nat.succ_ne_self, ne_eq, not_false_eq_true, not_true_eq_false]) (by simp only [mg_i_i, mg_i_l, mg_i_r, mg_i_b, mg_l_i, mg_l_l, mg_l_r, mg_l_b, mg_r_i, mg_r_l, mg_r_r, mg_r_b, false_and, and_false, true_and, and_true, reduceCtorEq, if_true, if_false, reduceIte, Nat.reduceEqDiff, Nat.reduceAdd, Nat.succ_ne_self, ne_eq, not_false_eq_true, not_true_eq_false]) (((fr_.rfl'.si rfl).si rfl).si rfl)
  intro n
  induction n with
  | zero =>
    intro i G1 hi hj h1 h3 hf
    have e0 : (nI 0).toNatClampNeg = 0 := nI_clamp (by omega)
    refine p_X3_begin1_10 c (rc_row hc) w hw _ _ _ ⟨fun _ => ⟨(ki_vp (by omega)).2 (by omega), (ki_vp (by omega)).2 (by omega), ?_⟩, fun z => absurd (nI_le (by omega) (by omega)) z⟩
    rw [e0]
    refine h _ ?_ ((((((((((hf.si rfl).si rfl).si rfl).sr rfl).si rfl).si rfl).si rfl).si rfl).si rfl).sr rfl)
    refine ⟨?_, ?_, ?_, ?_, ?_, ?_, ?_, ?_, ?_, ?_, ?_, ?_, ?_, ?_, ?_⟩ <;> try simp only [mg_i_i, mg_i_l, mg_i_r, mg_i_b, mg_l_i, mg_l_l, mg_l_r, mg_l_b, mg_r_i, mg_r_l, mg_r_r, mg_r_b, false_and, and_false, true_and, and_true, reduceCtorEq, if_true, if_false, reduceIte, Nat.reduceEqDiff, Nat.reduceAdd, Nat.succ_ne_self, ne_eq, not_false_eq_true, not_true_eq_false] <;> try assumption
    · rfl
    · rfl
    · show (-1 : Int32) + nI 1 = nI 0; decide
    · rfl
    · show nI 0 = nI (min 0 _)
      rw [Nat.zero_min]
    · intro j hj; exact absurd hj (Nat.not_lt_zero j)
    · exact fun j hj4 => hj j (by omega)
    · intro j hj; exact absurd hj (Nat.not_lt_zero j)
    · intro j hj
      obtain rfl : j = 0 := Nat.le_zero.mp hj
      rfl
    · intro j hj
      obtain rfl : j = 0 := Nat.le_zero.mp hj
      rfl
  | succ n ih =>
    intro i G1 hi hj h1 h3 hf
    refine p_X3_begin1_10 c (rc_row hc) w hw _ _ _ ⟨fun z => absurd z (nI_ge (by omega) (by omega)), fun _ => ⟨(ki_vp (by omega)).2 (by omega), ?_⟩⟩
    rw [nI_add, nI_clamp (by omega)]
    refine ih (i + 1) _ (by omega) (fun j hj2 => ?_) (by simp only [mg_i_i, mg_i_l, mg_i_r, mg_i_b, mg_l_i, mg_l_l, mg_l_r, mg_l_b, mg_r_i, mg_r_l, mg_r_r, mg_r_b, false_and, and_false, true_and, and_true, reduceCtorEq, if_true, if_false, reduceIte, Nat.reduceEqDiff, Nat.reduceAdd, Nat.succ_ne_self, ne_eq, not_false_eq_true, not_true_eq_false]; exact h1) (by simp only [mg_i_i, mg_i_l, mg_i_r, mg_i_b, mg_l_i, mg_l_l, mg_l_r, mg_l_b, mg_r_i, mg_r_l, mg_r_r, mg_r_b, false_and, and_false, true_and, and_true, reduceCtorEq, if_true, if_false, reduceIte, Nat.reduceEqDiff, Nat.reduceAdd, Nat.succ_ne_self, ne_eq, not_false_eq_true, not_true_eq_false]; exact h3) (hf.si rfl)
    simp only [mg_i_i, mg_i_l, mg_i_r, mg_i_b, mg_l_i, mg_l_l, mg_l_r, mg_l_b, mg_r_i, mg_r_l, mg_r_r, mg_r_b, false_and, and_false, true_and, and_true, reduceCtorEq, if_true, if_false, reduceIte, Nat.reduceEqDiff, Nat.reduceAdd, Nat.succ_ne_self, ne_eq, not_false_eq_true, not_true_eq_false]
    split
    · rfl
    · exact hj j (by omega)
theorem s_runs1 {l : Launch} {κ : mm_K} {d : Nat} {G : mm_G} {K : mm_G → Prop} {e : en_T} {c r t fu : Nat} {w : Nat} (hw : DeedAt w) (he : en_ok e r) (hfu : fu ≤ 300) (hF : mg_i G 62 5 = nI fu) (hE : ce_ G e c r t) (hA : ca_ G e (some w))
    (h : ∀ G', cs_ G' e c r t (some w) (ru_run e r fu).1 → fr_ fc_ G G' → mg_i G' 92 2 = nI (ru_run e r fu).2 → K G') : mC l κ true (d + 2) 0 0 m_X3_runs [.ref 91, .ref c, .int (nI (en_lo e)), .int (nI t), (.ref w)] G (rV K) := by
  refine e_X3_runs1 c (rc_row hE.1) _ _ w hw (s_begin1 (r := r) hw hE.1 (fun G' g1 g2 => ?_))
  refine s_runL1 hw he hE.1 hfu fu G' (ru_init r) (Nat.zero_add _) (by rw [g2.i _ _ (fc_F (by omega))]; exact hF) (hE.fc g2 he.2.2.1) (hA.fc g2) g1 ?_ (fun G'' k1 k2 k3 => h G'' k1 (g2.trans k2) k3)
  refine ⟨rfl, fun j hj => absurd hj (Nat.not_lt_zero j), fun j hj => ?_, Nat.zero_le _, Nat.zero_le _, (show 0 < 65536 by decide), Nat.zero_le _⟩
  exact Nat.zero_le _
