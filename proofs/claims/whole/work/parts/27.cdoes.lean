/-! the component does a line, and runs -/
theorem rd_or {G : mm_G} {y : Nat} {x : ln_T} (h : rd_c G y = x) : mg_i G y 1 = ln_or x := by rw [← h]; rfl
theorem rd_A {G : mm_G} {y k : Nat} {x : ln_T} (h : rd_c G y = x) (ho : ln_or x = nI k) (hk : k ≤ 5) : ln_A x = (mg_i G y 4, mg_i G y 5) := by
  have e1 := (rd_or h).trans ho
  have e2 : ¬ nI k = nI 7 := fun z => by rw [nI_eq (by omega) (by omega)] at z; omega
  rw [← h]
  unfold rd_c ln_mk ln_A
  rw [e1, if_neg e2, if_neg e2]
  exact if_pos (Or.inl (nI_le hk (by omega)))
theorem rd_ct {G : mm_G} {y k : Nat} {x : ln_T} (h : rd_c G y = x) (ho : ln_or x = nI k) (hk : k ≤ 4) : ln_ct x = mg_i G y 3 := by
  have e1 := (rd_or h).trans ho
  rw [← h]
  unfold rd_c ln_mk ln_ct
  rw [e1]
  exact if_pos (nI_le hk (by omega))
theorem rd_7 {G : mm_G} {y : Nat} {x : ln_T} (h : rd_c G y = x) (ho : ln_or x = nI 7) : ln_A x = (mg_i G y 6, mg_i G y 7) ∧ ln_B x = (mg_i G y 4, mg_i G y 5) ∧ ln_ts x = mg_i G y 8 ∧ ln_lb x = mg_l G y 9 := by
  have e1 := (rd_or h).trans ho
  rw [← h]
  unfold rd_c ln_mk ln_A ln_B ln_ts ln_lb
  rw [e1]
  exact ⟨rfl, rfl, rfl, rfl⟩
theorem rd_6 {G : mm_G} {y : Nat} {x : ln_T} (h : rd_c G y = x) (ho : ln_or x = nI 6) : ln_lb x = mg_l G y 9 := by
  have e1 := (rd_or h).trans ho
  rw [← h]
  unfold rd_c ln_mk ln_lb
  rw [e1]
  rfl
theorem rd_8 {G : mm_G} {y : Nat} {x : ln_T} (h : rd_c G y = x) (ho : ln_or x = nI 8) : ln_cl x = mg_i G y 10 := by
  have e1 := (rd_or h).trans ho
  rw [← h]
  unfold rd_c ln_mk ln_cl
  rw [e1]
  rfl
/-- what is told of a run's end -/
def ru_end (G : mm_G) (b : Int32) (n : Nat) : Prop := (n = 0 → b = nI 1) ∧ (n ≠ 0 → b = nI 0 ∧ mg_i G 92 2 = nI (n - 1))
theorem s_holds {l : Launch} {κ : mm_K} {d : Nat} {G : mm_G} {K : Int32 → mm_G → Prop} (t v w : Int32) (ht : ∃ j, j < 4 ∧ t = nI j) (h : K (if ru_holds t v w then nI 1 else nI 0) G) : mC l κ true d 0 0 m_X3_holds [.int t, .int v, .int w] G (rI K) := by
  obtain ⟨j, hj, rfl⟩ := ht
  refine e_X3_holds _ v w ?_
  rw [nI_toInt (by omega)]
  simp only [nI_eq (show j < 2 ^ 31 by omega) (show 0 < 2 ^ 31 by omega), nI_eq (show j < 2 ^ 31 by omega) (show 1 < 2 ^ 31 by omega), nI_eq (show j < 2 ^ 31 by omega) (show 2 < 2 ^ 31 by omega)]
  refine ⟨fun q => ?_, fun q => ?_, fun q => ?_, fun q => ?_⟩
  · subst q
    have hh : ru_holds (nI 0) v w = decide (v = w) := rfl
    rw [hh] at h
    exact ⟨fun z => by simpa [z] using h, fun z => by simpa [z] using h⟩
  · subst q
    have hh : ru_holds (nI 1) v w = decide (v ≠ w) := rfl
    rw [hh] at h
    exact ⟨fun z => by simpa [z] using h, fun z => by simpa [z] using h⟩
  · subst q
    have hh : ru_holds (nI 2) v w = decide (v < w) := rfl
    rw [hh] at h
    refine ⟨fun z => ?_, fun z => ?_⟩
    · rw [decide_eq_false (by rw [fa_lt]; rw [fa_le] at z; omega)] at h; exact h
    · rw [decide_eq_true (by rw [fa_lt]; rw [fa_le] at z; omega)] at h; exact h
  · obtain rfl : j = 3 := by omega
    have hh : ru_holds (nI 3) v w = decide (v ≤ w) := rfl
    rw [hh] at h
    refine ⟨fun z => ?_, fun z => ?_⟩
    · rw [decide_eq_false (by rw [fa_le]; rw [fa_lt] at z; omega)] at h; exact h
    · rw [decide_eq_true (by rw [fa_le]; rw [fa_lt] at z; omega)] at h; exact h
theorem s_enter {l : Launch} {κ : mm_K} {d : Nat} {G : mm_G} {K : mm_G → Prop} {e : en_T} {c r t : Nat} {q : Option Nat} {s : rs_T} (i : Nat) (hi : i < (en_pg e).length) (hp : (en_pg e).length ≤ 4) (hd : rs_d s < 3) (hE : ce_ G e c r t) (hS : cs_ G e c r t q s)
    (h : ∀ G', cs_ G' e c r t q (rs_c s, rs_k s, rs_o s, rs_t s, rs_d s + 1, ru_up (rs_s s) (rs_d s + 1) (i, 0), rs_m s, rs_q s) → fr_ fc_ G G' → K G') : mC l κ true d 0 0 m_X3_enter [.ref 91, .int (nI i)] G (rV K) := by
  obtain ⟨h1, h2, h3, h4, h5, h6, h7, h8, h9, h10, h11, h12, h13, h14, h15⟩ := hS
  have a4 := hE.2.2.2.1
  refine e_X3_enter _ ⟨fun z => absurd z (nI_pos (by omega)), fun _ => ⟨fun z => ?_, fun _ => ⟨fun z => ?_, fun _ => ?_⟩⟩⟩
  · rw [a4, nI_leI (by omega) (by omega)] at z; omega
  · rw [h4, nI_add, nI_leI (by omega) (by omega)] at z; omega
  · rw [h4, nI_add, nI_clamp (by omega), nI_clamp (by omega)]
    refine ⟨(ki_vp (by omega)).2 (by omega), (ki_vp (by omega)).2 (by omega), (ki_vp (by omega)).2 (by omega), h _ ?_ (((fr_.rfl'.si rfl).sr rfl).si rfl)⟩
    refine ⟨?_, ?_, ?_, ?_, ?_, ?_, ?_, ?_, ?_, ?_, ?_, ?_, ?_, ?_, ?_⟩ <;> try simp only [mg_i_i, mg_i_l, mg_i_r, mg_i_b, mg_l_i, mg_l_l, mg_l_r, mg_l_b, mg_r_i, mg_r_l, mg_r_r, mg_r_b, false_and, and_false, true_and, and_true, reduceCtorEq, if_true, if_false, reduceIte, Nat.reduceEqDiff, Nat.reduceAdd, Nat.succ_ne_self, ne_eq, not_false_eq_true, not_true_eq_false] <;> try assumption
    · rfl
    · intro j hj
      show (if j = rs_d s + 1 then some (54 + 2 * i) else mg_r G 96 j) = some (if j = 0 then c else 54 + 2 * (ru_up (rs_s s) (rs_d s + 1) (i, 0) j).1)
      split
      · rename_i z
        subst z
        rw [ru_up_eq, if_neg (by omega)]
      · rename_i z
        rw [ru_up_ne _ _ z]
        exact h14 j (by simp only [rs_d] at hj z ⊢; omega)
    · intro j hj
      show (if j = rs_d s + 1 then nI 0 else mg_i G 97 j) = nI (ru_up (rs_s s) (rs_d s + 1) (i, 0) j).2
      split
      · rename_i z
        subst z
        rw [ru_up_eq]
      · rename_i z
        rw [ru_up_ne _ _ z]
        exact h15 j (by simp only [rs_d] at hj z ⊢; omega)
theorem s_does74 {l : Launch} {κ : mm_K} {d : Nat} {G G2 : mm_G} {K : Int32 → mm_G → Prop} {e : en_T} {c r t : Nat} {q : Option Nat} {s : rs_T} {x : ln_T} {v1 y : Nat} {v2 : Int32} (he : en_ok e r) (hG : G2 = ms_i G 97 (rs_d s) (v2 + nI 1)) (hv1 : v1 ∈ rc_L) (hy : 285 ≤ y)
    (hE : ce_ G2 e c r t) (hA : ca_ G2 e q) (hS : cs_ G2 e c r t q s) (hk : rs_ok2 e r s) (hro : ro_ G2 v1 (ru_ls e (rs_s s) (rs_d s))) (hx : rd_c G2 y = x) (hxo : ln_ok (rs_s s (rs_d s)).1 x) (ht : (rs_t s).length ≤ 400)
    (h : ∀ G' b, cs_ G' e c r t q (ru_do e x s).1 → fr_ fc_ G2 G' → ru_end G' b (ru_do e x s).2 → K b G') : mV l κ true (d + 1) 0 0 m_X3_doesLine 74 [some (.ref 91), some (.ref v1), some (.int v2), some (.ref y), none] [] G (rI K) := by
  have hw := hk.weak
  have hd := hw.dle
  have hr : r < 4 := by have := he.2.2.1; have := he.2.2.2.2.2.1; omega
  have hlo := he.2.2.2.2.2.2.1
  have hkk : rs_k s + 2 ≤ 800 := by have := hk.2.2.2.2.1; omega
  have hd4 : mg_i G 91 10 = nI (rs_d s) := by
    have := hS.2.2.2.1
    rw [hG] at this
    exact this
  have hl4 : mg_i G 91 11 = nI (en_lo e) := by
    have := hS.2.2.2.2.1
    rw [hG] at this
    exact this
  have hyl : mg_l G y 9 = mg_l G2 y 9 := by rw [hG]; rfl
  refine p_X3_doesLine_74 v1 (rc_row hv1) v2 y (ln_At hy) ?_
  rw [hd4, hl4, hyl, nI_clamp (by omega), ← hG, rd_or hx, ki_0, nI_eq (by omega) (by omega)]
  have hfy : ∀ G', fr_ fc_ G2 G' → ∀ k, mg_i G' y k = mg_i G2 y k := fun G' hf k => hf.i _ _ (fc_F (by omega))
  have hfl : ∀ G', fr_ fc_ G2 G' → ∀ k, mg_l G' y k = mg_l G2 y k := fun G' hf k => hf.l _ _ (fc_F (by omega))
  have hvp : vp_in (nI (rs_d s)) 4 := (ki_vp (by omega)).2 (by omega)
  refine ⟨hvp, fun z => ?_, fun z => ?_, fun z => ?_, fun z => ?_, fun z => ?_, fun z => ?_, fun z => ?_⟩
  · have eA := rd_A hx z (by omega)
    unfold ru_do at h
    rw [if_pos z] at h
    have hs := s_valueOf (l := l) (κ := κ) (d := d) (ln_A x) hxo.2.2.1 he hE hS (by omega) (K := fun r5 G6 => mC l κ true d 0 0 m_X3_putsOut [.ref 91, .int r5] G6 (rI (fun r7 G8 => (r7 = nI 0 ∨ r7 = 1) ∧ K r7 G8))) (by
      intro G' g1 g2
      refine s_putsOut _ (hA.fc g2) g1 hk.2.2.2.1 (fun G3 c1 c2 c3 c4 => ⟨Or.inl rfl, ?_⟩) (fun G3 c1 c5 c2 c3 c4 => ⟨Or.inl rfl, ?_⟩) (fun G3 c1 c5 c2 c3 => ⟨Or.inr rfl, ?_⟩)
      · refine h G3 _ ?_ (g2.trans c3) ?_
        · rw [if_pos (show 8 ≤ (rs_o s).length from c1)]; exact c2
        · rw [if_pos (show 8 ≤ (rs_o s).length from c1)]; exact ⟨fun z => (nomatch z), fun _ => ⟨rfl, c4⟩⟩
      · have c5 : ru_off e (ru_val e (ln_A x) s) (rs_o s) = true := c5
        refine h G3 _ ?_ (g2.trans c3) ?_
        · rw [if_neg (show ¬ 8 ≤ (rs_o s).length from c1), if_pos c5]; exact c2
        · rw [if_neg (show ¬ 8 ≤ (rs_o s).length from c1), if_pos c5]; exact ⟨fun z => (nomatch z), fun _ => ⟨rfl, c4⟩⟩
      · have c5 : ¬ ru_off e (ru_val e (ln_A x) s) (rs_o s) = true := by
          have c5 : ru_off e (ru_val e (ln_A x) s) (rs_o s) = false := c5
          rw [c5]; decide
        refine h G3 _ ?_ (g2.trans c3) ?_
        · rw [if_neg (show ¬ 8 ≤ (rs_o s).length from c1), if_neg c5]; exact c2
        · rw [if_neg (show ¬ 8 ≤ (rs_o s).length from c1), if_neg c5]; exact ⟨fun _ => rfl, fun z => absurd rfl z⟩)
    rw [eA] at hs
    exact hs
  · have eL := rd_6 hx z
    unfold ru_do at h
    rw [if_neg (by rw [z]; decide), if_pos z] at h
    have hj : ∀ G', fr_ fc_ G2 G' → cs_ G' e c r t q s → mC l κ true d 0 0 m_X3_jump [.ref 91, .int (if ru_fd e x s < (ru_ls e (rs_s s) (rs_d s)).length then nI (ru_fd e x s) else -1)] G' (rV (fun G12 => K (nI 1) G12)) := by
      intro G' hf hS'
      exact s_jump x he (hE.fc hf he.2.2.1) hS' hw (fun G3 g1 g2 => h G3 _ g1 (hf.trans g2) ⟨fun _ => rfl, fun z => absurd rfl z⟩)
    unfold ru_fd at hj
    rw [eL] at hj
    refine ⟨fun c0 => ?_, fun c0 => ?_⟩
    · rw [if_neg c0] at hj
      exact s_where _ (rc_row hv1) hro (by omega) (hj G2 fr_.rfl' hS)
    · rw [if_pos c0] at hj
      exact s_where _ (rc_row hv1) hro (by omega) (hj G2 fr_.rfl' hS)
  · obtain ⟨eA, eB, eT, eL⟩ := rd_7 hx z
    unfold ru_do at h
    rw [if_neg (by rw [z]; decide), if_neg (by rw [z]; decide), if_pos z] at h
    have hs := s_valueOf (l := l) (κ := κ) (d := d) (ln_A x) hxo.2.2.1 he hE hS (by omega) (K := fun r17 G18 => mC l κ true d 0 0 m_X3_valueOf [.ref 91, .int (mg_i G18 y 4), .int (mg_i G18 y 5)] G18 (rI (fun r19 G20 => mC l κ true d 0 0 m_X3_holds [.int (mg_i G18 y 8), .int r17, .int r19] G20 (rI (fun r21 G22 => ((r21 = nI 0 → K (nI 1) G22) ∧ (¬ r21 = nI 0 → ((¬ (mg_i G22 91 10) = nI 0 → mC l κ true d 0 0 m_X6_where [.ref v1, .long (mg_l G22 y 9), .int (nI 0)] G22 (rI (fun r23 G24 => mC l κ true d 0 0 m_X3_jump [.ref 91, .int r23] G24 (rV (fun G26 => K (nI 1) G26))))) ∧ ((mg_i G22 91 10) = nI 0 → mC l κ true d 0 0 m_X6_where [.ref v1, .long (mg_l G22 y 9), .int (mg_i G22 91 11)] G22 (rI (fun r27 G28 => mC l κ true d 0 0 m_X3_jump [.ref 91, .int r27] G28 (rV (fun G30 => K (nI 1) G30))))))))))))) (by
      intro G' g1 g2
      have hs2 := s_valueOf (l := l) (κ := κ) (d := d) (ln_B x) hxo.2.2.2.1 he (hE.fc g2 he.2.2.1) g1 (by have := ru_got_k (ln_A x) s; omega) (K := fun r19 G20 => mC l κ true d 0 0 m_X3_holds [.int (mg_i G' y 8), .int (ru_val e (ln_A x) s), .int r19] G20 (rI (fun r21 G22 => ((r21 = nI 0 → K (nI 1) G22) ∧ (¬ r21 = nI 0 → ((¬ (mg_i G22 91 10) = nI 0 → mC l κ true d 0 0 m_X6_where [.ref v1, .long (mg_l G22 y 9), .int (nI 0)] G22 (rI (fun r23 G24 => mC l κ true d 0 0 m_X3_jump [.ref 91, .int r23] G24 (rV (fun G26 => K (nI 1) G26))))) ∧ ((mg_i G22 91 10) = nI 0 → mC l κ true d 0 0 m_X6_where [.ref v1, .long (mg_l G22 y 9), .int (mg_i G22 91 11)] G22 (rI (fun r27 G28 => mC l κ true d 0 0 m_X3_jump [.ref 91, .int r27] G28 (rV (fun G30 => K (nI 1) G30))))))))))) (by
        intro G3 g3 g4
        have g5 := g2.trans g4
        have h4' : mg_i G3 91 10 = nI (rs_d s) := g3.2.2.2.1
        have h5' : mg_i G3 91 11 = nI (en_lo e) := g3.2.2.2.2.1
        refine s_holds _ _ _ ?_ ?_
        · rw [hfy G' g2, ← eT]; exact hxo.2.2.2.2.1
        · rw [hfy G' g2, ← eT, hfl G3 g5, ← eL, h4', h5', nI_eq (by omega) (by omega)]
          have hj : ru_holds (ln_ts x) (ru_val e (ln_A x) s) (ru_val e (ln_B x) (ru_got (ln_A x) s)) = true → mC l κ true d 0 0 m_X3_jump [.ref 91, .int (if ru_fd e x s < (ru_ls e (rs_s s) (rs_d s)).length then nI (ru_fd e x s) else -1)] G3 (rV (fun G12 => K (nI 1) G12)) := by
            intro hh
            rw [if_pos hh] at h
            exact s_jump (s := ru_got (ln_B x) (ru_got (ln_A x) s)) x he (hE.fc g5 he.2.2.1) g3 (hk.got2 _ _) (fun G4 g6 g7 => h G4 _ g6 (g5.trans g7) ⟨fun _ => rfl, fun z => absurd rfl z⟩)
          refine ⟨fun z2 => ?_, fun z2 => ⟨fun c0 => ?_, fun c0 => ?_⟩⟩
          · have hh : ¬ ru_holds (ln_ts x) (ru_val e (ln_A x) s) (ru_val e (ln_B x) (ru_got (ln_A x) s)) = true := by
              intro hh
              rw [if_pos hh] at z2
              exact absurd z2 (by decide)
            rw [if_neg hh] at h
            exact h G3 _ g3 g5 ⟨fun _ => rfl, fun z => absurd rfl z⟩
          · have hh : ru_holds (ln_ts x) (ru_val e (ln_A x) s) (ru_val e (ln_B x) (ru_got (ln_A x) s)) = true := by
              by_cases hh : ru_holds (ln_ts x) (ru_val e (ln_A x) s) (ru_val e (ln_B x) (ru_got (ln_A x) s)) = true
              · exact hh
              · rw [if_neg hh] at z2; exact absurd rfl z2
            have hj := hj hh
            unfold ru_fd at hj
            rw [if_neg c0] at hj
            exact s_where _ (rc_row hv1) (hro.fc g5 (rc_ne hv1).1) (by omega) hj
          · have hh : ru_holds (ln_ts x) (ru_val e (ln_A x) s) (ru_val e (ln_B x) (ru_got (ln_A x) s)) = true := by
              by_cases hh : ru_holds (ln_ts x) (ru_val e (ln_A x) s) (ru_val e (ln_B x) (ru_got (ln_A x) s)) = true
              · exact hh
              · rw [if_neg hh] at z2; exact absurd rfl z2
            have hj := hj hh
            unfold ru_fd at hj
            rw [if_pos c0] at hj
            exact s_where _ (rc_row hv1) (hro.fc g5 (rc_ne hv1).1) (by omega) hj)
      rw [eB] at hs2
      rw [hfy G' g2, hfy G' g2]
      exact hs2)
    rw [eA] at hs
    exact hs
  · obtain ⟨i, hi, ei⟩ := hxo.2.2.2.2.2 z
    have eC := rd_8 hx z
    have hb : (rs_s s (rs_d s)).1 + rs_d s ≤ r := by
      rcases Nat.eq_zero_or_pos (rs_d s) with c0 | c0
      · rw [c0, hw.1]; omega
      · have := hw.2.1 (rs_d s - 1) (by omega)
        rw [Nat.sub_add_cancel c0] at this
        omega
    unfold ru_do at h
    rw [if_neg (by rw [z]; decide), if_neg (by rw [z]; decide), if_neg (by rw [z]; decide), if_pos z, ei, nI_clamp (by omega)] at h
    rw [← eC, ei]
    exact s_enter i (by have := he.2.2.2.2.2.1; omega) he.2.2.1 (by omega) hE hS (fun G' g1 g2 => h G' _ g1 g2 ⟨fun _ => rfl, fun z => absurd rfl z⟩)
  · unfold ru_do at h
    rw [if_neg (by rw [z]; decide), if_neg (by rw [z]; decide), if_neg (by rw [z]; decide), if_neg (by rw [z]; decide), if_pos z] at h
    rw [hro.1]
    exact ⟨hvp, h _ _ (hS.at' _) (fr_.rfl'.si rfl) ⟨fun _ => rfl, fun z => absurd rfl z⟩⟩
  · unfold ru_do at h
    rw [if_neg (by rw [z]; decide), if_neg (by rw [z]; decide), if_neg (by rw [z]; decide), if_neg (by rw [z]; decide), if_neg (by rw [z]; decide), if_pos z] at h
    exact h _ _ hS fr_.rfl' ⟨fun _ => rfl, fun z => absurd rfl z⟩
  · obtain ⟨k, hk10, ek⟩ := hxo.1
    rw [ek, nI_toInt (by omega)] at z
    have hk4 : k ≤ 4 := by omega
    have eA := rd_A hx ek (by omega)
    have eC := rd_ct hx ek hk4
    obtain ⟨i, hi, ei⟩ := hxo.2.1
    unfold ru_do at h
    have hne : ∀ m, 5 ≤ m → m ≤ 10 → ¬ nI k = nI m := fun m h5 h10 z => by rw [nI_eq (by omega) (by omega)] at z; omega
    rw [ek, if_neg (hne 5 (by omega) (by omega)), if_neg (hne 6 (by omega) (by omega)), if_neg (hne 7 (by omega) (by omega)), if_neg (hne 8 (by omega) (by omega)), if_neg (hne 9 (by omega) (by omega)), if_neg (hne 10 (by omega) (by omega)), ei, nI_clamp (by omega)] at h
    simp only [nI_eq (show k < 2 ^ 31 by omega) (show 4 < 2 ^ 31 by omega)] at h
    have hs := s_valueOf (l := l) (κ := κ) (d := d) (ln_A x) hxo.2.2.1 he hE hS (by omega) (K := fun r1 G2 => mC l κ true d 0 0 m_X3_reckons [.ref 91, .ref y, .int r1] G2 (rI (fun r3 G4 => (r3 = nI 0 ∨ r3 = 1) ∧ K r3 G4))) (by
      intro G' g1 g2
      refine s_reckons y (ln_At hy) _ i k g1 hi hk4 (by rw [hfy G' g2, rd_or hx, ek]) (by rw [hfy G' g2, ← eC, ei]) (fun G3 c1 c2 c3 c4 c5 => ⟨Or.inl rfl, ?_⟩) (fun G3 c1 c2 c3 => ⟨Or.inr rfl, ?_⟩)
      · refine h G3 _ ?_ (g2.trans c4) ?_
        · rw [if_pos ⟨c1, c2⟩]; exact c3
        · rw [if_pos ⟨c1, c2⟩]; exact ⟨fun z => (nomatch z), fun _ => ⟨rfl, c5⟩⟩
      · refine h G3 _ ?_ (g2.trans c3) ?_
        · rw [if_neg c1]; exact c2
        · rw [if_neg c1]; exact ⟨fun _ => rfl, fun z => absurd rfl z⟩)
    rw [eA] at hs
    exact hs
theorem cs_top {G : mm_G} {e : en_T} {c r t : Nat} {q : Option Nat} {s : rs_T} (he : en_ok e r) (hE : ce_ G e c r t) (hS : cs_ G e c r t q s) (hk : rs_ok e r s) : ∃ x, mg_r G 96 (rs_d s) = some x ∧ x ∈ rc_L ∧ ro_ G x (ru_ls e (rs_s s) (rs_d s)) ∧ mg_i G x 2 = nI (rs_s s (rs_d s)).1 ∧ (rs_s s (rs_d s)).1 < (en_pg e).length ∧ (rs_s s (rs_d s)).1 + rs_d s ≤ r := by
  have h14 := hS.2.2.2.2.2.2.2.2.2.2.2.2.2.1 (rs_d s) (Nat.le_refl _)
  have hp := he.2.2.2.2.2.1
  have hp4 := he.2.2.1
  by_cases c0 : rs_d s = 0
  · rw [if_pos c0] at h14
    refine ⟨c, h14, hE.1, ?_, ?_, ?_, ?_⟩
    · rw [c0, ru_ls_0]; exact hE.2.1
    · rw [c0, hk.1]; exact hE.2.2.1
    · rw [c0, hk.1]; exact hp
    · rw [c0, hk.1]; omega
  · rw [if_neg c0] at h14
    have hb := hk.2.1 (rs_d s - 1) (by omega)
    rw [Nat.sub_add_cancel (by omega)] at hb
    have h5 := hE.2.2.2.2.1 (rs_s s (rs_d s)).1 (by omega)
    refine ⟨_, h14, rc_54 (by omega), ?_, h5.2, by omega, by omega⟩
    rw [ru_ls_1 c0]
    exact h5.1
theorem ln_ok_at {e : en_T} {r : Nat} {s : rs_T} (he : en_ok e r) (hk : rs_ok e r s) (ha : ru_a s < (ru_ls e (rs_s s) (rs_d s)).length) : ln_ok (rs_s s (rs_d s)).1 (ru_top e s) := by
  have hp := he.2.2.2.2.2.1
  have hm : ru_top e s ∈ ru_ls e (rs_s s) (rs_d s) := by
    unfold ru_top ln_at
    rw [List.getD_eq_getElem?_getD, List.getElem?_eq_getElem ha]
    exact List.getElem_mem ha
  by_cases c0 : rs_d s = 0
  · rw [c0, ru_ls_0] at hm
    rw [c0, hk.1]
    exact he.1 _ hm
  · have hb := hk.2.1 (rs_d s - 1) (by omega)
    rw [Nat.sub_add_cancel (by omega)] at hb
    rw [ru_ls_1 c0] at hm
    exact he.2.2.2.1 _ (by omega) _ hm
theorem cs_.pre {G G1 : mm_G} {e : en_T} {c r t : Nat} {q : Option Nat} {s : rs_T} (h : cs_ G e c r t q s) (hr : (rs_s s 0).1 = r) (h1 : G1 = (if rs_d s = 0 then ms_i (ms_i (ms_i G 95 (rs_t s).length (nI (20 * (rs_s s (rs_d s)).1 + ru_a s))) 91 3 (nI ((rs_t s).length + 1))) 91 4 (nI (ru_dn (rs_t s) ||| 2 ^ ru_a s)) else ms_i (ms_i G 95 (rs_t s).length (nI (20 * (rs_s s (rs_d s)).1 + ru_a s))) 91 3 (nI ((rs_t s).length + 1)))) :
    cs_ (ms_i G1 97 (rs_d s) (nI (ru_a s + 1))) e c r t q (ru_pre s) := by
  have hG : cs_ G1 e c r t q (rs_c s, rs_k s, rs_o s, rs_t s ++ [ru_tr s], rs_d s, rs_s s, rs_m s, rs_q s) := by
    obtain ⟨h1', h2, h3, h4, h5, h6, h7, h8, h9, h10, h11, h12, h13, h14, h15⟩ := h
    have hlen : (rs_t s ++ [ru_tr s]).length = (rs_t s).length + 1 := by rw [List.length_append]; rfl
    have htr : ∀ j, j < (rs_t s).length + 1 → (if j = (rs_t s).length then nI (20 * (rs_s s (rs_d s)).1 + ru_a s) else mg_i G 95 j) = nI (ru_code r ((rs_t s ++ [ru_tr s]).getD j (0, 0))) := by
      intro j hj
      split
      · rename_i z
        rw [z, ld_r]
        by_cases c0 : rs_d s = 0
        · have e1 : ru_tr s = (0, ru_a s) := by unfold ru_tr; rw [if_pos c0]
          rw [e1, c0, hr]
          rfl
        · have e1 : ru_tr s = ((rs_s s (rs_d s)).1 + 1, ru_a s) := by unfold ru_tr; rw [if_neg c0]
          rw [e1]
          unfold ru_code
          rw [if_neg (Nat.succ_ne_zero _)]
          rfl
      · rw [ld_l _ _ (by omega)]
        exact h13 j (by omega)
    by_cases c0 : rs_d s = 0
    · rw [if_pos c0] at h1
      subst h1
      refine ⟨?_, ?_, ?_, ?_, ?_, ?_, ?_, ?_, ?_, ?_, ?_, ?_, ?_, ?_, ?_⟩ <;> try simp only [mg_i_i, mg_i_l, mg_i_r, mg_i_b, mg_l_i, mg_l_l, mg_l_r, mg_l_b, mg_r_i, mg_r_l, mg_r_r, mg_r_b, false_and, and_false, true_and, and_true, reduceCtorEq, if_true, if_false, reduceIte, Nat.reduceEqDiff, Nat.reduceAdd, Nat.succ_ne_self, ne_eq, not_false_eq_true, not_true_eq_false] <;> try assumption
      · show _ = nI (rs_t s ++ [ru_tr s]).length
        rw [hlen]
      · show _ = nI (ru_dn (rs_t s ++ [ru_tr s]))
        rw [ru_dn_add]
        unfold ru_tr
        rw [if_pos c0]
        rfl
      · show ∀ j, j < (rs_t s ++ [ru_tr s]).length → _
        rw [hlen]
        exact htr
    · rw [if_neg c0] at h1
      subst h1
      refine ⟨?_, ?_, ?_, ?_, ?_, ?_, ?_, ?_, ?_, ?_, ?_, ?_, ?_, ?_, ?_⟩ <;> try simp only [mg_i_i, mg_i_l, mg_i_r, mg_i_b, mg_l_i, mg_l_l, mg_l_r, mg_l_b, mg_r_i, mg_r_l, mg_r_r, mg_r_b, false_and, and_false, true_and, and_true, reduceCtorEq, if_true, if_false, reduceIte, Nat.reduceEqDiff, Nat.reduceAdd, Nat.succ_ne_self, ne_eq, not_false_eq_true, not_true_eq_false] <;> try assumption
      · show _ = nI (rs_t s ++ [ru_tr s]).length
        rw [hlen]
      · show _ = nI (ru_dn (rs_t s ++ [ru_tr s]))
        rw [ru_dn_add]
        unfold ru_tr
        rw [if_neg c0, if_neg (Nat.succ_ne_zero _)]
        exact h2
      · show ∀ j, j < (rs_t s ++ [ru_tr s]).length → _
        rw [hlen]
        exact htr
  exact hG.at' (ru_a s + 1)
theorem s_doesLine {l : Launch} {κ : mm_K} {d : Nat} {G : mm_G} {K : Int32 → mm_G → Prop} {e : en_T} {c r t : Nat} {q : Option Nat} {s : rs_T} (he : en_ok e r) (hE : ce_ G e c r t) (hA : ca_ G e q) (hS : cs_ G e c r t q s) (hk : rs_ok e r s) (ha : ru_a s < (ru_ls e (rs_s s) (rs_d s)).length) (ht : (rs_t s).length < 300)
    (h : ∀ G' b, cs_ G' e c r t q (ru_do e (ru_top e s) (ru_pre s)).1 → fr_ fc_ G G' → ru_end G' b (ru_do e (ru_top e s) (ru_pre s)).2 → K b G') : mC l κ true (d + 1) 0 0 m_X3_doesLine [.ref 91] G (rI K) := by
  have hr : r < 4 := by have := he.2.2.1; have := he.2.2.2.2.2.1; omega
  have hd := hk.dle
  obtain ⟨x, hx1, hx2, hx3, hx4, hx5, hx6⟩ := cs_top he hE hS hk
  obtain ⟨y, hy1, hy2, hy3, hy4⟩ := hx3.2.2 (ru_a s) ha
  have hln := hx3.2.1
  have h1 := hS.1
  have h2 := hS.2.1
  have h4 := hS.2.2.2.1
  have h15 : mg_i G 97 (rs_d s) = nI (ru_a s) := hS.2.2.2.2.2.2.2.2.2.2.2.2.2.2 (rs_d s) (Nat.le_refl _)
  have hxn := rc_ne hx2
  have hgo : ∀ G1, G1 = (if rs_d s = 0 then ms_i (ms_i (ms_i G 95 (rs_t s).length (nI (20 * (rs_s s (rs_d s)).1 + ru_a s))) 91 3 (nI ((rs_t s).length + 1))) 91 4 (nI (ru_dn (rs_t s) ||| 2 ^ ru_a s)) else ms_i (ms_i G 95 (rs_t s).length (nI (20 * (rs_s s (rs_d s)).1 + ru_a s))) 91 3 (nI ((rs_t s).length + 1))) → fr_ fc_ G G1 →
      mV l κ true (d + 1) 0 0 m_X3_doesLine 74 [some (.ref 91), some (.ref x), some (.int (nI (ru_a s))), some (.ref y), none] [] G1 (rI K) := by
    intro G1 hG1 hf
    have hf2 : fr_ fc_ G (ms_i G1 97 (rs_d s) (nI (ru_a s + 1))) := hf.si rfl
    have hS2 := hS.pre hk.1 hG1
    refine s_does74 (s := ru_pre s) (x := ru_top e s) (G2 := ms_i G1 97 (rs_d s) (nI (ru_a s + 1))) he (by rw [nI_add]; rfl) hx2 hy2 (hE.fc hf2 he.2.2.1) (hA.fc hf2) hS2 (ru_pre_ok hk ha) ?_ ?_ ?_ ?_ (fun G' b g1 g2 g3 => h G' b g1 (hf2.trans g2) g3)
    · show ro_ _ x (ru_ls e (ru_to s (ru_a s + 1)) (rs_d s))
      rw [ru_to_ls]
      exact hx3.fc hf2 hxn.1
    · rw [rd_c.fr hf2 (fun k => fc_F (by omega))]
      exact hy4
    · show ln_ok (ru_to s (ru_a s + 1) (rs_d s)).1 _
      rw [ru_to_1]
      exact ln_ok_at he hk ha
    · show (rs_t s ++ [_]).length ≤ 400
      rw [List.length_append]
      show (rs_t s).length + 1 ≤ 400
      omega
  refine e_X3_doesLine ?_
  rw [h4, nI_clamp (by omega), h15, nI_clamp (by omega), h1, nI_clamp (by omega), h2, ki_0, nI_eq (by omega) (by omega), nI_add, ki_shl _ (by omega), fa_or]
  refine ⟨(ki_vp (by omega)).2 (by omega), x, hx1, rc_row hx2, (ki_vp (by omega)).2 (by omega), (ki_vp (by omega)).2 (by omega), y, hy1, ln_At hy2, (ki_vp (by omega)).2 (by omega), fun c0 => ?_, fun c0 => ?_⟩
  · rw [hx4, ki_mul, nI_add]
    exact hgo _ (by rw [if_neg c0]) ((fr_.rfl'.si rfl).si rfl)
  · rw [hx4, ki_mul, nI_add]
    exact hgo _ (by rw [if_pos c0]) (((fr_.rfl'.si rfl).si rfl).si rfl)
/-- the machine's loop -/
theorem rs_t_do (e : en_T) (x : ln_T) (s : rs_T) : rs_t (ru_do e x s).1 = rs_t s := by
  unfold ru_do
  split
  · split
    · rfl
    · split <;> rfl
  · split
    · rfl
    · split
      · split <;> rfl
      · split
        · rfl
        · split
          · rfl
          · split
            · rfl
            · split <;> rfl
theorem rs_t_come (e : en_T) (s : rs_T) : rs_t (ru_come e s) = rs_t s := by
  unfold ru_come
  split
  · split <;> rfl
  · rfl
