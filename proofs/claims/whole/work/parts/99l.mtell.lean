/-! reading: the reference's rows, trials, fuel -/
theorem mNm_.add {G : mm_G} {b : Nat} {nms : List Nat} {nm : Nat} (h : mNm_ G b nms) (h4 : nms.length < 4) (hb : b < 2) (hv : nm < 2 ^ 62) : mNm_ (ms_i (ms_l G 235 (4 * b + nms.length) (lN nm)) 234 b (nI (nms.length + 1))) b (nms ++ [nm]) := by
  obtain ⟨a1, a2, a3, a4⟩ := h
  have el : (nms ++ [nm]).length = nms.length + 1 := List.length_append
  refine ⟨by simp only [mg_i_i, mg_i_l, mg_i_r, mg_i_b, mg_l_i, mg_l_l, mg_l_r, mg_l_b, mg_r_i, mg_r_l, mg_r_r, mg_r_b, false_and, and_false, true_and, and_true, reduceCtorEq, if_true, if_false, reduceIte, Nat.reduceEqDiff, Nat.reduceAdd, Nat.succ_ne_self, ne_eq, not_false_eq_true, not_true_eq_false]; exact a1, by simp only [mg_i_i, mg_i_l, mg_i_r, mg_i_b, mg_l_i, mg_l_l, mg_l_r, mg_l_b, mg_r_i, mg_r_l, mg_r_r, mg_r_b, false_and, and_false, true_and, and_true, reduceCtorEq, if_true, if_false, reduceIte, Nat.reduceEqDiff, Nat.reduceAdd, Nat.succ_ne_self, ne_eq, not_false_eq_true, not_true_eq_false]; rw [el], by omega, fun i hi => ?_⟩
  rw [el] at hi
  by_cases ci : i = nms.length
  · rw [ci, ap_eq, mg_l_i, mg_l_l, if_pos ⟨rfl, rfl⟩]
    exact ⟨rfl, hv⟩
  · rw [ap_lt (by omega), mg_l_i, mg_l_l, if_neg (by omega)]
    exact a4 i (by omega)
theorem t_row {l : Launch} {κ : mm_K} {d : Nat} {G : mm_G} {K : mm_G → Prop} {tb : tb_T} {nms : List Nat} {nt : Option Nat} {t b : Nat} (hT : tg_ tb) (hb : b < 2) (hr : nms.length < 4) (hk : tkk_ tb t = 36) (hN : mNm_ G b nms) (hS : mP_ G tb nt t)
    (h1 : ∀ G' ls nm nt' t', prw_ tb nms nt t = .inr (ls, nm, nt', t') → mP_ G' tb nt' t' → mNm_ G' b (nms ++ [nm]) → mg_i G' 236 (4 * b + nms.length) = nI ls.length → (∀ i, i < ls.length → rd_m G' (64 * b + 16 * nms.length + i) = ln_at ls i) → fr_ (fRm_ b nms.length) G G' → K G')
    (h0 : ∀ G' e, prw_ tb nms nt t = .inl e → mF_ G' tb e → fr_ (fRm_ b nms.length) G G' → K G') : mC l κ true (d + 7) 0 0 m_X13_tellRow [.ref 226] G (rV K) := by
  have vp4 : vp_in (nI (4 * b + nms.length)) 20 := (ki_vp (by omega)).2 (by omega)
  have e7 : nI 7 = nI (mkk_ 6) := rfl
  have e1 : nI 1 = nI (mkk_ 2) := rfl
  refine e_X13_tellRow ?_
  rw [hN.1, nI_clamp (n := b) (by omega), hN.2.1]
  -- with a fault
  have HF : ∀ {G4 : mm_G} {e : Nat × Nat} (v : Int32), prw_ tb nms nt t = .inl e → mF_ G4 tb e → fr_ fmr_ G G4 → mC l κ true (d + 6) 0 0 m_X13_must [.ref 226, .int (nI 7)] G4 (rV (fun G6 => vp_in (((nI 4) * (mg_i G6 226 19)) + (nI nms.length)) 20 ∧ mV l κ true (d + 7) 0 0 m_X13_tellRow 66 [some (.ref 226), some (.int (nI nms.length)), some (.int v), none, none] [] (ms_i G6 236 ((((nI 4) * (mg_i G6 226 19)) + (nI nms.length)).toNatClampNeg) (nI 0)) (rV K))) := by
    intro G4 e v he p4 f4
    have e19 : mg_i G4 226 19 = nI b := by rw [f4.i _ _ (fmr_F (by omega))]; exact hN.1
    refine t_mustF (d := d + 4) _ p4 ?_
    rw [e19, ki_mul, nI_add, nI_clamp (n := 4 * b + nms.length) (by omega)]
    exact ⟨vp4, t_row66F _ _ (p4.fr (S := fun c k => decide (c = 236)) (fr_.rfl'.si (by decide)) (fun c k q => decide_eq_false (by omega))) (h0 _ e he (p4.fr (S := fun c k => decide (c = 236)) (fr_.rfl'.si (by decide)) (fun c k q => decide_eq_false (by omega))) (f4.rRm.si (fRm_T (by omega))))⟩
  refine ⟨(ki_vp (by omega)).2 (by omega), t_goesOn (d := d + 5) (by omega) hS (fun G2 a2 p2 f2 => ?_) (fun G2 e a2 p2 f2 => ?_)⟩
  · rw [hk] at a2
    obtain ⟨q3, q1, c1, c2, c3, c4⟩ := p2.rd
    rw [e1]
    refine t_must (d := d + 4) hT (by omega) (by omega) p2 (fun G4 a4 k4 p4 f4 => ⟨fun y => absurd (by rw [p4.2.2.2.1]; decide) y, fun _ => ?_⟩) (fun G4 e a4 p4 f4 => ⟨fun _ => HF _ (by unfold prw_; rw [bd_r _ a2, bd_l _ a4]) p4 (f2.trans f4), fun y => absurd y p4.ne.1⟩)
    have hv := (hT.1 (t + 1) q1 p2.2.1).2.2.2 k4
    have F4 := f2.trans f4
    have N4 : mNm_ G4 b nms := hN.fr F4 (fun c k q => fmr_F (by omega))
    have HC : ∀ G8 nt0, nt0 = (if fnm_ nms (tkv_ tb (t + 1)) < nms.length then nn_ nt (t + 1) else nt) → mP_ G8 tb nt0 (t + 1 + 1) → fr_ fmr_ G G8 → mC l κ true (d + 6) 0 0 m_X13_must [.ref 226, .int (nI 7)] G8 (rV (fun G6 => vp_in (((nI 4) * (mg_i G6 226 19)) + (nI nms.length)) 20 ∧ mV l κ true (d + 7) 0 0 m_X13_tellRow 66 [some (.ref 226), some (.int (nI nms.length)), some (.int (nI (t + 1))), none, none] [] (ms_i G6 236 ((((nI 4) * (mg_i G6 226 19)) + (nI nms.length)).toNatClampNeg) (nI 0)) (rV K))) := by
      intro G8 nt0 hnt p8 f8
      rw [e7]
      refine t_must (d := d + 4) hT (by omega) (by omega) p8 (fun G6 a6 k6 p6 f6 => ?_) (fun G6 e a6 p6 f6 => ?_)
      · have F6 := f8.trans f6
        have e19 : mg_i G6 226 19 = nI b := by rw [F6.i _ _ (fmr_F (by omega))]; exact hN.1
        rw [e19, ki_mul, nI_add, nI_clamp (n := 4 * b + nms.length) (by omega)]
        refine ⟨vp4, ?_⟩
        have g6 : fr_ (fun c k => decide (c = 236 ∧ k = 4 * b + nms.length)) G6 (ms_i G6 236 (4 * b + nms.length) (nI 0)) := fr_.rfl'.si (decide_eq_true ⟨rfl, rfl⟩)
        have W6 : fr_ (fRm_ b nms.length) G (ms_i G6 236 (4 * b + nms.length) (nI 0)) := F6.rRm.si (fRm_T (by omega))
        have epr : prw_ tb nms nt t = bd_ (pls_ tb nms 17 [] nt0 (t + 1 + 1 + 1)) (fun o => bd_ (ac_ tb 7 o.2.2) (fun t5 => .inr (o.1.map Prod.fst, tkv_ tb (t + 1), plb_ o.1 o.1.length o.2.1, t5))) := by
          unfold prw_
          rw [bd_r _ a2, bd_r _ a4, bd_r _ a6, hnt]
        refine t_row66 (nms := nms) hT hb hr q1 17 _ [] nt0 (t + 1 + 1 + 1) rfl (by decide) (p6.fr g6 (fun c k q => decide_eq_false (by omega))) ((hN.fr F6 (fun c k q => fmr_F (by omega))).fr g6 (fun c k q => decide_eq_false (by omega))) ⟨by rw [mg_i_i, if_pos ⟨rfl, rfl⟩]; rfl, fun i hi => absurd hi (Nat.not_lt_zero i)⟩ (fun i hi => absurd hi (Nat.not_lt_zero i)) (fun G' L nt' t' y1 y2 y3 y4 y5 y6 y7 => ?_) (fun G' e y1 y2 y3 => ?_)
        · have e232 : mg_l G' 232 (t + 1) = lN (tkv_ tb (t + 1)) := (y3.2.2.2.2.1 (t + 1) q1 p2.2.1).2.2.2 k4
          rw [e232, y5.2.1, nI_add]
          have hll : (L.map Prod.fst).length = L.length := List.length_map _
          have gE : fr_ (fun c k => decide (c = 234 ∨ c = 235)) G' (ms_i (ms_l G' 235 (4 * b + nms.length) (lN (tkv_ tb (t + 1)))) 234 b (nI (nms.length + 1))) := (fr_.rfl'.sl (by decide)).si (by decide)
          refine h1 _ (L.map Prod.fst) (tkv_ tb (t + 1)) _ _ (by rw [epr, bd_r _ y1, bd_r _ y2]) (y3.fr gE (fun c k q => decide_eq_false (by omega))) (y5.add hr hb hv.2) ?_ (fun i hi => ?_) (((W6.trans y7).sl (fRm_T (by omega))).si (fRm_T (by omega)))
          · rw [gE.i _ _ (decide_eq_false (by omega)), hll]; exact y6.1
          · rw [rd_m.at gE (fun c x y => decide_eq_false (by omega)), L_map (by omega)]
            exact y6.2 i (by omega)
        · exact h0 G' e (by rw [epr]; exact y1 _) y2 (W6.trans y3)
      · have := HF (nI (t + 1)) (e := e) (by unfold prw_; rw [bd_r _ a2, bd_r _ a4, bd_l _ a6]) p6 (f8.trans f6)
        have e19 : mg_i G6 226 19 = nI b := by rw [(f8.trans f6).i _ _ (fmr_F (by omega))]; exact hN.1
        rw [e19, ki_mul, nI_add, nI_clamp (n := 4 * b + nms.length) (by omega)]
        exact ⟨vp4, t_row66F _ _ (p6.fr (S := fun c k => decide (c = 236)) (fr_.rfl'.si (by decide)) (fun c k q => decide_eq_false (by omega))) (h0 _ e (by unfold prw_; rw [bd_r _ a2, bd_r _ a4, bd_l _ a6]) (p6.fr (S := fun c k => decide (c = 236)) (fr_.rfl'.si (by decide)) (fun c k q => decide_eq_false (by omega))) ((f8.trans f6).rRm.si (fRm_T (by omega))))⟩
    rw [q3]
    refine t_rowAt hb q1 hv.2 (by rw [f4.l _ _ (fmr_F (by omega))]; exact c4 k4) N4 ?_
    by_cases c : fnm_ nms (tkv_ tb (t + 1)) < nms.length
    · rw [if_pos c]
      refine ⟨fun y => absurd y (nI_nm1 (by omega)), fun _ => ?_⟩
      have hkf : kf_ tb (t + 1) = 3 := by unfold kf_; rw [if_neg (by omega), if_pos (by rw [Nat.add_sub_cancel]; exact hk)]
      exact t_wrong hT q1 p2.2.1 hkf p4 (fun G12 p12 f12 => HC G12 _ (by rw [if_pos c]) p12 (F4.trans f12))
    · rw [if_neg c]
      exact ⟨fun _ => HC G4 _ (by rw [if_neg c]) p4 F4, fun y => absurd rfl y⟩
  · rw [hk] at a2
    exact t_mustF (d := d + 4) _ p2 ⟨fun _ => HF _ (by unfold prw_; rw [bd_l _ a2]) p2 f2, fun y => absurd y p2.ne.1⟩
/-! trials -/
theorem t_isNumber {l : Launch} {κ : mm_K} {d : Nat} {G : mm_G} {K : Int32 → mm_G → Prop} {tb : tb_T} {nt : Option Nat} {t : Nat} (hT : tg_ tb) (hS : mP_ G tb nt t) (h : K (if tkk_ tb t = 3 ∨ tkk_ tb t = 8 then nI 1 else nI 0) G) : mC l κ true (d + 1) 0 0 m_X13_isNumber [.ref 226] G (rI K) := by
  refine e_X13_isNumber (t_is (k := 3) hT (by omega) hS ?_)
  by_cases c : tkk_ tb t = 3
  · rw [if_pos (Or.inl c)] at h
    rw [if_pos c]
    exact ⟨fun _ => h, fun y => absurd y (by decide)⟩
  · rw [if_neg c]
    refine ⟨fun y => absurd (by decide) y, fun _ => t_is (k := 8) hT (by omega) hS ?_⟩
    by_cases c2 : tkk_ tb t = 8
    · rw [if_pos (Or.inr c2)] at h
      rw [if_pos c2]
      exact ⟨fun y => absurd y (by decide), fun _ => h⟩
    · rw [if_neg (by omega)] at h
      rw [if_neg c2]
      exact ⟨fun _ => h, fun y => absurd (by decide) y⟩
