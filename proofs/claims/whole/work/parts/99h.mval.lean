/-! reading: the reference's values -/
theorem mkk_c1 : ∀ k, k < 40 → (mkk_ k < 35 ↔ ¬ (31 ≤ k ∧ k ≤ 35)) := by decide +kernel
theorem mkk_c2 : ∀ k, k < 40 → (38 < mkk_ k ↔ k = 35) := by decide +kernel
theorem mkk_c3 : ∀ k, k < 40 → (mkk_ k ≤ 38 ↔ k ≠ 35) := by decide +kernel
theorem mkk_c4 : ∀ k, k < 40 → (mkk_ k < 24 ↔ ¬ (20 ≤ k ∧ k ≤ 35)) := by decide +kernel
theorem mkk_c5 : ∀ k, k < 40 → (mkk_ k ≤ 34 ↔ ¬ (31 ≤ k ∧ k ≤ 35)) := by decide +kernel
theorem mkk_c6 : ∀ k, k < 40 → ((9 ≤ mkk_ k ∧ mkk_ k ≤ 12) ↔ (10 ≤ k ∧ k ≤ 13)) := by decide +kernel
theorem mkk_hi : ∀ k, k < 40 → 20 ≤ k → k ≤ 35 → mkk_ k = k + 4 := by decide +kernel
theorem mkk_ts : ∀ k, k < 40 → 10 ≤ k → k ≤ 13 → mkk_ k = k - 1 := by decide +kernel
theorem mP_.fr {S : Nat → Nat → Bool} {G G1 : mm_G} {tb : tb_T} {nt : Option Nat} {t : Nat} (h : mP_ G tb nt t) (hf : fr_ S G G1) (hS : ∀ c k, ((c = 226 ∧ (k = 11 ∨ k = 13 ∨ k = 15 ∨ k = 16)) ∨ (229 ≤ c ∧ c ≤ 232)) → S c k = false) : mP_ G1 tb nt t := by
  obtain ⟨a1, a2, a3, a4, a5, a6, a7⟩ := h
  refine ⟨a1, a2, by rw [hf.i _ _ (hS _ _ (by omega))]; exact a3, by rw [hf.i _ _ (hS _ _ (by omega))]; exact a4, fun j hj ho => ?_, fun q => by rw [hf.i _ _ (hS _ _ (by omega))]; exact a6 q, fun j q => ?_⟩
  · obtain ⟨b1, b2, b3, b4⟩ := a5 j hj ho
    rw [hf.i 229 _ (hS _ _ (by omega)), hf.i 230 _ (hS _ _ (by omega)), hf.i 231 _ (hS _ _ (by omega)), hf.l 232 _ (hS _ _ (by omega))]
    exact ⟨b1, b2, b3, b4⟩
  · obtain ⟨b1, b2, b3⟩ := a7 j q
    exact ⟨by rw [hf.i _ _ (hS _ _ (by omega))]; exact b1, by rw [hf.i _ _ (hS _ _ (by omega))]; exact b2, b3⟩
theorem mF_.fr {S : Nat → Nat → Bool} {G G1 : mm_G} {tb : tb_T} {e : Nat × Nat} (h : mF_ G tb e) (hf : fr_ S G G1) (hS : ∀ c k, (c = 226 ∧ (k = 11 ∨ k = 13 ∨ k = 14)) → S c k = false) : mF_ G1 tb e := by
  obtain ⟨a1, a2, a3, a4, a5⟩ := h
  exact ⟨a1, a2, by rw [hf.i _ _ (hS _ _ (by omega))]; exact a3, by rw [hf.i _ _ (hS _ _ (by omega))]; exact a4, by rw [hf.i _ _ (hS _ _ (by omega))]; exact a5⟩
/-- what a step changes, and the cells lo .. hi at p, and cell 248 if w -/
def fma_ (lo hi p w c k : Nat) : Bool := decide ((c = 226 ∧ (k = 11 ∨ k = 13 ∨ k = 14 ∨ k = 15 ∨ k = 16 ∨ k = 41 ∨ k = 42)) ∨ (k = p ∧ lo ≤ c ∧ c ≤ hi ∧ c ≠ 246) ∨ (c = 248 ∧ w = k + 1))
theorem fma_F {lo hi p w c k : Nat} (h : ¬ ((c = 226 ∧ (k = 11 ∨ k = 13 ∨ k = 14 ∨ k = 15 ∨ k = 16 ∨ k = 41 ∨ k = 42)) ∨ (k = p ∧ lo ≤ c ∧ c ≤ hi ∧ c ≠ 246) ∨ (c = 248 ∧ w = k + 1))) : fma_ lo hi p w c k = false := decide_eq_false h
theorem fma_T {lo hi p w c k : Nat} (h : (c = 226 ∧ (k = 11 ∨ k = 13 ∨ k = 14 ∨ k = 15 ∨ k = 16 ∨ k = 41 ∨ k = 42)) ∨ (k = p ∧ lo ≤ c ∧ c ≤ hi ∧ c ≠ 246) ∨ (c = 248 ∧ w = k + 1)) : fma_ lo hi p w c k = true := decide_eq_true h
theorem fr_.rma {lo hi p w : Nat} {G G1 : mm_G} (h : fr_ fmr_ G G1) : fr_ (fma_ lo hi p w) G G1 := h.mono (fun c k q => by
  have := of_decide_eq_false q
  exact fmr_F (by omega))
theorem fr_.maa {lo hi p w lo' hi' w' : Nat} {G G1 : mm_G} (h : fr_ (fma_ lo hi p w) G G1) (h1 : hi < lo ∨ (lo' ≤ lo ∧ hi ≤ hi')) (h2 : w = 0 ∨ w' = w) : fr_ (fma_ lo' hi' p w') G G1 := h.mono (fun c k q => by
  have := of_decide_eq_false q
  exact fma_F (by omega))
theorem t_value {l : Launch} {κ : mm_K} {d : Nat} {G : mm_G} {K : mm_G → Prop} {tb : tb_T} {nt : Option Nat} {t : Nat} (hT : tg_ tb) (hS : mP_ G tb nt t)
    (h1 : ∀ G' v t', pva_ tb t = .inr (v, t') → mP_ G' tb nt t' → mg_i G' 226 41 = v.1 → mg_i G' 226 42 = v.2 → fr_ (fma_ 1 0 0 0) G G' → K G') (h0 : ∀ G' e, pva_ tb t = .inl e → mF_ G' tb e → fr_ (fma_ 1 0 0 0) G G' → K G') : mC l κ true (d + 3) 0 0 m_X13_value [.ref 226] G (rV K) := by
  obtain ⟨a3, a1, b1, b2, b3, b4⟩ := hS.rd
  have hkd := (hT.1 t a1 hS.2.1).1
  have hm := mkk_lt _ hkd
  have w1 : ∀ v, fr_ (fma_ 1 0 0 0) G (ms_i G 226 41 v) := fun v => fr_.rfl'.si (fma_T (by omega))
  have w2 : ∀ v x, fr_ (fma_ 1 0 0 0) G (ms_i (ms_i G 226 41 v) 226 42 x) := fun v x => (w1 v).si (fma_T (by omega))
  have two : ∀ c k, ((c = 226 ∧ (k = 11 ∨ k = 13 ∨ k = 15 ∨ k = 16)) ∨ (229 ≤ c ∧ c ≤ 232)) → (fun c k => decide (c = 226 ∧ (k = 41 ∨ k = 42))) c k = false := fun c k q => decide_eq_false (by omega)
  have hS1 : mP_ (ms_i (ms_i G 226 41 (nI 0)) 226 42 (nI 0)) tb nt t := hS.fr (S := fun c k => decide (c = 226 ∧ (k = 41 ∨ k = 42))) ((fr_.rfl'.si (by decide)).si (by decide)) two
  refine e_X13_value ?_
  rw [hS.2.2.2.1, a3, nI_clamp (by omega), b1, nI_ltI (by omega) (by omega), nI_ltI (by omega) (by omega), mkk_c1 _ hkd, mkk_c2 _ hkd]
  have vp : vp_in (nI t) 403 := (ki_vp (by omega)).2 (by omega)
  have HB : ¬ (31 ≤ tkk_ tb t ∧ tkk_ tb t ≤ 34) → mC l κ true (d + 2) 0 0 m_X13_is [.ref 226, .int (nI 39)] (ms_i (ms_i G 226 41 (nI 0)) 226 42 (nI 0)) (rI (fun r1 G2 => ((r1 = 0 → mC l κ true (d + 2) 0 0 m_X13_signed [.ref 226] G2 (rI (fun r3 G4 => K (ms_i G4 226 42 r3)))) ∧ (¬ r1 = 0 → mC l κ true (d + 2) 0 0 m_X13_goesOn [.ref 226] (ms_i G2 226 41 (nI 2)) (rV (fun G6 => K G6)))))) := fun hn => by
    have e39 : nI 39 = nI (mkk_ 35) := rfl
    rw [e39]
    refine t_is hT (by omega) hS1 ?_
    by_cases c : tkk_ tb t = 35
    · rw [if_pos c]
      have hS2 : mP_ (ms_i (ms_i (ms_i G 226 41 (nI 0)) 226 42 (nI 0)) 226 41 (nI 2)) tb nt t := hS1.fr (S := fun c k => decide (c = 226 ∧ (k = 41 ∨ k = 42))) (fr_.rfl'.si (by decide)) two
      have w3 : fr_ (fma_ 1 0 0 0) G (ms_i (ms_i (ms_i G 226 41 (nI 0)) 226 42 (nI 0)) 226 41 (nI 2)) := (w2 _ _).si (fma_T (by omega))
      refine ⟨fun y => absurd y (by decide), fun _ => t_goesOn (by omega) hS2 (fun G2 a2 p2 f2 => ?_) (fun G2 e a2 p2 f2 => ?_)⟩
      · rw [c] at a2
        exact h1 G2 (nI 2, nI 0) (t + 1) (by unfold pva_; rw [if_neg hn, if_pos c, bd_r _ a2]) p2 (by rw [f2.i _ _ (fmr_F (by omega))]; simp only [mg_i_i, mg_i_l, mg_i_r, mg_i_b, mg_l_i, mg_l_l, mg_l_r, mg_l_b, mg_r_i, mg_r_l, mg_r_r, mg_r_b, false_and, and_false, true_and, and_true, reduceCtorEq, if_true, if_false, reduceIte, Nat.reduceEqDiff, Nat.reduceAdd, Nat.succ_ne_self, ne_eq, not_false_eq_true, not_true_eq_false]) (by rw [f2.i _ _ (fmr_F (by omega))]; simp only [mg_i_i, mg_i_l, mg_i_r, mg_i_b, mg_l_i, mg_l_l, mg_l_r, mg_l_b, mg_r_i, mg_r_l, mg_r_r, mg_r_b, false_and, and_false, true_and, and_true, reduceCtorEq, if_true, if_false, reduceIte, Nat.reduceEqDiff, Nat.reduceAdd, Nat.succ_ne_self, ne_eq, not_false_eq_true, not_true_eq_false]) (w3.trans f2.rma)
      · rw [c] at a2
        exact h0 G2 e (by unfold pva_; rw [if_neg hn, if_pos c, bd_l _ a2]) p2 (w3.trans f2.rma)
    · rw [if_neg c]
      refine ⟨fun _ => t_signed hT hS1 (fun G2 x t' a2 p2 lt f2 => ?_) (fun G2 e x a2 p2 f2 => ?_), fun y => absurd (by decide) y⟩
      · refine h1 _ (nI 0, x) t' (by unfold pva_; rw [if_neg hn, if_neg c, bd_r _ a2]) (p2.fr (S := fun c k => decide (c = 226 ∧ (k = 41 ∨ k = 42))) (fr_.rfl'.si (by decide)) two) ?_ (by simp only [mg_i_i, mg_i_l, mg_i_r, mg_i_b, mg_l_i, mg_l_l, mg_l_r, mg_l_b, mg_r_i, mg_r_l, mg_r_r, mg_r_b, false_and, and_false, true_and, and_true, reduceCtorEq, if_true, if_false, reduceIte, Nat.reduceEqDiff, Nat.reduceAdd, Nat.succ_ne_self, ne_eq, not_false_eq_true, not_true_eq_false]) (((w2 _ _).trans f2.rma).si (fma_T (by omega)))
        simp only [mg_i_i, mg_i_l, mg_i_r, mg_i_b, mg_l_i, mg_l_l, mg_l_r, mg_l_b, mg_r_i, mg_r_l, mg_r_r, mg_r_b, false_and, and_false, true_and, and_true, reduceCtorEq, if_true, if_false, reduceIte, Nat.reduceEqDiff, Nat.reduceAdd, Nat.succ_ne_self, ne_eq, not_false_eq_true, not_true_eq_false]
        rw [f2.i _ _ (fmr_F (by omega))]; simp only [mg_i_i, mg_i_l, mg_i_r, mg_i_b, mg_l_i, mg_l_l, mg_l_r, mg_l_b, mg_r_i, mg_r_l, mg_r_r, mg_r_b, false_and, and_false, true_and, and_true, reduceCtorEq, if_true, if_false, reduceIte, Nat.reduceEqDiff, Nat.reduceAdd, Nat.succ_ne_self, ne_eq, not_false_eq_true, not_true_eq_false]
      · exact h0 _ e (by unfold pva_; rw [if_neg hn, if_neg c, bd_l _ a2]) (p2.fr (S := fun c k => decide (c = 226 ∧ (k = 41 ∨ k = 42))) (fr_.rfl'.si (by decide)) (fun c k q => decide_eq_false (by omega))) (((w2 _ _).trans f2.rma).si (fma_T (by omega)))
  refine ⟨fun _ => ⟨vp, fun z => HB (by omega), fun z => ⟨vp, fun z2 => HB (by omega), fun z2 => ⟨vp, ?_⟩⟩⟩, fun y => absurd (by decide) y⟩
  have hr : 31 ≤ tkk_ tb t ∧ tkk_ tb t ≤ 34 := by omega
  rw [mkk_hi _ hkd (by omega) (by omega), ki_sub (by omega), show tkk_ tb t + 4 - 35 = tkk_ tb t - 31 by omega]
  have hS2 : mP_ (ms_i (ms_i (ms_i (ms_i G 226 41 (nI 0)) 226 42 (nI 0)) 226 41 (nI 1)) 226 42 (nI (tkk_ tb t - 31))) tb nt t := hS1.fr (S := fun c k => decide (c = 226 ∧ (k = 41 ∨ k = 42))) ((fr_.rfl'.si (by decide)).si (by decide)) two
  have w3 : fr_ (fma_ 1 0 0 0) G (ms_i (ms_i (ms_i (ms_i G 226 41 (nI 0)) 226 42 (nI 0)) 226 41 (nI 1)) 226 42 (nI (tkk_ tb t - 31))) := ((w2 _ _).si (fma_T (by omega))).si (fma_T (by omega))
  refine t_goesOn (by omega) hS2 (fun G2 a2 p2 f2 => ?_) (fun G2 e a2 p2 f2 => ?_)
  · exact h1 G2 (nI 1, nI (tkk_ tb t - 31)) (t + 1) (by unfold pva_; rw [if_pos hr, bd_r _ a2]) p2 (by rw [f2.i _ _ (fmr_F (by omega))]; simp only [mg_i_i, mg_i_l, mg_i_r, mg_i_b, mg_l_i, mg_l_l, mg_l_r, mg_l_b, mg_r_i, mg_r_l, mg_r_r, mg_r_b, false_and, and_false, true_and, and_true, reduceCtorEq, if_true, if_false, reduceIte, Nat.reduceEqDiff, Nat.reduceAdd, Nat.succ_ne_self, ne_eq, not_false_eq_true, not_true_eq_false]) (by rw [f2.i _ _ (fmr_F (by omega))]; simp only [mg_i_i, mg_i_l, mg_i_r, mg_i_b, mg_l_i, mg_l_l, mg_l_r, mg_l_b, mg_r_i, mg_r_l, mg_r_r, mg_r_b, false_and, and_false, true_and, and_true, reduceCtorEq, if_true, if_false, reduceIte, Nat.reduceEqDiff, Nat.reduceAdd, Nat.succ_ne_self, ne_eq, not_false_eq_true, not_true_eq_false]) (w3.trans f2.rma)
  · exact h0 G2 e (by unfold pva_; rw [if_pos hr, bd_l _ a2]) p2 (w3.trans f2.rma)
theorem t_valueF {l : Launch} {κ : mm_K} {d : Nat} {G : mm_G} {K : mm_G → Prop} {tb : tb_T} {e : Nat × Nat} (hS : mF_ G tb e) (h : ∀ G', mF_ G' tb e → fr_ (fma_ 1 0 0 0) G G' → K G') : mC l κ true (d + 3) 0 0 m_X13_value [.ref 226] G (rV K) :=
  e_X13_value ⟨fun y => absurd y hS.ne.2.1, fun _ => h _ (hS.fr (S := fun c k => decide (c = 226 ∧ (k = 41 ∨ k = 42))) ((fr_.rfl'.si (by decide)).si (by decide)) (fun c k q => decide_eq_false (by omega))) ((fr_.rfl'.si (fma_T (by omega))).si (fma_T (by omega)))⟩
theorem t_first {l : Launch} {κ : mm_K} {d : Nat} {G : mm_G} {K : mm_G → Prop} {tb : tb_T} {nt : Option Nat} {t p : Nat} (hT : tg_ tb) (hp : p < 320) (hS : mP_ G tb nt t)
    (h1 : ∀ G' v t', pva_ tb t = .inr (v, t') → mP_ G' tb nt t' → mg_i G' 239 p = v.1 → mg_i G' 240 p = v.2 → fr_ (fma_ 239 240 p 0) G G' → K G') (h0 : ∀ G' e, pva_ tb t = .inl e → mF_ G' tb e → fr_ (fma_ 239 240 p 0) G G' → K G') : mC l κ true (d + 4) 0 0 m_X13_first [.ref 226, .int (nI p)] G (rV K) := by
  have vp : vp_in (nI p) 320 := (ki_vp (by omega)).2 (by omega)
  refine e_X13_first _ (t_value hT hS (fun G2 v t' a2 p2 e1 e2 f2 => ⟨vp, vp, ?_⟩) (fun G2 e a2 p2 f2 => ⟨vp, vp, ?_⟩))
  · rw [nI_clamp (by omega)]
    exact h1 _ v t' a2 (p2.fr (S := fun c k => decide (c = 239 ∨ c = 240)) ((fr_.rfl'.si (by decide)).si (by decide)) (fun c k q => decide_eq_false (by omega))) (by simp only [mg_i_i, mg_i_l, mg_i_r, mg_i_b, mg_l_i, mg_l_l, mg_l_r, mg_l_b, mg_r_i, mg_r_l, mg_r_r, mg_r_b, false_and, and_false, true_and, and_true, reduceCtorEq, if_true, if_false, reduceIte, Nat.reduceEqDiff, Nat.reduceAdd, Nat.succ_ne_self, ne_eq, not_false_eq_true, not_true_eq_false]; exact e1) (by simp only [mg_i_i, mg_i_l, mg_i_r, mg_i_b, mg_l_i, mg_l_l, mg_l_r, mg_l_b, mg_r_i, mg_r_l, mg_r_r, mg_r_b, false_and, and_false, true_and, and_true, reduceCtorEq, if_true, if_false, reduceIte, Nat.reduceEqDiff, Nat.reduceAdd, Nat.succ_ne_self, ne_eq, not_false_eq_true, not_true_eq_false]; exact e2) ((((f2.mono (fun c k q => by have := of_decide_eq_false q; exact fma_F (by omega))).si (fma_T (by omega))).si (fma_T (by omega))))
  · rw [nI_clamp (by omega)]
    exact h0 _ e a2 (p2.fr (S := fun c k => decide (c = 239 ∨ c = 240)) ((fr_.rfl'.si (by decide)).si (by decide)) (fun c k q => decide_eq_false (by omega))) ((((f2.mono (fun c k q => by have := of_decide_eq_false q; exact fma_F (by omega))).si (fma_T (by omega))).si (fma_T (by omega))))
theorem t_firstF {l : Launch} {κ : mm_K} {d : Nat} {G : mm_G} {K : mm_G → Prop} {tb : tb_T} {e : Nat × Nat} {p : Nat} (hp : p < 320) (hS : mF_ G tb e) (h : ∀ G', mF_ G' tb e → fr_ (fma_ 239 240 p 0) G G' → K G') : mC l κ true (d + 4) 0 0 m_X13_first [.ref 226, .int (nI p)] G (rV K) := by
  have vp : vp_in (nI p) 320 := (ki_vp (by omega)).2 (by omega)
  refine e_X13_first _ (t_valueF hS (fun G2 p2 f2 => ⟨vp, vp, ?_⟩))
  rw [nI_clamp (by omega)]
  exact h _ (p2.fr (S := fun c k => decide (c = 239 ∨ c = 240)) ((fr_.rfl'.si (by decide)).si (by decide)) (fun c k q => decide_eq_false (by omega))) ((((f2.mono (fun c k q => by have := of_decide_eq_false q; exact fma_F (by omega))).si (fma_T (by omega))).si (fma_T (by omega))))
theorem t_second {l : Launch} {κ : mm_K} {d : Nat} {G : mm_G} {K : mm_G → Prop} {tb : tb_T} {nt : Option Nat} {t p : Nat} (hT : tg_ tb) (hp : p < 320) (hS : mP_ G tb nt t)
    (h1 : ∀ G' v t', pva_ tb t = .inr (v, t') → mP_ G' tb nt t' → mg_i G' 241 p = v.1 → mg_i G' 242 p = v.2 → fr_ (fma_ 241 242 p 0) G G' → K G') (h0 : ∀ G' e, pva_ tb t = .inl e → mF_ G' tb e → fr_ (fma_ 241 242 p 0) G G' → K G') : mC l κ true (d + 4) 0 0 m_X13_second [.ref 226, .int (nI p)] G (rV K) := by
  have vp : vp_in (nI p) 320 := (ki_vp (by omega)).2 (by omega)
  refine e_X13_second _ (t_value hT hS (fun G2 v t' a2 p2 e1 e2 f2 => ⟨vp, vp, ?_⟩) (fun G2 e a2 p2 f2 => ⟨vp, vp, ?_⟩))
  · rw [nI_clamp (by omega)]
    exact h1 _ v t' a2 (p2.fr (S := fun c k => decide (c = 241 ∨ c = 242)) ((fr_.rfl'.si (by decide)).si (by decide)) (fun c k q => decide_eq_false (by omega))) (by simp only [mg_i_i, mg_i_l, mg_i_r, mg_i_b, mg_l_i, mg_l_l, mg_l_r, mg_l_b, mg_r_i, mg_r_l, mg_r_r, mg_r_b, false_and, and_false, true_and, and_true, reduceCtorEq, if_true, if_false, reduceIte, Nat.reduceEqDiff, Nat.reduceAdd, Nat.succ_ne_self, ne_eq, not_false_eq_true, not_true_eq_false]; exact e1) (by simp only [mg_i_i, mg_i_l, mg_i_r, mg_i_b, mg_l_i, mg_l_l, mg_l_r, mg_l_b, mg_r_i, mg_r_l, mg_r_r, mg_r_b, false_and, and_false, true_and, and_true, reduceCtorEq, if_true, if_false, reduceIte, Nat.reduceEqDiff, Nat.reduceAdd, Nat.succ_ne_self, ne_eq, not_false_eq_true, not_true_eq_false]; exact e2) ((((f2.mono (fun c k q => by have := of_decide_eq_false q; exact fma_F (by omega))).si (fma_T (by omega))).si (fma_T (by omega))))
  · rw [nI_clamp (by omega)]
    exact h0 _ e a2 (p2.fr (S := fun c k => decide (c = 241 ∨ c = 242)) ((fr_.rfl'.si (by decide)).si (by decide)) (fun c k q => decide_eq_false (by omega))) ((((f2.mono (fun c k q => by have := of_decide_eq_false q; exact fma_F (by omega))).si (fma_T (by omega))).si (fma_T (by omega))))
theorem t_secondF {l : Launch} {κ : mm_K} {d : Nat} {G : mm_G} {K : mm_G → Prop} {tb : tb_T} {e : Nat × Nat} {p : Nat} (hp : p < 320) (hS : mF_ G tb e) (h : ∀ G', mF_ G' tb e → fr_ (fma_ 241 242 p 0) G G' → K G') : mC l κ true (d + 4) 0 0 m_X13_second [.ref 226, .int (nI p)] G (rV K) := by
  have vp : vp_in (nI p) 320 := (ki_vp (by omega)).2 (by omega)
  refine e_X13_second _ (t_valueF hS (fun G2 p2 f2 => ⟨vp, vp, ?_⟩))
  rw [nI_clamp (by omega)]
  exact h _ (p2.fr (S := fun c k => decide (c = 241 ∨ c = 242)) ((fr_.rfl'.si (by decide)).si (by decide)) (fun c k q => decide_eq_false (by omega))) ((((f2.mono (fun c k q => by have := of_decide_eq_false q; exact fma_F (by omega))).si (fma_T (by omega))).si (fma_T (by omega))))
theorem t_leads {l : Launch} {κ : mm_K} {d : Nat} {G : mm_G} {K : mm_G → Prop} {tb : tb_T} {nt : Option Nat} {t p i : Nat} (hT : tg_ tb) (hp : p < 320) (hi : i < 16) (hS : mP_ G tb nt t)
    (h1 : ∀ G', ac_ tb 2 t = .inr (t + 1) → mP_ G' tb nt (t + 1) → mg_l G' 247 p = lN (tkv_ tb t) → mg_i G' 248 i = nI t → fr_ (fma_ 247 247 p (i + 1)) G G' → K G') (h0 : ∀ G' e, ac_ tb 2 t = .inl e → mF_ G' tb e → fr_ (fma_ 247 247 p (i + 1)) G G' → K G') : mC l κ true (d + 3) 0 0 m_X13_leads [.ref 226, .int (nI i), .int (nI p)] G (rV K) := by
  obtain ⟨a3, a1, b1, b2, b3, b4⟩ := hS.rd
  have e1 : nI 1 = nI (mkk_ 2) := rfl
  refine e_X13_leads _ _ ?_
  rw [e1]
  refine t_must (d := d) hT (by omega) (by omega) hS (fun G2 a2 k2 p2 f2 => ⟨fun _ => ?_, fun y => absurd (by rw [p2.2.2.2.1]; decide) y⟩) (fun G2 e a2 p2 f2 => ⟨fun y => absurd y p2.ne.2.1, fun _ => h0 G2 e a2 p2 f2.rma⟩)
  rw [a3, nI_clamp (n := t) (by omega), nI_clamp (n := p) (by omega), nI_clamp (n := i) (by omega)]
  refine ⟨(ki_vp (by omega)).2 (by omega), (ki_vp (by omega)).2 (by omega), (ki_vp (by omega)).2 (by omega), ?_⟩
  refine h1 _ a2 (p2.fr (S := fun c k => decide (c = 247 ∨ c = 248)) ((fr_.rfl'.sl (by decide)).si (by decide)) (fun c k q => decide_eq_false (by omega))) ?_ (by simp only [mg_i_i, mg_i_l, mg_i_r, mg_i_b, mg_l_i, mg_l_l, mg_l_r, mg_l_b, mg_r_i, mg_r_l, mg_r_r, mg_r_b, false_and, and_false, true_and, and_true, reduceCtorEq, if_true, if_false, reduceIte, Nat.reduceEqDiff, Nat.reduceAdd, Nat.succ_ne_self, ne_eq, not_false_eq_true, not_true_eq_false]) ((f2.rma.sl (fma_T (by omega))).si (fma_T (by omega)))
  simp only [mg_i_i, mg_i_l, mg_i_r, mg_i_b, mg_l_i, mg_l_l, mg_l_r, mg_l_b, mg_r_i, mg_r_l, mg_r_r, mg_r_b, false_and, and_false, true_and, and_true, reduceCtorEq, if_true, if_false, reduceIte, Nat.reduceEqDiff, Nat.reduceAdd, Nat.succ_ne_self, ne_eq, not_false_eq_true, not_true_eq_false]
  rw [f2.l _ _ (fmr_F (by omega))]
  exact b4 k2
theorem t_leadsF {l : Launch} {κ : mm_K} {d : Nat} {G : mm_G} {K : mm_G → Prop} {tb : tb_T} {e : Nat × Nat} (v w : Int32) (hS : mF_ G tb e) (h : K G) : mC l κ true (d + 3) 0 0 m_X13_leads [.ref 226, .int v, .int w] G (rV K) :=
  e_X13_leads _ _ (t_mustF _ hS ⟨fun y => absurd y hS.ne.2.1, fun _ => h⟩)
/-- the names of the side's rows -/
def mNm_ (G : mm_G) (b : Nat) (nms : List Nat) : Prop := mg_i G 226 19 = nI b ∧ mg_i G 234 b = nI nms.length ∧ nms.length ≤ 4 ∧ ∀ i, i < nms.length → mg_l G 235 (4 * b + i) = lN (nms.getD i 0) ∧ nms.getD i 0 < 2 ^ 62
theorem mNm_.fr {S : Nat → Nat → Bool} {G G1 : mm_G} {b : Nat} {nms : List Nat} (h : mNm_ G b nms) (hf : fr_ S G G1) (hS : ∀ c k, (c = 226 ∧ k = 19) ∨ c = 234 ∨ c = 235 → S c k = false) : mNm_ G1 b nms := by
  obtain ⟨a1, a2, a3, a4⟩ := h
  exact ⟨by rw [hf.i _ _ (hS _ _ (by omega))]; exact a1, by rw [hf.i _ _ (hS _ _ (by omega))]; exact a2, a3, fun i hi => ⟨by rw [hf.l _ _ (hS _ _ (by omega))]; exact (a4 i hi).1, (a4 i hi).2⟩⟩
theorem t_rowAt {l : Launch} {κ : mm_K} {d : Nat} {G : mm_G} {K : Int32 → mm_G → Prop} {b t v : Nat} {nms : List Nat} (hb : b < 2) (ht : t ≤ 400) (hv : v < 2 ^ 62) (hw : mg_l G 232 t = lN v) (hN : mNm_ G b nms) (h : K (if fnm_ nms v < nms.length then nI (fnm_ nms v) else -1) G) : mC l κ true d 0 0 m_X13_rowAt [.ref 226, .int (nI t)] G (rI K) := by
  obtain ⟨a0, a1, a2, a3⟩ := hN
  refine e_X13_rowAt _ ?_
  suffices H : ∀ m i, i + m = nms.length → (∀ j, j < i → decide (nms.getD j 0 = v) = false) → mV l κ true d 0 0 m_X13_rowAt 2 [some (.ref 226), some (.int (nI t)), some (.int (nI i))] [] G (rI K) from H _ 0 (Nat.zero_add _) (fun j hj => absurd hj (Nat.not_lt_zero j))
  intro m
  induction m with
  | zero =>
    intro i hi hno
    refine p_X13_rowAt_2 _ _ ?_
    rw [a0, nI_clamp (n := b) (by omega), a1, nI_leI (by omega) (by omega)]
    refine ⟨(ki_vp (by omega)).2 (by omega), fun _ => ?_, fun y => absurd (by omega) y⟩
    have e : fnm_ nms v = nms.length := ff_no (fun j hj => hno j (by omega))
    rw [e, if_neg (Nat.lt_irrefl _)] at h
    exact h
  | succ m ih =>
    intro i hi hno
    have hx := (a3 i (by omega)).2
    refine p_X13_rowAt_2 _ _ ?_
    rw [a0, nI_clamp (n := b) (by omega), a1, nI_leI (by omega) (by omega), ki_mul, nI_add, nI_clamp (n := t) (by omega), nI_clamp (n := 4 * b + i) (by omega), (a3 i (by omega)).1, hw, ki_0, ki_cmp, fb_lN_inj (by omega) (by omega), nI_add]
    refine ⟨(ki_vp (by omega)).2 (by omega), fun y => by omega, fun _ => ⟨(ki_vp (by omega)).2 (by omega), (ki_vp (by omega)).2 (by omega), fun z => ih (i + 1) (by omega) (fun j hj => ?_), fun z => ?_⟩⟩
    · rcases Nat.lt_succ_iff_lt_or_eq.mp hj with q | q
      · exact hno j q
      · subst q; exact decide_eq_false z
    · have e : fnm_ nms v = i := ff_at hno (decide_eq_true z) (by omega)
      rw [e, if_pos (show i < nms.length by omega)] at h
      exact h
