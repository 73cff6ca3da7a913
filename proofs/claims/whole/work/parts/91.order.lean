/-! reading: the component's orders and lines -/
def fOl_ (x i c k : Nat) : Bool := decide (c = 7) || (decide (c = 49) && decide (k = i)) || (decide (c = x) && !decide (k = 0) && !decide (k = 2))
theorem fOl_F {x i c k : Nat} (h : c ≠ 7 ∧ (c ≠ 49 ∨ k ≠ i) ∧ (c ≠ x ∨ k = 0 ∨ k = 2)) : fOl_ x i c k = false := by
  unfold fOl_
  rw [decide_eq_false h.1]
  have e1 : (decide (c = 49) && decide (k = i)) = false := by
    rcases h.2.1 with z | z
    · rw [decide_eq_false z]; rfl
    · rw [decide_eq_false z, Bool.and_false]
  have e2 : (decide (c = x) && !decide (k = 0) && !decide (k = 2)) = false := by
    rcases h.2.2 with z | z | z
    · rw [decide_eq_false z]; rfl
    · rw [decide_eq_true z]; simp
    · rw [decide_eq_true z]; simp
  rw [e1, e2]
  rfl
theorem fOl_iff {x i c k : Nat} : fOl_ x i c k = false ↔ (c ≠ 7 ∧ (c ≠ 49 ∨ k ≠ i) ∧ (c ≠ x ∨ k = 0 ∨ k = 2)) := by
  refine ⟨fun h => ?_, fOl_F⟩
  unfold fOl_ at h
  simp only [Bool.or_eq_false_iff, decide_eq_false_iff_not] at h
  obtain ⟨⟨h1, h2⟩, h3⟩ := h
  refine ⟨h1, ?_, ?_⟩
  · by_cases c1 : c = 49
    · by_cases c2 : k = i
      · rw [decide_eq_true c1, decide_eq_true c2] at h2; cases h2
      · exact Or.inr c2
    · exact Or.inl c1
  · by_cases c1 : c = x
    · by_cases c2 : k = 0
      · exact Or.inr (Or.inl c2)
      · by_cases c3 : k = 2
        · exact Or.inr (Or.inr c3)
        · rw [decide_eq_true c1, decide_eq_false c2, decide_eq_false c3] at h3; cases h3
    · exact Or.inl c1
theorem fr_.vO {x i q : Nat} {G G1 : mm_G} (h : fr_ (fvv_ x q) G G1) (hq : 3 ≤ q) : fr_ (fOl_ x i) G G1 := h.mono (fun c k z => by
  have := fOl_iff.1 z
  exact fvv_F (by omega))
theorem fr_.llO {x i : Nat} {G G1 : mm_G} (h : fr_ (fll_ x i) G G1) : fr_ (fOl_ x i) G G1 := h.mono (fun c k z => by
  have := fOl_iff.1 z
  exact fll_F (by omega))
theorem fr_.PO {x i : Nat} {G G1 : mm_G} (h : fr_ fP_ G G1) : fr_ (fOl_ x i) G G1 := h.mono (fun c k z => by
  have := fOl_iff.1 z
  exact fP_F (by omega))
def oc_ (G : mm_G) (x : Nat) (o : ol_T) : Prop := ∀ tk nm, ln_mk (mg_i G x 1) tk nm (mg_i G x 3) (if mg_i G x 1 = nI 7 then mg_i G x 6 else mg_i G x 4) (if mg_i G x 1 = nI 7 then mg_i G x 7 else mg_i G x 5) (mg_i G x 4) (mg_i G x 5) (mg_i G x 8) (mg_l G x 9) (mg_i G x 10) = lm_ tk nm o
theorem oc_at {G : mm_G} {x o : Nat} (ho : o ≤ 10) (e1 : mg_i G x 1 = nI o) : oc_ G x (o, (if o ≤ 4 then mg_i G x 3 else nI 0), (if o ≤ 5 then (mg_i G x 4, mg_i G x 5) else if o = 7 then (mg_i G x 6, mg_i G x 7) else (nI 0, nI 0)), (if o = 7 then (mg_i G x 4, mg_i G x 5) else (nI 0, nI 0)), (if o = 7 then mg_i G x 8 else nI 0), (if o = 6 ∨ o = 7 then mg_l G x 9 else 0), (if o = 8 then mg_i G x 10 else nI 0)) := by
  intro tk nm
  have h4 : (nI o ≤ nI 4) = (o ≤ 4) := propext (nI_leI (by omega) (by omega))
  have h5 : (nI o ≤ nI 5) = (o ≤ 5) := propext (nI_leI (by omega) (by omega))
  have h6 : (nI o = nI 6) = (o = 6) := propext (nI_eq (by omega) (by omega))
  have h7 : (nI o = nI 7) = (o = 7) := propext (nI_eq (by omega) (by omega))
  have h8 : (nI o = nI 8) = (o = 8) := propext (nI_eq (by omega) (by omega))
  unfold ln_mk lm_
  rw [e1]
  simp only [h4, h5, h6, h7, h8]
  by_cases c7 : o = 7
  · subst c7; rfl
  · by_cases c5 : o ≤ 5
    · simp only [c5, c7, true_or, if_true, if_false]
    · simp only [c5, c7, or_self, if_false]
theorem s_order {l : Launch} {κ : mm_K} {d : Nat} {G : mm_G} {K : Int32 → mm_G → Prop} {tb : tb_T} {nms : List Nat} {nt : Option Nat} {t x i : Nat} (hT : tg_ tb) (hx : LineAt x) (hx2 : 285 ≤ x) (hi : i < 16) (hN : cNm_ G nms) (hS : cP_ G tb nt t)
    (h1 : ∀ G' o lt nt' t', por_ tb nms nt t = .inr (o, lt, nt', t') → cP_ G' tb nt' t' → t < t' → oc_ G' x o → (o.1 = 6 ∨ o.1 = 7 → mg_i G' 49 i = nI (tkp_ tb lt)) → fr_ (fOl_ x i) G G' → K (nI 1) G') (h0 : ∀ G' e, por_ tb nms nt t = .inl e → cF_ G' tb e → fr_ (fOl_ x i) G G' → K (nI 0) G') : mC l κ true (d + 3) 0 0 m_X5_orderTold [.ref 7, .ref x, .int (nI i)] G (rI K) := by
  obtain ⟨a3, a1, b1, b2, b3⟩ := hS.rd
  have hkd := (hT.1 t a1 hS.2.1).1
  have ex : ∀ (v : Int32) c k, c < 285 → mg_i (ms_i G x 1 v) c k = mg_i G c k := fun v c k hc => by rw [mg_i_i, if_neg (by omega)]
  refine e_X5_orderTold x hx _ ?_
  rw [a3, nI_clamp (by omega), b1]
  refine ⟨(ki_vp (by omega)).2 (by omega), e_X5_isOrder _ ?_⟩
  rw [nI_ltI (by omega) (by omega), nI_ltI (by omega) (by omega)]
  have hno : ¬ (20 ≤ tkk_ tb t ∧ tkk_ tb t ≤ 30) → mC l κ true (d + 2) 0 0 m_X5_refuse [.ref 7, .int (nI 1)] G (rI (fun r1 G2 => (r1 = 0 ∨ r1 = 1) ∧ K r1 G2)) := fun hn => s_refuse (Or.inl rfl) hS (fun G2 c2 f2 => ⟨Or.inl (by decide), h0 G2 (1, t) (by unfold por_; rw [if_neg hn]) c2 f2.PO⟩)
  refine ⟨fun y => ⟨fun z => absurd (by decide) z, fun _ => hno (by omega)⟩, fun y => ⟨fun z => ⟨fun z2 => absurd (by decide) z2, fun _ => hno (by omega)⟩, fun z => ⟨fun _ => ?_, fun z2 => absurd z2 (by decide)⟩⟩⟩
  have hk : 20 ≤ tkk_ tb t ∧ tkk_ tb t ≤ 30 := by omega
  rw [a3, nI_clamp (by omega), b1, ki_sub (by omega), ex _ 7 6 (by omega), a3, nI_clamp (by omega), ex _ 3 t (by omega), b1]
  refine ⟨(ki_vp (by omega)).2 (by omega), (ki_vp (by omega)).2 (by omega), ?_⟩
  have fx : fr_ (fOl_ x i) G (ms_i G x 1 (nI (tkk_ tb t - 20))) := fr_.rfl'.si (by unfold fOl_; simp)
  refine s_accept hT (by omega) (by omega) (hS.x hx2) (fun G4 e4 k4 c4 f4 => ⟨fun _ => ?_, fun z2 => absurd z2 (by decide)⟩) (fun G4 e e4 c4 f4 => ⟨fun z2 => absurd (by decide) z2, fun _ => h0 G4 e (by unfold por_; rw [if_pos hk, bd_l _ e4]) c4 (fx.trans f4.PO)⟩)
  have o1 : mg_i G4 x 1 = nI (tkk_ tb t - 20) := by rw [f4.i _ _ (fP_x hx2), mg_i_i, if_pos ⟨rfl, rfl⟩]
  have F4 : fr_ (fOl_ x i) G G4 := fx.trans f4.PO
  have hN4 : cNm_ G4 nms := hN.fr F4 (fun c k q => fOl_F (by omega))
  have keep1 : ∀ {q : Nat} {G5 G6 : mm_G}, 3 ≤ q → fr_ (fvv_ x q) G5 G6 → mg_i G6 x 1 = mg_i G5 x 1 := fun hq f => f.i _ _ (fvv_F (by omega))
  rw [o1, nI_toInt (by omega), nI_eq (b := 5) (by omega) (by omega), nI_eq (b := 6) (by omega) (by omega), nI_eq (b := 7) (by omega) (by omega), nI_eq (b := 8) (by omega) (by omega), nI_eq (b := 9) (by omega) (by omega), nI_eq (b := 10) (by omega) (by omega)]
  refine ⟨fun w => ?_, fun w => ?_, fun w => ?_, fun w => ?_, fun w => ?_, fun w => ?_, fun w => ?_⟩
  · -- out
    have hk5 : tkk_ tb t = 25 := by omega
    refine s_value hT hx hx2 (Or.inl ⟨rfl, rfl⟩) c4 (fun G5 v t' e5 c5 lt5 v1 v2 f5 => ⟨Or.inr (by decide), ?_⟩) (fun G5 e e5 c5 f5 => ⟨Or.inl (by decide), h0 G5 e (by unfold por_; rw [if_pos hk, bd_r _ e4, if_neg (by omega), if_pos hk5, bd_l _ e5]) c5 (F4.trans (f5.vO (by omega)))⟩)
    have hoc : oc_ G5 x (5, nI 0, (mg_i G5 x 4, mg_i G5 x (4 + 1)), (nI 0, nI 0), nI 0, 0, nI 0) := oc_at (o := 5) (by omega) ((keep1 (by omega) f5).trans (by rw [o1, hk5]))
    rw [v1, v2] at hoc
    exact h1 G5 _ _ _ t' (by unfold por_; rw [if_pos hk, bd_r _ e4, if_neg (by omega), if_pos hk5, bd_r _ e5]) c5 (by omega) hoc (fun q => by simp at q) (F4.trans (f5.vO (by omega)))
  · -- go
    have hk5 : tkk_ tb t = 26 := by omega
    refine s_label hT hx hx2 hi c4 (fun G5 e5 k5 c5 v1 v2 f5 => ⟨Or.inr (by decide), ?_⟩) (fun G5 e e5 c5 f5 => ⟨Or.inl (by decide), h0 G5 e (by unfold por_; rw [if_pos hk, bd_r _ e4, if_neg (by omega), if_neg (by omega), if_pos hk5, bd_l _ e5]) c5 (F4.trans f5.llO)⟩)
    have hoc : oc_ G5 x (6, nI 0, (nI 0, nI 0), (nI 0, nI 0), nI 0, mg_l G5 x 9, nI 0) := oc_at (o := 6) (by omega) ((f5.i _ _ (fll_F (by omega))).trans (by rw [o1, hk5]))
    rw [v1] at hoc
    exact h1 G5 _ _ _ _ (by unfold por_; rw [if_pos hk, bd_r _ e4, if_neg (by omega), if_neg (by omega), if_pos hk5, bd_r _ e5]) c5 (by omega) hoc (fun _ => v2) (F4.trans f5.llO)
  · -- if
    have hk5 : tkk_ tb t = 27 := by omega
    refine s_value hT hx hx2 (Or.inr ⟨rfl, rfl⟩) c4 (fun G5 v t' e5 c5 lt5 v1 v2 f5 => ⟨fun z2 => absurd z2 (by decide), fun _ => ?_⟩) (fun G5 e e5 c5 f5 => ⟨fun _ => h0 G5 e (by unfold por_; rw [if_pos hk, bd_r _ e4, if_neg (by omega), if_neg (by omega), if_neg (by omega), if_pos hk5, bd_l _ e5]) c5 (F4.trans (f5.vO (by omega))), fun z2 => absurd (by decide) z2⟩)
    have F5 := F4.trans (f5.vO (i := i) (by omega))
    refine s_test hT hx hx2 c5 (fun G6 k6 e6 c6 v3 f6 => ⟨fun z2 => absurd z2 (by decide), fun _ => ?_⟩) (fun G6 e e6 c6 f6 => ⟨fun _ => h0 G6 e ?_ c6 (F5.trans (f6.vO (by omega))), fun z2 => absurd (by decide) z2⟩)
    · have F6 := F5.trans (f6.vO (i := i) (by omega))
      refine s_value hT hx hx2 (Or.inl ⟨rfl, rfl⟩) c6 (fun G7 v' t'' e7 c7 lt7 v4 v5 f7 => ⟨fun z2 => absurd z2 (by decide), fun _ => ?_⟩) (fun G7 e e7 c7 f7 => ⟨fun _ => h0 G7 e (by unfold por_; rw [if_pos hk, bd_r _ e4, if_neg (by omega), if_neg (by omega), if_neg (by omega), if_pos hk5, bd_r _ e5, if_pos k6, bd_r _ e6, bd_l _ e7]) c7 (F6.trans (f7.vO (by omega))), fun z2 => absurd (by decide) z2⟩)
      have F7 := F6.trans (f7.vO (i := i) (by omega))
      refine s_label hT hx hx2 hi c7 (fun G8 e8 k8 c8 v6 v7 f8 => ⟨fun z2 => absurd z2 (by decide), fun _ => ?_⟩) (fun G8 e e8 c8 f8 => ⟨fun _ => h0 G8 e (by unfold por_; rw [if_pos hk, bd_r _ e4, if_neg (by omega), if_neg (by omega), if_neg (by omega), if_pos hk5, bd_r _ e5, if_pos k6, bd_r _ e6, bd_r _ e7, bd_l _ e8]) c8 (F7.trans f8.llO), fun z2 => absurd (by decide) z2⟩)
      have w1 : mg_i G8 x 1 = nI 7 := by rw [f8.i _ _ (fll_F (by omega)), keep1 (by omega) f7, keep1 (by omega) f6, keep1 (by omega) f5, o1, hk5]
      have w6 : mg_i G8 x 6 = v.1 := by rw [f8.i _ _ (fll_F (by omega)), f7.i _ _ (fvv_F (by omega)), f6.i _ _ (fvv_F (by omega))]; exact v1
      have w7 : mg_i G8 x 7 = v.2 := by rw [f8.i _ _ (fll_F (by omega)), f7.i _ _ (fvv_F (by omega)), f6.i _ _ (fvv_F (by omega))]; exact v2
      have w8 : mg_i G8 x 8 = nI (tkk_ tb t' - 10) := by rw [f8.i _ _ (fll_F (by omega)), f7.i _ _ (fvv_F (by omega))]; exact v3
      have w4 : mg_i G8 x 4 = v'.1 := by rw [f8.i _ _ (fll_F (by omega))]; exact v4
      have w5 : mg_i G8 x 5 = v'.2 := by rw [f8.i _ _ (fll_F (by omega))]; exact v5
      have hoc : oc_ G8 x (7, nI 0, (mg_i G8 x 6, mg_i G8 x 7), (mg_i G8 x 4, mg_i G8 x 5), mg_i G8 x 8, mg_l G8 x 9, nI 0) := oc_at (o := 7) (by omega) w1
      rw [v6, w6, w7, w8, w4, w5] at hoc
      exact h1 G8 _ _ _ _ (by unfold por_; rw [if_pos hk, bd_r _ e4, if_neg (by omega), if_neg (by omega), if_neg (by omega), if_pos hk5, bd_r _ e5, if_pos k6, bd_r _ e6, bd_r _ e7, bd_r _ e8]) c8 (by omega) hoc (fun _ => v7) (F7.trans f8.llO)
    · unfold por_
      rw [if_pos hk, bd_r _ e4, if_neg (by omega), if_neg (by omega), if_neg (by omega), if_pos hk5, bd_r _ e5]
      rcases e6 with ⟨k6, e6⟩ | ⟨k6, e6⟩
      · rw [if_pos k6, bd_l _ e6]
      · rw [if_neg k6, e6]
  · -- call
    have hk5 : tkk_ tb t = 28 := by omega
    refine s_called hT hx hx2 hN4 c4 (by rw [Nat.add_sub_cancel]; omega) (fun G5 e5 k5 c5 v1 f5 => ⟨Or.inr (by decide), ?_⟩) (fun G5 e e5 c5 f5 => ⟨Or.inl (by decide), h0 G5 e (by unfold por_; rw [if_pos hk, bd_r _ e4, if_neg (by omega), if_neg (by omega), if_neg (by omega), if_neg (by omega), if_pos hk5, bd_l _ e5]) c5 (F4.trans (f5.vO (by omega)))⟩)
    have hoc : oc_ G5 x (8, nI 0, (nI 0, nI 0), (nI 0, nI 0), nI 0, 0, mg_i G5 x 10) := oc_at (o := 8) (by omega) ((keep1 (by omega) f5).trans (by rw [o1, hk5]))
    rw [v1] at hoc
    exact h1 G5 _ _ _ _ (by unfold por_; rw [if_pos hk, bd_r _ e4, if_neg (by omega), if_neg (by omega), if_neg (by omega), if_neg (by omega), if_pos hk5, bd_r _ e5]) c5 (by omega) hoc (fun q => by simp at q) (F4.trans (f5.vO (by omega)))
  · -- end
    have hk5 : tkk_ tb t = 29 := by omega
    have hoc : oc_ G4 x (9, nI 0, (nI 0, nI 0), (nI 0, nI 0), nI 0, 0, nI 0) := oc_at (o := 9) (by omega) (by rw [o1, hk5])
    exact h1 G4 _ _ _ _ (by unfold por_; rw [if_pos hk, bd_r _ e4, if_neg (by omega), if_neg (by omega), if_neg (by omega), if_neg (by omega), if_neg (by omega), hk5]) c4 (by omega) hoc (fun q => by simp at q) F4
  · -- skip
    have hk5 : tkk_ tb t = 30 := by omega
    have hoc : oc_ G4 x (10, nI 0, (nI 0, nI 0), (nI 0, nI 0), nI 0, 0, nI 0) := oc_at (o := 10) (by omega) (by rw [o1, hk5])
    exact h1 G4 _ _ _ _ (by unfold por_; rw [if_pos hk, bd_r _ e4, if_neg (by omega), if_neg (by omega), if_neg (by omega), if_neg (by omega), if_neg (by omega), hk5]) c4 (by omega) hoc (fun q => by simp at q) F4
  · -- a counter
    have hk5 : tkk_ tb t ≤ 24 := by omega
    refine s_counter hT hx hx2 c4 (fun G5 k5 e5 c5 v1 f5 => ⟨fun z2 => absurd z2 (by decide), fun _ => ?_⟩) (fun G5 e e5 c5 f5 => ⟨fun _ => h0 G5 e ?_ c5 (F4.trans (f5.vO (by omega))), fun z2 => absurd (by decide) z2⟩)
    · have F5 := F4.trans (f5.vO (i := i) (by omega))
      refine s_value hT hx hx2 (Or.inl ⟨rfl, rfl⟩) c5 (fun G6 v t' e6 c6 lt6 v2 v3 f6 => ⟨fun z2 => absurd z2 (by decide), fun _ => ?_⟩) (fun G6 e e6 c6 f6 => ⟨fun _ => h0 G6 e (by unfold por_; rw [if_pos hk, bd_r _ e4, if_pos hk5, if_pos k5, bd_r _ e5, bd_l _ e6]) c6 (F5.trans (f6.vO (by omega))), fun z2 => absurd (by decide) z2⟩)
      have hoc := oc_at (G := G6) (x := x) (o := tkk_ tb t - 20) (by omega) ((keep1 (by omega) f6).trans ((keep1 (by omega) f5).trans o1))
      have w3 : mg_i G6 x 3 = nI (tkk_ tb (t + 1) - 31) := by rw [f6.i _ _ (fvv_F (by omega))]; exact v1
      rw [if_pos (show tkk_ tb t - 20 ≤ 4 by omega), if_pos (show tkk_ tb t - 20 ≤ 5 by omega), if_neg (show ¬ tkk_ tb t - 20 = 7 by omega), if_neg (show ¬ tkk_ tb t - 20 = 7 by omega), if_neg (show ¬ (tkk_ tb t - 20 = 6 ∨ tkk_ tb t - 20 = 7) by omega), if_neg (show ¬ tkk_ tb t - 20 = 8 by omega), w3, v2, v3] at hoc
      exact h1 G6 _ _ _ _ (by unfold por_; rw [if_pos hk, bd_r _ e4, if_pos hk5, if_pos k5, bd_r _ e5, bd_r _ e6]) c6 (by omega) hoc (fun q => by have q : tkk_ tb t - 20 = 6 ∨ tkk_ tb t - 20 = 7 := q; omega) (F5.trans (f6.vO (by omega)))
    · unfold por_
      rw [if_pos hk, bd_r _ e4, if_pos hk5]
      rcases e5 with ⟨k5, e5⟩ | ⟨k5, e5⟩
      · rw [if_pos k5, bd_l _ e5]
      · rw [if_neg k5, e5]
