/-! reading: the component's lines -/
theorem lN_i32 (v : Nat) : (lN v).toInt32 = nI v := by
  show (Int64.ofNat v).toInt32 = Int32.ofNat v
  exact Int64.toInt32_ofNat' (n := v)
def f7c_ (c _k : Nat) : Bool := decide (c = 7)
theorem f7c_F {c k : Nat} (h : c ≠ 7) : f7c_ c k = false := decide_eq_false h
theorem fr_.P7 {G G1 : mm_G} (h : fr_ fP_ G G1) : fr_ f7c_ G G1 := h.mono (fun c k q => fP_F (Or.inl (of_decide_eq_false q)))
theorem cP_.rd {G : mm_G} {tb : tb_T} {nt : Option Nat} {t : Nat} (h : cP_ G tb nt t) : mg_i G 7 6 = nI t ∧ t ≤ 400 ∧ mg_i G 3 t = nI (tkk_ tb t) ∧ mg_i G 4 t = nI (tkp_ tb t) ∧ (tkk_ tb t = 2 ∨ tkk_ tb t = 3 → mg_l G 5 t = lN (tkv_ tb t)) := by
  obtain ⟨a1, a2, a3, a4, a5, a6⟩ := h
  obtain ⟨b1, b2, b3⟩ := a5 t a1 a2
  exact ⟨a3, a1, b1, b2, b3⟩
theorem s_number {l : Launch} {κ : mm_K} {d : Nat} {G : mm_G} {K : Int32 → mm_G → Prop} {tb : tb_T} {nt : Option Nat} {t : Nat} (hT : tg_ tb) (hS : cP_ G tb nt t)
    (h1 : ∀ G' x t', nu_ tb t = .inr (x, t') → cP_ G' tb nt t' → t < t' → mg_i G' 7 7 = x → fr_ f7c_ G G' → K (nI 1) G') (h0 : ∀ G' e, nu_ tb t = .inl e → cF_ G' tb e → fr_ f7c_ G G' → K (nI 0) G') : mC l κ true (d + 1) 0 0 m_X5_numberTold [.ref 7] G (rI K) := by
  obtain ⟨a3, a1, b1, b2, b3⟩ := hS.rd
  have hkd := (hT.1 t a1 hS.2.1).1
  have fS : ∀ {G1 : mm_G} (v : Int32), fr_ f7c_ G1 (ms_i G1 7 7 v) := fun v => fr_.rfl'.si rfl
  have hP7 : ∀ {G1 : mm_G} {u : Nat} (v : Int32), cP_ G1 tb nt u → cP_ (ms_i G1 7 7 v) tb nt u := fun v h => h.fr (S := fun c k => decide (c = 7) && decide (k = 7)) (fr_.rfl'.si (by decide)) (fun c k q => by
    by_cases e : c = 7
    · rw [decide_eq_false (p := k = 7) (by omega), Bool.and_false]
    · rw [decide_eq_false e]; rfl)
  refine e_X5_numberTold ?_
  rw [a3, nI_clamp (by omega), b1, nI_eq (by omega) (by omega)]
  refine ⟨(ki_vp (by omega)).2 (by omega), fun z => ⟨fun _ => ⟨(ki_vp (by omega)).2 (by omega), fun _ => ?_, fun y => absurd (by decide) y⟩, fun y => absurd (by decide) y⟩, fun z => ⟨fun y => absurd y (by decide), fun _ => ?_⟩⟩
  · refine s_accept hT (by omega) (by omega) (hP7 _ hS) (fun G2 e2 k2 c2 f2 => ⟨Or.inr (by decide), ?_⟩) (fun G2 e e2 c2 f2 => ⟨Or.inl (by decide), ?_⟩)
    · refine h1 G2 (nI (tkv_ tb t)) (t + 1) (by unfold nu_; rw [if_neg z, bd_r _ e2]) c2 (by omega) ?_ ((fS _).trans f2.P7)
      rw [f2.i _ _ (fP_F (Or.inr rfl))]
      simp only [mg_i_i, mg_i_l, mg_i_r, mg_i_b, mg_l_i, mg_l_l, mg_l_r, mg_l_b, mg_r_i, mg_r_l, mg_r_r, mg_r_b, false_and, and_false, true_and, and_true, reduceCtorEq, if_true, if_false, reduceIte, Nat.reduceEqDiff, Nat.reduceAdd, Nat.succ_ne_self, ne_eq, not_false_eq_true, not_true_eq_false]
      rw [b3 (Or.inr k2), lN_i32]
    · exact h0 G2 e (by unfold nu_; rw [if_neg z, bd_l _ e2]) c2 ((fS _).trans f2.P7)
  · refine s_accept hT (by omega) (by omega) hS (fun G2 e2 k2 c2 f2 => ⟨fun _ => ?_, fun y => absurd y (by decide)⟩) (fun G2 e e2 c2 f2 => ⟨fun y => absurd (by decide) y, fun _ => ?_⟩)
    · obtain ⟨a3', a1', b1', b2', b3'⟩ := c2.rd
      rw [a3', nI_clamp (by omega)]
      refine ⟨(ki_vp (by omega)).2 (by omega), fun y => absurd y (by decide), fun _ => ?_⟩
      refine s_accept hT (by omega) (by omega) (hP7 _ c2) (fun G3 e3 k3 c3 f3 => ⟨Or.inr (by decide), ?_⟩) (fun G3 e e3 c3 f3 => ⟨Or.inl (by decide), ?_⟩)
      · refine h1 G3 (-(nI (tkv_ tb (t + 1)))) (t + 1 + 1) (by unfold nu_; rw [if_pos z, bd_r _ e2, bd_r _ e3]) c3 (by omega) ?_ ((f2.P7.trans (fS _)).trans f3.P7)
        rw [f3.i _ _ (fP_F (Or.inr rfl))]
        simp only [mg_i_i, mg_i_l, mg_i_r, mg_i_b, mg_l_i, mg_l_l, mg_l_r, mg_l_b, mg_r_i, mg_r_l, mg_r_r, mg_r_b, false_and, and_false, true_and, and_true, reduceCtorEq, if_true, if_false, reduceIte, Nat.reduceEqDiff, Nat.reduceAdd, Nat.succ_ne_self, ne_eq, not_false_eq_true, not_true_eq_false]
        rw [b3' (Or.inr k3), lN_i32]
      · exact h0 G3 e (by unfold nu_; rw [if_pos z, bd_r _ e2, bd_l _ e3]) c3 ((f2.P7.trans (fS _)).trans f3.P7)
    · exact h0 G2 e (by unfold nu_; rw [if_pos z, bd_l _ e2]) c2 f2.P7
def fvv_ (x q c k : Nat) : Bool := decide (c = 7) || (decide (c = x) && (decide (k = q) || decide (k = q + 1)))
theorem fvv_F {x q c k : Nat} (h : c ≠ 7 ∧ (c ≠ x ∨ (k ≠ q ∧ k ≠ q + 1))) : fvv_ x q c k = false := by
  unfold fvv_
  rw [decide_eq_false h.1]
  rcases h.2 with z | z
  · rw [decide_eq_false z]; rfl
  · rw [decide_eq_false z.1, decide_eq_false z.2, Bool.or_self, Bool.and_false]; rfl
theorem fvv_x {x q k : Nat} (h : k = q ∨ k = q + 1) : fvv_ x q x k = true := by
  unfold fvv_
  rw [decide_eq_true (p := x = x) rfl]
  rcases h with z | z
  · rw [decide_eq_true z]; simp
  · rw [decide_eq_true z]; simp
theorem fr_.f7v {x q : Nat} {G G1 : mm_G} (h : fr_ f7c_ G G1) : fr_ (fvv_ x q) G G1 := h.mono (fun c k z => by
  unfold fvv_ at z
  exact (Bool.or_eq_false_iff.1 z).1)
theorem s_value {l : Launch} {κ : mm_K} {d : Nat} {G : mm_G} {K : Int32 → mm_G → Prop} {tb : tb_T} {nt : Option Nat} {t x q : Nat} {b : Int32} (hT : tg_ tb) (hx : LineAt x) (hx2 : 285 ≤ x) (hq : (q = 4 ∧ b = nI 0) ∨ (q = 6 ∧ b = nI 1)) (hS : cP_ G tb nt t)
    (h1 : ∀ G' v t', pva_ tb t = .inr (v, t') → cP_ G' tb nt t' → t < t' → mg_i G' x q = v.1 → mg_i G' x (q + 1) = v.2 → fr_ (fvv_ x q) G G' → K (nI 1) G') (h0 : ∀ G' e, pva_ tb t = .inl e → cF_ G' tb e → fr_ (fvv_ x q) G G' → K (nI 0) G') : mC l κ true (d + 2) 0 0 m_X5_valueTold [.ref 7, .ref x, .int b] G (rI K) := by
  obtain ⟨a3, a1, b1, b2, b3⟩ := hS.rd
  have hkd := (hT.1 t a1 hS.2.1).1
  have hq7 : q + 1 ≤ 7 := by omega
  have hP7 : ∀ {G1 : mm_G} {u : Nat} (v : Int32), cP_ G1 tb nt u → cP_ (ms_i G1 7 7 v) tb nt u := fun v h => h.fr (S := fun c k => decide (c = 7) && decide (k = 7)) (fr_.rfl'.si (by decide)) (fun c k q => by
    by_cases e : c = 7
    · rw [decide_eq_false (p := k = 7) (by omega), Bool.and_false]
    · rw [decide_eq_false e]; rfl)
  -- behind the value
  have hend : ∀ G2 (w kd : Int32) t' v, fr_ (fvv_ x q) G G2 → cP_ G2 tb nt t' → t < t' → mg_i G2 7 7 = v → pva_ tb t = .inr ((kd, v), t') → mV l κ true (d + 2) 0 0 m_X5_valueTold 87 [some (.ref 7), some (.ref x), some (.int b), some (.int w), some (.int kd)] [] G2 (rI K) := by
    intro G2 w kd t' v f2 c2 hlt hv e
    have key : K (nI 1) (ms_i (ms_i G2 x q kd) x (q + 1) (mg_i (ms_i G2 x q kd) 7 7)) := by
      have e7 : mg_i (ms_i G2 x q kd) 7 7 = v := by rw [mg_i_i, if_neg (by omega)]; exact hv
      rw [e7]
      have fx : fr_ (fvv_ x q) G2 (ms_i (ms_i G2 x q kd) x (q + 1) v) := (fr_.rfl'.si (fvv_x (Or.inl rfl))).si (fvv_x (Or.inr rfl))
      refine h1 _ (kd, v) t' e (c2.fr (S := fun c _ => decide (c = x)) ((fr_.rfl'.si (decide_eq_true rfl)).si (decide_eq_true rfl)) (fun c k q => decide_eq_false (by omega))) hlt ?_ ?_ (f2.trans fx)
      · rw [mg_i_i, if_neg (by omega), mg_i_i, if_pos ⟨rfl, rfl⟩]
      · rw [mg_i_i, if_pos ⟨rfl, rfl⟩]
    refine p_X5_valueTold_87 x hx b w kd ?_
    rcases hq with ⟨q1, q2⟩ | ⟨q1, q2⟩
    · subst q1 q2
      exact ⟨fun _ => key, fun y => absurd (by decide) y⟩
    · subst q1 q2
      exact ⟨fun y => absurd y (by decide), fun _ => key⟩
  refine e_X5_valueTold x hx b ?_
  rw [a3, nI_clamp (by omega), b1]
  refine ⟨(ki_vp (by omega)).2 (by omega), ?_⟩
  by_cases c1 : tkk_ tb t < 20
  · -- no word
    have hneg : nI (tkk_ tb t) - nI 20 < nI 11 := by
      rw [fa_lt, nI_toInt (by omega)]
      have : (nI (tkk_ tb t) - nI 20).toInt = (tkk_ tb t : Int) - 20 := by
        have h2 := nI_toInt (n := tkk_ tb t) (by omega)
        have h3 := nI_toInt (n := 20) (by omega)
        rw [Int32.toInt_sub, h2, h3]
        exact Int.bmod_eq_of_le (by omega) (by omega)
      omega
    have hn15 : ¬ nI (tkk_ tb t) - nI 20 = nI 15 := fun e => by
      have h2 := congrArg (fun z => z + nI 20) e
      simp only [Int32.sub_add_cancel] at h2
      rw [nI_add, nI_eq (by omega) (by omega)] at h2
      omega
    refine ⟨fun _ => ⟨fun _ => p_X5_valueTold_59 x hx b _ _ ⟨fun y => absurd (by decide) y, fun _ => ?_⟩, fun y => absurd y hn15⟩, fun y => absurd hneg y⟩
    refine s_number hT hS (fun G2 v t' e2 c2 lt2 v2 f2 => ⟨fun _ => hend G2 _ _ t' v f2.f7v c2 lt2 v2 (by unfold pva_; rw [if_neg (by omega), if_neg (by omega), bd_r _ e2]), fun y => absurd y (by decide)⟩) (fun G2 e e2 c2 f2 => ⟨fun y => absurd (by decide) y, fun _ => h0 G2 e (by unfold pva_; rw [if_neg (by omega), if_neg (by omega), bd_l _ e2]) c2 f2.f7v⟩)
  · rw [ki_sub (by omega), nI_ltI (by omega) (by omega), nI_eq (by omega) (by omega), nI_ltI (by omega) (by omega)]
    have hw : nI 20 + nI (tkk_ tb t - 20) = nI (tkk_ tb t) := by rw [nI_add]; congr 1; omega
    have hnum : ¬ (31 ≤ tkk_ tb t ∧ tkk_ tb t ≤ 34) → ¬ tkk_ tb t = 35 → mV l κ true (d + 2) 0 0 m_X5_valueTold 59 [some (.ref 7), some (.ref x), some (.int b), some (.int (nI (tkk_ tb t - 20))), some (.int (nI 0))] [] G (rI K) := by
      intro n1 n2
      refine p_X5_valueTold_59 x hx b _ _ ⟨fun y => absurd (by decide) y, fun _ => ?_⟩
      refine s_number hT hS (fun G2 v t' e2 c2 lt2 v2 f2 => ⟨fun _ => hend G2 _ _ t' v f2.f7v c2 lt2 v2 (by unfold pva_; rw [if_neg n1, if_neg n2, bd_r _ e2]), fun y => absurd y (by decide)⟩) (fun G2 e e2 c2 f2 => ⟨fun y => absurd (by decide) y, fun _ => h0 G2 e (by unfold pva_; rw [if_neg n1, if_neg n2, bd_l _ e2]) c2 f2.f7v⟩)
    have hin : tkk_ tb t = 35 → mV l κ true (d + 2) 0 0 m_X5_valueTold 59 [some (.ref 7), some (.ref x), some (.int b), some (.int (nI (tkk_ tb t - 20))), some (.int (nI 2))] [] (ms_i G 7 7 (nI 0)) (rI K) := by
      intro n2
      have f1 : fr_ f7c_ G (ms_i G 7 7 (nI 0)) := fr_.rfl'.si rfl
      refine p_X5_valueTold_59 x hx b _ _ ⟨fun _ => ?_, fun y => absurd y (by decide)⟩
      rw [hw, n2]
      refine s_accept hT (by omega) (by omega) (hP7 _ hS) (fun G2 e2 k2 c2 f2 => ⟨fun _ => hend G2 _ _ (t + 1) (nI 0) (f1.trans f2.P7).f7v c2 (by omega) (by rw [f2.i _ _ (fP_F (Or.inr rfl))]; simp only [mg_i_i, mg_i_l, mg_i_r, mg_i_b, mg_l_i, mg_l_l, mg_l_r, mg_l_b, mg_r_i, mg_r_l, mg_r_r, mg_r_b, false_and, and_false, true_and, and_true, reduceCtorEq, if_true, if_false, reduceIte, Nat.reduceEqDiff, Nat.reduceAdd, Nat.succ_ne_self, ne_eq, not_false_eq_true, not_true_eq_false]) (by unfold pva_; rw [if_neg (by omega), if_pos n2, bd_r _ e2]), fun y => absurd y (by decide)⟩) (fun G2 e e2 c2 f2 => ⟨fun y => absurd (by decide) y, fun _ => h0 G2 e (by unfold pva_; rw [if_neg (by omega), if_pos n2, bd_l _ e2]) c2 (f1.trans f2.P7).f7v⟩)
    refine ⟨fun y => ⟨fun z => hnum (by omega) (by omega), fun z => by omega⟩, fun y => ⟨fun z => ⟨fun z2 => hnum (by omega) (by omega), fun z2 => hin (by omega)⟩, fun z => ?_⟩⟩
    have hc : 31 ≤ tkk_ tb t ∧ tkk_ tb t ≤ 34 := by omega
    rw [ki_sub (by omega), show tkk_ tb t - 20 - 11 = tkk_ tb t - 31 by omega]
    have f1 : fr_ f7c_ G (ms_i G 7 7 (nI (tkk_ tb t - 31))) := fr_.rfl'.si rfl
    refine p_X5_valueTold_59 x hx b _ _ ⟨fun _ => ?_, fun y => absurd y (by decide)⟩
    rw [hw]
    exact s_accept hT (by omega) (by omega) (hP7 _ hS) (fun G2 e2 k2 c2 f2 => ⟨fun _ => hend G2 _ _ (t + 1) (nI (tkk_ tb t - 31)) (f1.trans f2.P7).f7v c2 (by omega) (by rw [f2.i _ _ (fP_F (Or.inr rfl))]; simp only [mg_i_i, mg_i_l, mg_i_r, mg_i_b, mg_l_i, mg_l_l, mg_l_r, mg_l_b, mg_r_i, mg_r_l, mg_r_r, mg_r_b, false_and, and_false, true_and, and_true, reduceCtorEq, if_true, if_false, reduceIte, Nat.reduceEqDiff, Nat.reduceAdd, Nat.succ_ne_self, ne_eq, not_false_eq_true, not_true_eq_false]) (by unfold pva_; rw [if_pos hc, bd_r _ e2]), fun y => absurd y (by decide)⟩) (fun G2 e e2 c2 f2 => ⟨fun y => absurd (by decide) y, fun _ => h0 G2 e (by unfold pva_; rw [if_pos hc, bd_l _ e2]) c2 (f1.trans f2.P7).f7v⟩)
