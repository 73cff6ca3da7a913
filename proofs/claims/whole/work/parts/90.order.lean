/-! reading: the component's orders -/
def cNm_ (G : mm_G) (nms : List Nat) : Prop := mg_i G 8 1 = nI nms.length ∧ nms.length ≤ 4 ∧ ∀ i, i < nms.length → mg_l G (12 + 2 * i) 3 = lN (nms.getD i 0) ∧ nms.getD i 0 < 2 ^ 62
theorem cNm_.fr {S : Nat → Nat → Bool} {G G1 : mm_G} {nms : List Nat} (h : cNm_ G nms) (hf : fr_ S G G1) (hS : ∀ c k, (c = 8 ∧ k = 1) ∨ (12 ≤ c ∧ c ≤ 19 ∧ k = 3) → S c k = false) : cNm_ G1 nms := by
  obtain ⟨a1, a2, a3⟩ := h
  exact ⟨by rw [hf.i _ _ (hS _ _ (by omega))]; exact a1, a2, fun i hi => ⟨by rw [hf.l _ _ (hS _ _ (by omega))]; exact (a3 i hi).1, (a3 i hi).2⟩⟩
def fnl_ (nms : List Nat) (v : Int64) : Nat := fa_first (fun i => decide (lN (nms.getD i 0) = v)) nms.length
def fnr_ (nms : List Nat) (f : Nat) : Int32 := if f < nms.length then nI f else -1
theorem ff_cg {p q : Nat → Bool} {n : Nat} (h : ∀ k, k < n → p k = q k) : fa_first p n = fa_first q n := by
  have h1 := fa_first_le p n
  rcases Nat.lt_or_ge (fa_first p n) n with c | c
  · symm
    exact ff_at (fun k hk => by rw [← h k (by omega)]; exact fa_first_no p n k hk) (by rw [← h _ c]; exact fa_first_yes p n c) c
  · have e : fa_first p n = n := by omega
    rw [e]
    symm
    exact ff_no (fun k hk => by rw [← h k hk]; exact fa_first_no p n k (by omega))
theorem fnl_nm {G : mm_G} {nms : List Nat} {v : Nat} (h : cNm_ G nms) (hv : v < 2 ^ 62) : fnl_ nms (lN v) = fnm_ nms v := by
  unfold fnl_ fnm_
  refine ff_cg (fun i hi => ?_)
  have := (h.2.2 i hi).2
  exact decide_eq_decide.2 (fb_lN_inj (by omega) (by omega))
theorem s_named {l : Launch} {κ : mm_K} {d : Nat} {G : mm_G} {K : Int32 → mm_G → Prop} {nms : List Nat} (v : Int64) (hN : cNm_ G nms) (h : K (fnr_ nms (fnl_ nms v)) G) : mC l κ true d 0 0 m_X7_named [.ref 8, .long v] G (rI K) := by
  obtain ⟨a1, a2, a3⟩ := hN
  refine e_X7_named _ ?_
  suffices H : ∀ m i, i + m = nms.length → (∀ j, j < i → decide (lN (nms.getD j 0) = v) = false) → mV l κ true d 0 0 m_X7_named 2 [some (.ref 8), some (.long v), none, some (.int (nI i))] [] G (rI K) from H _ 0 (Nat.zero_add _) (fun j hj => absurd hj (Nat.not_lt_zero j))
  intro m
  induction m with
  | zero =>
    intro i hi hno
    refine p_X7_named_2 _ _ ⟨fun _ => ?_, fun y => absurd (by rw [a1]; exact nI_le (by omega) (by omega)) y⟩
    have e : fnl_ nms v = nms.length := ff_no (fun j hj => hno j (by omega))
    rw [e] at h
    unfold fnr_ at h
    rw [if_neg (Nat.lt_irrefl _)] at h
    exact h
  | succ m ih =>
    intro i hi hno
    refine p_X7_named_2 _ _ ⟨fun y => absurd y (by rw [a1]; exact nI_ge (by omega) (by omega)), fun _ => ⟨(ki_vp (by omega)).2 (by omega), ?_⟩⟩
    rw [nI_clamp (by omega), (a3 i (by omega)).1, ki_0, ki_cmp, nI_add]
    refine ⟨fun z => ih (i + 1) (by omega) (fun j hj => ?_), fun z => ?_⟩
    · rcases Nat.lt_succ_iff_lt_or_eq.mp hj with q | q
      · exact hno j q
      · subst q; exact decide_eq_false z
    · have e : fnl_ nms v = i := ff_at hno (decide_eq_true z) (by omega)
      rw [e] at h
      unfold fnr_ at h
      rw [if_pos (show i < nms.length by omega)] at h
      exact h
theorem cP_.x {G : mm_G} {tb : tb_T} {nt : Option Nat} {t x k : Nat} {v : Int32} (h : cP_ G tb nt t) (hx : 285 ≤ x) : cP_ (ms_i G x k v) tb nt t := h.fr (S := fun c _ => decide (c = x)) (fr_.rfl'.si (decide_eq_true rfl)) (fun c k q => decide_eq_false (by omega))
theorem cP_.xl {G : mm_G} {tb : tb_T} {nt : Option Nat} {t x k : Nat} {v : Int64} (h : cP_ G tb nt t) (hx : 285 ≤ x) : cP_ (ms_l G x k v) tb nt t := h.fr (S := fun c _ => decide (c = x)) (fr_.rfl'.sl (decide_eq_true rfl)) (fun c k q => decide_eq_false (by omega))
theorem fP_x {x k : Nat} (h : 285 ≤ x) : fP_ x k = false := fP_F (Or.inl (by omega))
/-- a word that is taken into a line -/
theorem s_counter {l : Launch} {κ : mm_K} {d : Nat} {G : mm_G} {K : Int32 → mm_G → Prop} {tb : tb_T} {nt : Option Nat} {t x : Nat} (hT : tg_ tb) (hx : LineAt x) (hx2 : 285 ≤ x) (hS : cP_ G tb nt t)
    (h1 : ∀ G', (31 ≤ tkk_ tb t ∧ tkk_ tb t ≤ 34) → ac_ tb (tkk_ tb t) t = .inr (t + 1) → cP_ G' tb nt (t + 1) → mg_i G' x 3 = nI (tkk_ tb t - 31) → fr_ (fvv_ x 3) G G' → K (nI 1) G') (h0 : ∀ G' e, ((31 ≤ tkk_ tb t ∧ tkk_ tb t ≤ 34) ∧ ac_ tb (tkk_ tb t) t = .inl e) ∨ (¬ (31 ≤ tkk_ tb t ∧ tkk_ tb t ≤ 34) ∧ e = (1, t)) → cF_ G' tb e → fr_ (fvv_ x 3) G G' → K (nI 0) G') : mC l κ true (d + 1) 0 0 m_X5_counterTold [.ref 7, .ref x] G (rI K) := by
  obtain ⟨a3, a1, b1, b2, b3⟩ := hS.rd
  have hkd := (hT.1 t a1 hS.2.1).1
  have hno : ¬ (31 ≤ tkk_ tb t ∧ tkk_ tb t ≤ 34) → mC l κ true d 0 0 m_X5_refuse [.ref 7, .int (nI 1)] G (rI (fun r1 G2 => (r1 = 0 ∨ r1 = 1) ∧ K r1 G2)) := fun hn => s_refuse (Or.inl rfl) hS (fun G2 c2 f2 => ⟨Or.inl (by decide), h0 G2 (1, t) (Or.inr ⟨hn, rfl⟩) c2 f2.P7.f7v⟩)
  refine e_X5_counterTold x hx ?_
  rw [a3, nI_clamp (by omega), b1]
  refine ⟨(ki_vp (by omega)).2 (by omega), ?_⟩
  by_cases c1 : tkk_ tb t < 20
  · have hneg : nI (tkk_ tb t) - nI 20 < nI 11 := by
      rw [fa_lt, nI_toInt (by omega)]
      have : (nI (tkk_ tb t) - nI 20).toInt = (tkk_ tb t : Int) - 20 := by
        rw [Int32.toInt_sub, nI_toInt (n := tkk_ tb t) (by omega), nI_toInt (n := 20) (by omega)]
        exact Int.bmod_eq_of_le (by omega) (by omega)
      omega
    exact ⟨fun _ => hno (by omega), fun y => absurd hneg y⟩
  · rw [ki_sub (by omega), nI_ltI (by omega) (by omega), nI_leI (by omega) (by omega)]
    refine ⟨fun y => hno (by omega), fun y => ⟨fun z => ?_, fun z => hno (by omega)⟩⟩
    rw [ki_sub (by omega), show tkk_ tb t - 20 - 11 = tkk_ tb t - 31 by omega, nI_add, show 20 + (tkk_ tb t - 20) = tkk_ tb t by omega]
    have fx : fr_ (fvv_ x 3) G (ms_i G x 3 (nI (tkk_ tb t - 31))) := fr_.rfl'.si (fvv_x (Or.inl rfl))
    exact s_accept hT (by omega) (by omega) (hS.x hx2) (fun G2 e2 k2 c2 f2 => ⟨Or.inr (by decide), h1 G2 (by omega) e2 c2 (by rw [f2.i _ _ (fP_x hx2), mg_i_i, if_pos ⟨rfl, rfl⟩]) (fx.trans f2.P7.f7v)⟩) (fun G2 e e2 c2 f2 => ⟨Or.inl (by decide), h0 G2 e (Or.inl ⟨by omega, e2⟩) c2 (fx.trans f2.P7.f7v)⟩)
theorem s_test {l : Launch} {κ : mm_K} {d : Nat} {G : mm_G} {K : Int32 → mm_G → Prop} {tb : tb_T} {nt : Option Nat} {t x : Nat} (hT : tg_ tb) (hx : LineAt x) (hx2 : 285 ≤ x) (hS : cP_ G tb nt t)
    (h1 : ∀ G', (10 ≤ tkk_ tb t ∧ tkk_ tb t ≤ 13) → ac_ tb (tkk_ tb t) t = .inr (t + 1) → cP_ G' tb nt (t + 1) → mg_i G' x 8 = nI (tkk_ tb t - 10) → fr_ (fvv_ x 8) G G' → K (nI 1) G') (h0 : ∀ G' e, ((10 ≤ tkk_ tb t ∧ tkk_ tb t ≤ 13) ∧ ac_ tb (tkk_ tb t) t = .inl e) ∨ (¬ (10 ≤ tkk_ tb t ∧ tkk_ tb t ≤ 13) ∧ e = (1, t)) → cF_ G' tb e → fr_ (fvv_ x 8) G G' → K (nI 0) G') : mC l κ true (d + 1) 0 0 m_X5_testTold [.ref 7, .ref x] G (rI K) := by
  obtain ⟨a3, a1, b1, b2, b3⟩ := hS.rd
  have hkd := (hT.1 t a1 hS.2.1).1
  have hno : ¬ (10 ≤ tkk_ tb t ∧ tkk_ tb t ≤ 13) → mC l κ true d 0 0 m_X5_refuse [.ref 7, .int (nI 1)] G (rI (fun r1 G2 => (r1 = 0 ∨ r1 = 1) ∧ K r1 G2)) := fun hn => s_refuse (Or.inl rfl) hS (fun G2 c2 f2 => ⟨Or.inl (by decide), h0 G2 (1, t) (Or.inr ⟨hn, rfl⟩) c2 f2.P7.f7v⟩)
  refine e_X5_testTold x hx ?_
  rw [a3, nI_clamp (by omega), b1]
  refine ⟨(ki_vp (by omega)).2 (by omega), ?_⟩
  by_cases c1 : tkk_ tb t < 10
  · have hneg : nI (tkk_ tb t) - nI 10 < 0 := by
      rw [fa_lt]
      have : (nI (tkk_ tb t) - nI 10).toInt = (tkk_ tb t : Int) - 10 := by
        rw [Int32.toInt_sub, nI_toInt (n := tkk_ tb t) (by omega), nI_toInt (n := 10) (by omega)]
        exact Int.bmod_eq_of_le (by omega) (by omega)
      have e0 : (0 : Int32).toInt = 0 := by decide
      omega
    exact ⟨fun _ => hno (by omega), fun y => absurd hneg y⟩
  · rw [ki_sub (by omega), ki_0, nI_ltI (by omega) (by omega), nI_leI (by omega) (by omega)]
    refine ⟨fun y => by omega, fun y => ⟨fun z => ?_, fun z => hno (by omega)⟩⟩
    rw [nI_add, show 10 + (tkk_ tb t - 10) = tkk_ tb t by omega]
    have fx : fr_ (fvv_ x 8) G (ms_i G x 8 (nI (tkk_ tb t - 10))) := fr_.rfl'.si (fvv_x (Or.inl rfl))
    exact s_accept hT (by omega) (by omega) (hS.x hx2) (fun G2 e2 k2 c2 f2 => ⟨Or.inr (by decide), h1 G2 (by omega) e2 c2 (by rw [f2.i _ _ (fP_x hx2), mg_i_i, if_pos ⟨rfl, rfl⟩]) (fx.trans f2.P7.f7v)⟩) (fun G2 e e2 c2 f2 => ⟨Or.inl (by decide), h0 G2 e (Or.inl ⟨by omega, e2⟩) c2 (fx.trans f2.P7.f7v)⟩)
def fll_ (x i c k : Nat) : Bool := decide (c = 7) || (decide (c = 49) && decide (k = i)) || (decide (c = x) && decide (k = 9))
theorem fll_F {x i c k : Nat} (h : c ≠ 7 ∧ (c ≠ 49 ∨ k ≠ i) ∧ (c ≠ x ∨ k ≠ 9)) : fll_ x i c k = false := by
  unfold fll_
  rw [decide_eq_false h.1]
  have e1 : (decide (c = 49) && decide (k = i)) = false := by
    rcases h.2.1 with z | z
    · rw [decide_eq_false z]; rfl
    · rw [decide_eq_false z, Bool.and_false]
  have e2 : (decide (c = x) && decide (k = 9)) = false := by
    rcases h.2.2 with z | z
    · rw [decide_eq_false z]; rfl
    · rw [decide_eq_false z, Bool.and_false]
  rw [e1, e2]
  rfl
theorem s_label {l : Launch} {κ : mm_K} {d : Nat} {G : mm_G} {K : Int32 → mm_G → Prop} {tb : tb_T} {nt : Option Nat} {t x i : Nat} (hT : tg_ tb) (hx : LineAt x) (hx2 : 285 ≤ x) (hi : i < 16) (hS : cP_ G tb nt t)
    (h1 : ∀ G', ac_ tb 2 t = .inr (t + 1) → tkk_ tb t = 2 → cP_ G' tb nt (t + 1) → mg_l G' x 9 = lN (tkv_ tb t) → mg_i G' 49 i = nI (tkp_ tb t) → fr_ (fll_ x i) G G' → K (nI 1) G') (h0 : ∀ G' e, ac_ tb 2 t = .inl e → cF_ G' tb e → fr_ (fll_ x i) G G' → K (nI 0) G') : mC l κ true (d + 1) 0 0 m_X5_labelTold [.ref 7, .ref x, .int (nI i)] G (rI K) := by
  obtain ⟨a3, a1, b1, b2, b3⟩ := hS.rd
  refine e_X5_labelTold x hx _ ?_
  rw [a3, nI_clamp (by omega), nI_clamp (by omega), b2, ki_0, nI_ltI (by omega) (by omega), nI_leI (by omega) (by omega)]
  refine ⟨(ki_vp (by omega)).2 (by omega), fun y => by omega, fun _ => ⟨fun y => by omega, fun _ => ⟨(ki_vp (by omega)).2 (by omega), (ki_vp (by omega)).2 (by omega), ?_⟩⟩⟩
  have fx : fr_ (fll_ x i) G (ms_i (ms_l G x 9 (mg_l G 5 t)) 49 i (nI (tkp_ tb t))) := (fr_.rfl'.sl (by unfold fll_; simp)).si (by unfold fll_; simp)
  have f7l : ∀ {G1 G2 : mm_G}, fr_ fP_ G1 G2 → fr_ (fll_ x i) G1 G2 := fun h => h.mono (fun c k z => by
    unfold fll_ at z
    simp only [Bool.or_eq_false_iff] at z
    exact fP_F (Or.inl (of_decide_eq_false z.1.1)))
  have hS2 : cP_ (ms_i (ms_l G x 9 (mg_l G 5 t)) 49 i (nI (tkp_ tb t))) tb nt t := (hS.xl hx2).fr (S := fun c _ => decide (c = 49)) (fr_.rfl'.si (decide_eq_true rfl)) (fun c k q => decide_eq_false (by omega))
  refine s_accept hT (by omega) (by omega) hS2 (fun G2 e2 k2 c2 f2 => ⟨Or.inr (by decide), h1 G2 e2 k2 c2 ?_ ?_ (fx.trans (f7l f2))⟩) (fun G2 e e2 c2 f2 => ⟨Or.inl (by decide), h0 G2 e e2 c2 (fx.trans (f7l f2))⟩)
  · rw [f2.l _ _ (fP_x hx2), mg_l_i, mg_l_l, if_pos ⟨rfl, rfl⟩]
    exact b3 (Or.inl k2)
  · rw [f2.i _ _ (fP_F (by omega)), mg_i_i, if_pos ⟨rfl, rfl⟩]
theorem s_called {l : Launch} {κ : mm_K} {d : Nat} {G : mm_G} {K : Int32 → mm_G → Prop} {tb : tb_T} {nms : List Nat} {nt : Option Nat} {t x : Nat} (hT : tg_ tb) (hx : LineAt x) (hx2 : 285 ≤ x) (hN : cNm_ G nms) (hS : cP_ G tb nt t) (hp : tkk_ tb (t - 1) ≠ 36)
    (h1 : ∀ G', ac_ tb 2 t = .inr (t + 1) → tkk_ tb t = 2 → cP_ G' tb (if fnm_ nms (tkv_ tb t) < nms.length then nt else nn_ nt t) (t + 1) → mg_i G' x 10 = (if fnm_ nms (tkv_ tb t) < nms.length then nI (fnm_ nms (tkv_ tb t)) else -1) → fr_ (fvv_ x 10) G G' → K (nI 1) G') (h0 : ∀ G' e, ac_ tb 2 t = .inl e → cF_ G' tb e → fr_ (fvv_ x 10) G G' → K (nI 0) G') : mC l κ true (d + 1) 0 0 m_X5_calledTold [.ref 7, .ref x] G (rI K) := by
  obtain ⟨a3, a1, b1, b2, b3⟩ := hS.rd
  have hno := hN.2.1
  refine e_X5_calledTold x hx ?_
  rw [a3, nI_clamp (by omega)]
  refine ⟨(ki_vp (by omega)).2 (by omega), (ki_vp (by omega)).2 (by omega), s_named _ hN ?_⟩
  have fx : ∀ v : Int32, fr_ (fvv_ x 10) G (ms_i G x 10 v) := fun v => fr_.rfl'.si (fvv_x (Or.inl rfl))
  refine s_accept hT (by omega) (by omega) (hS.x hx2) (fun G2 e2 k2 c2 f2 => ⟨fun _ => ?_, fun y => absurd y (by decide)⟩) (fun G2 e e2 c2 f2 => ⟨fun y => absurd (by decide) y, fun _ => h0 G2 e e2 c2 ((fx _).trans f2.P7.f7v)⟩)
  have hv := (hT.1 t a1 hS.2.1).2.2.2 k2
  have e10 : mg_i G2 x 10 = fnr_ nms (fnm_ nms (tkv_ tb t)) := by
    rw [f2.i _ _ (fP_x hx2), mg_i_i, if_pos ⟨rfl, rfl⟩, b3 (Or.inl k2), fnl_nm hN hv.2]
  rw [e10, b2]
  unfold fnr_ at e10 ⊢
  by_cases c : fnm_ nms (tkv_ tb t) < nms.length
  · rw [if_pos c] at e10 ⊢
    refine ⟨fun _ => h1 G2 e2 k2 (by rw [if_pos c]; exact c2) (by rw [if_pos c]; exact e10) ((fx _).trans f2.P7.f7v), fun y => absurd (nI_pos' (by omega)) y⟩
  · rw [if_neg c] at e10 ⊢
    refine ⟨fun y => absurd y (by decide), fun _ => s_note hT a1 hS.2.1 (by unfold kf_; rw [if_neg (by omega), if_neg hp]) c2 (fun G3 c3 f3 => h1 G3 e2 k2 (by rw [if_neg c]; exact c3) (by rw [if_neg c, f3.i _ _ (fP_x hx2)]; exact e10) (((fx _).trans f2.P7.f7v).trans f3.P7.f7v))⟩
