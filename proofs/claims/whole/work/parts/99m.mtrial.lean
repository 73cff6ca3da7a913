/-! reading: the reference's trials -/
theorem xap_lt {xs : List Int32} {x : Int32} {i : Nat} (h : i < xs.length) : (xs ++ [x]).getD i (nI 0) = xs.getD i (nI 0) := by
  rw [List.getD_eq_getElem?_getD, List.getD_eq_getElem?_getD, List.getElem?_append_left h]
theorem xap_eq {xs : List Int32} {x : Int32} : (xs ++ [x]).getD xs.length (nI 0) = x := by
  rw [List.getD_eq_getElem?_getD, List.getElem?_append_right (Nat.le_refl _), Nat.sub_self]
  rfl
def fTq_ (q c k : Nat) : Bool := decide ((c = 226 ∧ (k = 11 ∨ k = 13 ∨ k = 14 ∨ k = 15 ∨ k = 16)) ∨ ((c = 250 ∨ c = 252) ∧ k = q) ∨ (c = 251 ∧ 6 * q ≤ k ∧ k < 6 * q + 6) ∨ (c = 253 ∧ 8 * q ≤ k ∧ k < 8 * q + 8))
theorem fTq_F {q c k : Nat} (h : ¬ ((c = 226 ∧ (k = 11 ∨ k = 13 ∨ k = 14 ∨ k = 15 ∨ k = 16)) ∨ ((c = 250 ∨ c = 252) ∧ k = q) ∨ (c = 251 ∧ 6 * q ≤ k ∧ k < 6 * q + 6) ∨ (c = 253 ∧ 8 * q ≤ k ∧ k < 8 * q + 8))) : fTq_ q c k = false := decide_eq_false h
theorem fTq_T {q c k : Nat} (h : (c = 226 ∧ (k = 11 ∨ k = 13 ∨ k = 14 ∨ k = 15 ∨ k = 16)) ∨ ((c = 250 ∨ c = 252) ∧ k = q) ∨ (c = 251 ∧ 6 * q ≤ k ∧ k < 6 * q + 6) ∨ (c = 253 ∧ 8 * q ≤ k ∧ k < 8 * q + 8)) : fTq_ q c k = true := decide_eq_true h
theorem fr_.rTq {q : Nat} {G G1 : mm_G} (h : fr_ fmr_ G G1) : fr_ (fTq_ q) G G1 := h.mono (fun c k z => by
  have := of_decide_eq_false z
  exact fmr_F (by omega))
def mTq_ (G : mm_G) (q : Nat) (x : List Int32 × Option (List Int32)) : Prop := mg_i G 250 q = nI x.1.length ∧ (∀ j, j < x.1.length → mg_i G 251 (6 * q + j) = x.1.getD j (nI 0)) ∧ (x.2 = none → mg_i G 252 q = -1) ∧ ∀ g, x.2 = some g → mg_i G 252 q = nI g.length ∧ ∀ j, j < g.length → mg_i G 253 (8 * q + j) = g.getD j (nI 0)
def pgv_ (tb : tb_T) (t : Nat) : re_T (Option (List Int32) × Nat) := if tkk_ tb t = 38 then bd_ (ac_ tb 38 t) (fun t3 => bd_ (pnm_ tb 8 9 [] t3) (fun q => .inr (some q.1, q.2))) else .inr (none, t)
theorem t_tr4 {l : Launch} {κ : mm_K} {d : Nat} {G : mm_G} {K : mm_G → Prop} {tb : tb_T} {nt : Option Nat} {t b : Nat} (hT : tg_ tb) (hb : b < 2) (e19 : mg_i G 226 19 = nI b) (hS : mP_ G tb nt t)
    (h1 : ∀ G', ac_ tb 4 t = .inr (t + 1) → mP_ G' tb nt (t + 1) → fr_ fmr_ G G' → K (ms_i G' 249 b (mg_i G' 249 b + nI 1))) (h0 : ∀ G' e, ac_ tb 4 t = .inl e → mF_ G' tb e → fr_ fmr_ G G' → K G') : mC l κ true (d + 2) 0 0 m_X13_must [.ref 226, .int (nI 4)] G (rV (fun G2 => ((¬ (mg_i G2 226 13) = 0 → K G2) ∧ ((mg_i G2 226 13) = 0 → vp_in (mg_i G2 226 19) 2 ∧ vp_in (mg_i G2 226 19) 2 ∧ K (ms_i G2 249 ((mg_i G2 226 19).toNatClampNeg) ((mg_i G2 249 ((mg_i G2 226 19).toNatClampNeg)) + (nI 1))))))) := by
  refine t_must (k := 4) hT (by omega) (by omega) hS (fun G2 a2 k2 p2 f2 => ⟨fun y => absurd (by rw [p2.2.2.2.1]; decide) y, fun _ => ?_⟩) (fun G2 e a2 p2 f2 => ⟨fun _ => h0 G2 e a2 p2 f2, fun y => absurd y p2.ne.1⟩)
  have e : mg_i G2 226 19 = nI b := by rw [f2.i _ _ (fmr_F (by omega))]; exact e19
  rw [e, nI_clamp (n := b) (by omega)]
  exact ⟨(ki_vp (by omega)).2 (by omega), (ki_vp (by omega)).2 (by omega), h1 G2 a2 p2 f2⟩
theorem t_tr4F {l : Launch} {κ : mm_K} {d : Nat} {G : mm_G} {K : mm_G → Prop} {tb : tb_T} {e : Nat × Nat} (hS : mF_ G tb e) (h : K G) : mC l κ true (d + 2) 0 0 m_X13_must [.ref 226, .int (nI 4)] G (rV (fun G2 => ((¬ (mg_i G2 226 13) = 0 → K G2) ∧ ((mg_i G2 226 13) = 0 → vp_in (mg_i G2 226 19) 2 ∧ vp_in (mg_i G2 226 19) 2 ∧ K (ms_i G2 249 ((mg_i G2 226 19).toNatClampNeg) ((mg_i G2 249 ((mg_i G2 226 19).toNatClampNeg)) + (nI 1))))))) :=
  t_mustF _ hS ⟨fun _ => h, fun y => absurd y hS.ne.1⟩
theorem t_n130F {l : Launch} {κ : mm_K} {d : Nat} {G : mm_G} {K : mm_G → Prop} {tb : tb_T} {e : Nat × Nat} (v1 : Int32) (hS : mF_ G tb e) (h : K G) : mV l κ true (d + 3) 0 0 m_X13_tellTrial 130 [some (.ref 226), some (.int v1)] [] G (rV K) :=
  p_X13_tellTrial_130 _ ⟨fun _ => t_tr4F hS h, fun y => absurd y hS.ne.1⟩
theorem t_n36F {l : Launch} {κ : mm_K} {d : Nat} {G : mm_G} {K : mm_G → Prop} {tb : tb_T} {e : Nat × Nat} (v1 : Int32) (hS : mF_ G tb e) (h : K G) : mV l κ true (d + 3) 0 0 m_X13_tellTrial 36 [some (.ref 226), some (.int v1)] [] G (rV K) :=
  p_X13_tellTrial_36 _ ⟨fun _ => ⟨fun _ => t_tr4F hS h, fun y => absurd y hS.ne.1⟩, fun y => absurd y hS.ne.1⟩
theorem t_n130 {l : Launch} {κ : mm_K} {d : Nat} {K : mm_G → Prop} {tb : tb_T} {nt : Option Nat} {b q : Nat} (hT : tg_ tb) (hb : b < 2) (hq : q < 16) : ∀ (m : Nat) (G : mm_G) (xs : List Int32) (t : Nat), xs.length + m = 9 → xs.length ≤ 8 → mP_ G tb nt t → mg_i G 226 19 = nI b → mg_i G 252 q = nI xs.length → (∀ j, j < xs.length → mg_i G 253 (8 * q + j) = xs.getD j (nI 0))
    → (∀ G' ys t', pnm_ tb 8 m xs t = .inr (ys, t') → ac_ tb 4 t' = .inr (t' + 1) → mP_ G' tb nt (t' + 1) → mg_i G' 252 q = nI ys.length → (∀ j, j < ys.length → mg_i G' 253 (8 * q + j) = ys.getD j (nI 0)) → fr_ (fun c k => fTq_ q c k && decide (c ≠ 250 ∧ c ≠ 251)) G G' → K (ms_i G' 249 b (mg_i G' 249 b + nI 1)))
    → (∀ G' e, (∀ f : (List Int32 × Nat) → Nat → re_T ((List Int32 × Option (List Int32)) × Nat), bd_ (pnm_ tb 8 m xs t) (fun q => bd_ (ac_ tb 4 q.2) (fun t5 => f q t5)) = .inl e) → mF_ G' tb e → fr_ (fun c k => fTq_ q c k && decide (c ≠ 250 ∧ c ≠ 251)) G G' → K G')
    → mV l κ true (d + 3) 0 0 m_X13_tellTrial 130 [some (.ref 226), some (.int (nI q))] [] G (rV K)
  | 0, G, xs, t, hm, hl, hS, e19, e2, e3, h1, h0 => by omega
  | m + 1, G, xs, t, hm, hl, hS, e19, e2, e3, h1, h0 => by
    have rT : ∀ {G1 G2 : mm_G}, fr_ fmr_ G1 G2 → fr_ (fun c k => fTq_ q c k && decide (c ≠ 250 ∧ c ≠ 251)) G1 G2 := fun h => h.mono (fun c k z => by
      rcases Bool.and_eq_false_iff.1 z with w | w
      · have := of_decide_eq_false w
        exact fmr_F (by omega)
      · have := of_decide_eq_false w
        exact fmr_F (by omega))
    refine p_X13_tellTrial_130 _ ⟨fun y => absurd (by rw [hS.2.2.2.1]; decide) y, fun _ => t_isNumber (d := d + 1) hT hS ?_⟩
    by_cases c : tkk_ tb t = 3 ∨ tkk_ tb t = 8
    · rw [if_pos c]
      refine ⟨fun y => absurd y (by decide), fun _ => ?_⟩
      rw [nI_clamp (n := q) (by omega), e2]
      refine ⟨(ki_vp (by omega)).2 (by omega), t_room (d := d + 1) (by omega) (by omega) hS (fun hne => ⟨fun _ => ⟨(ki_vp (by omega)).2 (by omega), ?_⟩, fun y => absurd (by rw [hS.2.2.2.1]; decide) y⟩) (fun G2 he p2 f2 => ⟨fun y => absurd y p2.ne.2.1, fun _ => h0 G2 (2, t) (fun f => ?_) p2 (rT f2)⟩)⟩
      · rw [e2, ki_mul, nI_add, nI_clamp (n := 8 * q + xs.length) (by omega)]
        have hpn : pnm_ tb 8 (m + 1) xs t = bd_ (nu_ tb t) (fun p => pnm_ tb 8 m (xs ++ [p.1]) p.2) := by
          show (if _ then (if _ then _ else _) else _) = _
          rw [if_pos c, if_pos (by omega)]
        refine t_signed (d := d) hT hS (fun G2 x t' a2 p2 lt f2 => ⟨(ki_vp (by omega)).2 (by omega), (ki_vp (by omega)).2 (by omega), (ki_vp (by omega)).2 (by omega), ?_⟩) (fun G2 e x a2 p2 f2 => ⟨(ki_vp (by omega)).2 (by omega), (ki_vp (by omega)).2 (by omega), (ki_vp (by omega)).2 (by omega), ?_⟩)
        · have x2 : mg_i G2 252 q = nI xs.length := by rw [f2.i _ _ (fmr_F (by omega))]; exact e2
          rw [x2, nI_add]
          have el : (xs ++ [x]).length = xs.length + 1 := List.length_append
          have g2 : fr_ (fun c k => decide (c = 253 ∨ c = 252)) G2 (ms_i (ms_i G2 253 (8 * q + xs.length) x) 252 q (nI (xs.length + 1))) := (fr_.rfl'.si (by decide)).si (by decide)
          have W2 : fr_ (fun c k => fTq_ q c k && decide (c ≠ 250 ∧ c ≠ 251)) G (ms_i (ms_i G2 253 (8 * q + xs.length) x) 252 q (nI (xs.length + 1))) := ((rT f2).si (by rw [fTq_T (by omega)]; rfl)).si (by rw [fTq_T (by omega)]; rfl)
          rw [hpn, bd_r _ a2] at h1 h0
          refine t_n130 hT hb hq m _ (xs ++ [x]) t' (by omega) (by omega) (p2.fr g2 (fun c k z => decide_eq_false (by omega))) (by rw [g2.i _ _ (decide_eq_false (by omega)), f2.i _ _ (fmr_F (by omega))]; exact e19) (by rw [mg_i_i, if_pos ⟨rfl, rfl⟩, el]) (fun j hj => ?_) (fun G' ys u z1 z2 z3 z4 z5 z6 => h1 G' ys u z1 z2 z3 z4 z5 (W2.trans z6)) (fun G' e z1 z2 z3 => h0 G' e z1 z2 (W2.trans z3))
          rw [el] at hj
          rw [mg_i_i, if_neg (by omega), mg_i_i]
          by_cases cj : j = xs.length
          · rw [cj, if_pos ⟨rfl, rfl⟩, xap_eq]
          · rw [if_neg (by omega), xap_lt (by omega), f2.i _ _ (fmr_F (by omega))]
            exact e3 j (by omega)
        · have P2 : ∀ v, mF_ (ms_i (ms_i G2 253 (8 * q + xs.length) x) 252 q v) tb e := fun v => p2.fr (S := fun c k => decide (c = 253 ∨ c = 252)) ((fr_.rfl'.si (by decide)).si (by decide)) (fun c k z => decide_eq_false (by omega))
          exact t_n130F _ (P2 _) (h0 _ e (fun f => by rw [hpn, bd_l _ (bd_l _ a2)]) (P2 _) (((rT f2).si (by rw [fTq_T (by omega)]; rfl)).si (by rw [fTq_T (by omega)]; rfl)))
      · have hpn : pnm_ tb 8 (m + 1) xs t = .inl (2, t) := by
          show (if _ then (if _ then _ else _) else _) = _
          rw [if_pos c, if_neg (by omega)]
        rw [bd_l _ hpn]
    · rw [if_neg c]
      have hpn : pnm_ tb 8 (m + 1) xs t = .inr (xs, t) := by
        show (if _ then (if _ then _ else _) else _) = _
        rw [if_neg c]
      refine ⟨fun _ => t_tr4 hT hb e19 hS (fun G2 a2 p2 f2 => ?_) (fun G2 e a2 p2 f2 => h0 G2 e (fun f => by rw [bd_r _ hpn, bd_l _ a2]) p2 (rT f2)), fun y => absurd (by decide) y⟩
      exact h1 G2 xs t hpn a2 p2 (by rw [f2.i _ _ (fmr_F (by omega))]; exact e2) (fun j hj => by rw [f2.i _ _ (fmr_F (by omega))]; exact e3 j hj) (rT f2)
theorem t_n36 {l : Launch} {κ : mm_K} {d : Nat} {K : mm_G → Prop} {tb : tb_T} {nt : Option Nat} {b q : Nat} (hT : tg_ tb) (hb : b < 2) (hq : q < 16) : ∀ (m : Nat) (G : mm_G) (xs : List Int32) (t : Nat), xs.length + m = 7 → xs.length ≤ 6 → mP_ G tb nt t → mg_i G 226 19 = nI b → mg_i G 250 q = nI xs.length → mg_i G 252 q = -1 → (∀ j, j < xs.length → mg_i G 251 (6 * q + j) = xs.getD j (nI 0))
    → (∀ G' ys t' o u, pnm_ tb 6 m xs t = .inr (ys, t') → pgv_ tb t' = .inr (o, u) → ac_ tb 4 u = .inr (u + 1) → mP_ G' tb nt (u + 1) → mTq_ G' q (ys, o) → fr_ (fTq_ q) G G' → K (ms_i G' 249 b (mg_i G' 249 b + nI 1)))
    → (∀ G' e, (∀ f : (List Int32 × Nat) → (Option (List Int32) × Nat) → Nat → re_T ((List Int32 × Option (List Int32)) × Nat), bd_ (pnm_ tb 6 m xs t) (fun p => bd_ (pgv_ tb p.2) (fun q => bd_ (ac_ tb 4 q.2) (fun t5 => f p q t5))) = .inl e) → mF_ G' tb e → fr_ (fTq_ q) G G' → K G')
    → mV l κ true (d + 3) 0 0 m_X13_tellTrial 36 [some (.ref 226), some (.int (nI q))] [] G (rV K)
  | 0, G, xs, t, hm, hl, hS, e19, e0, e2, e3, h1, h0 => by omega
  | m + 1, G, xs, t, hm, hl, hS, e19, e0, e2, e3, h1, h0 => by
    refine p_X13_tellTrial_36 _ ⟨fun y => absurd (by rw [hS.2.2.2.1]; decide) y, fun _ => t_isNumber (d := d + 1) hT hS ?_⟩
    by_cases c : tkk_ tb t = 3 ∨ tkk_ tb t = 8
    · rw [if_pos c]
      refine ⟨fun y => absurd y (by decide), fun _ => ?_⟩
      rw [nI_clamp (n := q) (by omega), e0]
      refine ⟨(ki_vp (by omega)).2 (by omega), t_room (d := d + 1) (by omega) (by omega) hS (fun hne => ⟨fun _ => ⟨(ki_vp (by omega)).2 (by omega), ?_⟩, fun y => absurd (by rw [hS.2.2.2.1]; decide) y⟩) (fun G2 he p2 f2 => ⟨fun y => absurd y p2.ne.2.1, fun _ => h0 G2 (2, t) (fun f => ?_) p2 f2.rTq⟩)⟩
      · rw [e0, ki_mul, nI_add, nI_clamp (n := 6 * q + xs.length) (by omega)]
        have hpn : pnm_ tb 6 (m + 1) xs t = bd_ (nu_ tb t) (fun p => pnm_ tb 6 m (xs ++ [p.1]) p.2) := by
          show (if _ then (if _ then _ else _) else _) = _
          rw [if_pos c, if_pos (by omega)]
        refine t_signed (d := d) hT hS (fun G2 x t' a2 p2 lt f2 => ⟨(ki_vp (by omega)).2 (by omega), (ki_vp (by omega)).2 (by omega), (ki_vp (by omega)).2 (by omega), ?_⟩) (fun G2 e x a2 p2 f2 => ⟨(ki_vp (by omega)).2 (by omega), (ki_vp (by omega)).2 (by omega), (ki_vp (by omega)).2 (by omega), ?_⟩)
        · have x2 : mg_i G2 250 q = nI xs.length := by rw [f2.i _ _ (fmr_F (by omega))]; exact e0
          rw [x2, nI_add]
          have el : (xs ++ [x]).length = xs.length + 1 := List.length_append
          have g2 : fr_ (fun c k => decide (c = 251 ∨ c = 250)) G2 (ms_i (ms_i G2 251 (6 * q + xs.length) x) 250 q (nI (xs.length + 1))) := (fr_.rfl'.si (by decide)).si (by decide)
          have W2 : fr_ (fTq_ q) G (ms_i (ms_i G2 251 (6 * q + xs.length) x) 250 q (nI (xs.length + 1))) := (f2.rTq.si (fTq_T (by omega))).si (fTq_T (by omega))
          rw [hpn, bd_r _ a2] at h1 h0
          refine t_n36 hT hb hq m _ (xs ++ [x]) t' (by omega) (by omega) (p2.fr g2 (fun c k z => decide_eq_false (by omega))) (by rw [g2.i _ _ (decide_eq_false (by omega)), f2.i _ _ (fmr_F (by omega))]; exact e19) (by rw [mg_i_i, if_pos ⟨rfl, rfl⟩, el]) (by rw [g2.i _ _ (decide_eq_false (by omega)), f2.i _ _ (fmr_F (by omega))]; exact e2) (fun j hj => ?_) (fun G' ys u o w z1 z2 z3 z4 z5 z6 => h1 G' ys u o w z1 z2 z3 z4 z5 (W2.trans z6)) (fun G' e z1 z2 z3 => h0 G' e z1 z2 (W2.trans z3))
          rw [el] at hj
          rw [mg_i_i, if_neg (by omega), mg_i_i]
          by_cases cj : j = xs.length
          · rw [cj, if_pos ⟨rfl, rfl⟩, xap_eq]
          · rw [if_neg (by omega), xap_lt (by omega), f2.i _ _ (fmr_F (by omega))]
            exact e3 j (by omega)
        · have P2 : ∀ v, mF_ (ms_i (ms_i G2 251 (6 * q + xs.length) x) 250 q v) tb e := fun v => p2.fr (S := fun c k => decide (c = 251 ∨ c = 250)) ((fr_.rfl'.si (by decide)).si (by decide)) (fun c k z => decide_eq_false (by omega))
          exact t_n36F _ (P2 _) (h0 _ e (fun f => by rw [hpn, bd_l _ (bd_l _ a2)]) (P2 _) ((f2.rTq.si (fTq_T (by omega))).si (fTq_T (by omega))))
      · have hpn : pnm_ tb 6 (m + 1) xs t = .inl (2, t) := by
          show (if _ then (if _ then _ else _) else _) = _
          rw [if_pos c, if_neg (by omega)]
        rw [bd_l _ hpn]
    · rw [if_neg c]
      have hpn : pnm_ tb 6 (m + 1) xs t = .inr (xs, t) := by
        show (if _ then (if _ then _ else _) else _) = _
        rw [if_neg c]
      refine ⟨fun _ => ⟨fun y => absurd (by rw [hS.2.2.2.1]; decide) y, fun _ => t_is (k := 38) hT (by omega) hS ?_⟩, fun y => absurd (by decide) y⟩
      by_cases c38 : tkk_ tb t = 38
      · rw [if_pos c38]
        have hpg : pgv_ tb t = bd_ (ac_ tb 38 t) (fun t3 => bd_ (pnm_ tb 8 9 [] t3) (fun q => .inr (some q.1, q.2))) := by unfold pgv_; rw [if_pos c38]
        refine ⟨fun y => absurd y (by decide), fun _ => ?_⟩
        rw [nI_clamp (n := q) (by omega)]
        refine t_goesOn (d := d + 1) (by omega) hS (fun G2 a2 p2 f2 => ⟨(ki_vp (by omega)).2 (by omega), ?_⟩) (fun G2 e a2 p2 f2 => ⟨(ki_vp (by omega)).2 (by omega), ?_⟩)
        · rw [c38] at a2
          have g2 : fr_ (fun c k => decide (c = 252)) G2 (ms_i G2 252 q (nI 0)) := fr_.rfl'.si (by decide)
          have W2 : fr_ (fTq_ q) G (ms_i G2 252 q (nI 0)) := f2.rTq.si (fTq_T (by omega))
          have to : ∀ {G1 G2 : mm_G}, fr_ (fun c k => fTq_ q c k && decide (c ≠ 250 ∧ c ≠ 251)) G1 G2 → fr_ (fTq_ q) G1 G2 := fun h => h.mono (fun c k z => by rw [z]; rfl)
          refine t_n130 hT hb hq 9 _ [] (t + 1) rfl (by decide) (p2.fr g2 (fun c k z => decide_eq_false (by omega))) (by rw [g2.i _ _ (decide_eq_false (by omega)), f2.i _ _ (fmr_F (by omega))]; exact e19) (by rw [mg_i_i, if_pos ⟨rfl, rfl⟩]; rfl) (fun j hj => absurd hj (Nat.not_lt_zero j)) (fun G' ys u z1 z2 z3 z4 z5 z6 => ?_) (fun G' e z1 z2 z3 => h0 G' e (fun f => ?_) z2 (W2.trans (to z3)))
          · refine h1 G' xs t (some ys) u hpn (by rw [hpg, bd_r _ a2, bd_r _ z1]) z2 z3 ⟨?_, fun j hj => ?_, fun y => (by cases y), fun g y => ?_⟩ (W2.trans (to z6))
            · rw [z6.i _ _ (by rw [decide_eq_false (by omega), Bool.and_false]), g2.i _ _ (decide_eq_false (by omega)), f2.i _ _ (fmr_F (by omega))]; exact e0
            · rw [z6.i _ _ (by rw [decide_eq_false (by omega), Bool.and_false]), g2.i _ _ (decide_eq_false (by omega)), f2.i _ _ (fmr_F (by omega))]; exact e3 j hj
            · cases y
              exact ⟨z4, z5⟩
          · rw [bd_r _ hpn]
            simp only [hpg]
            rw [bd_r _ a2]
            have zz := z1 (fun q t5 => f (xs, t) (some q.1, q.2) t5)
            cases hh : pnm_ tb 8 9 [] (t + 1) with
            | inl e' => rw [hh] at zz; exact zz
            | inr w => rw [hh] at zz; exact zz
        · rw [c38] at a2
          have P2 : mF_ (ms_i G2 252 q (nI 0)) tb e := p2.fr (S := fun c k => decide (c = 252)) (fr_.rfl'.si (by decide)) (fun c k z => decide_eq_false (by omega))
          exact t_n130F _ P2 (h0 _ e (fun f => by rw [bd_r _ hpn]; simp only [hpg]; rw [bd_l _ (bd_l _ a2)]) P2 (f2.rTq.si (fTq_T (by omega))))
      · rw [if_neg c38]
        have hpg : pgv_ tb t = .inr (none, t) := by unfold pgv_; rw [if_neg c38]
        refine ⟨fun _ => t_tr4 hT hb e19 hS (fun G2 a2 p2 f2 => ?_) (fun G2 e a2 p2 f2 => h0 G2 e (fun f => by rw [bd_r _ hpn, bd_r _ hpg, bd_l _ a2]) p2 f2.rTq), fun y => absurd (by decide) y⟩
        exact h1 G2 xs t none t hpn hpg a2 p2 ⟨by rw [f2.i _ _ (fmr_F (by omega))]; exact e0, fun j hj => by rw [f2.i _ _ (fmr_F (by omega))]; exact e3 j hj, fun _ => by rw [f2.i _ _ (fmr_F (by omega))]; exact e2, fun g y => (by cases y)⟩ f2.rTq
theorem t_trial {l : Launch} {κ : mm_K} {d : Nat} {G : mm_G} {K : mm_G → Prop} {tb : tb_T} {nt : Option Nat} {t b n : Nat} (hT : tg_ tb) (hb : b < 2) (hn : n < 8) (hk : tkk_ tb t = 37) (e19 : mg_i G 226 19 = nI b) (e49 : mg_i G 249 b = nI n) (hS : mP_ G tb nt t)
    (h1 : ∀ G' x t', ptr_ tb t = .inr (x, t') → mP_ G' tb nt t' → mTq_ G' (8 * b + n) x → mg_i G' 249 b = nI (n + 1) → fr_ (fun c k => fTq_ (8 * b + n) c k || decide (c = 249 ∧ k = b)) G G' → K G')
    (h0 : ∀ G' e, ptr_ tb t = .inl e → mF_ G' tb e → fr_ (fun c k => fTq_ (8 * b + n) c k || decide (c = 249 ∧ k = b)) G G' → K G') : mC l κ true (d + 3) 0 0 m_X13_tellTrial [.ref 226] G (rV K) := by
  have vp : vp_in (nI (8 * b + n)) 16 := (ki_vp (by omega)).2 (by omega)
  have to : ∀ {G1 G2 : mm_G}, fr_ (fTq_ (8 * b + n)) G1 G2 → fr_ (fun c k => fTq_ (8 * b + n) c k || decide (c = 249 ∧ k = b)) G1 G2 := fun h => h.mono (fun c k z => (Bool.or_eq_false_iff.1 z).1)
  refine e_X13_tellTrial ?_
  rw [e19, nI_clamp (n := b) (by omega), e49, ki_mul, nI_add, nI_clamp (n := 8 * b + n) (by omega)]
  refine ⟨(ki_vp (by omega)).2 (by omega), t_goesOn (d := d + 1) (by omega) hS (fun G2 a2 p2 f2 => ⟨vp, vp, ?_⟩) (fun G2 e a2 p2 f2 => ⟨vp, vp, ?_⟩)⟩
  · rw [hk] at a2
    have g2 : fr_ (fun c k => decide (c = 250 ∨ c = 252)) G2 (ms_i (ms_i G2 250 (8 * b + n) (nI 0)) 252 (8 * b + n) (-1)) := (fr_.rfl'.si (by decide)).si (by decide)
    have W2 : fr_ (fTq_ (8 * b + n)) G (ms_i (ms_i G2 250 (8 * b + n) (nI 0)) 252 (8 * b + n) (-1)) := (f2.rTq.si (fTq_T (by omega))).si (fTq_T (by omega))
    have hpt : ptr_ tb t = bd_ (pnm_ tb 6 7 [] (t + 1)) (fun p => bd_ (pgv_ tb p.2) (fun q => bd_ (ac_ tb 4 q.2) (fun t5 => .inr ((p.1, q.1), t5)))) := by
      unfold ptr_
      rw [bd_r _ a2]
      rfl
    refine t_n36 hT hb (by omega) 7 _ [] (t + 1) rfl (by decide) (p2.fr g2 (fun c k z => decide_eq_false (by omega))) (by rw [g2.i _ _ (decide_eq_false (by omega)), f2.i _ _ (fmr_F (by omega))]; exact e19) (by rw [mg_i_i, if_neg (by omega), mg_i_i, if_pos ⟨rfl, rfl⟩]; rfl) (by rw [mg_i_i, if_pos ⟨rfl, rfl⟩]) (fun j hj => absurd hj (Nat.not_lt_zero j)) (fun G' ys u o w z1 z2 z3 z4 z5 z6 => ?_) (fun G' e z1 z2 z3 => h0 G' e (by rw [hpt]; exact z1 _) z2 (to (W2.trans z3)))
    have e9 : mg_i G' 249 b = nI n := by rw [(W2.trans z6).i _ _ (fTq_F (by omega))]; exact e49
    rw [e9, nI_add]
    have g9 : fr_ (fun c k => decide (c = 249)) G' (ms_i G' 249 b (nI (n + 1))) := fr_.rfl'.si (by decide)
    obtain ⟨y1, y2, y3, y4⟩ := z5
    refine h1 _ (ys, o) (w + 1) (by rw [hpt, bd_r _ z1, bd_r _ z2, bd_r _ z3]) (z4.fr g9 (fun c k z => decide_eq_false (by omega))) ⟨by rw [g9.i _ _ (decide_eq_false (by omega))]; exact y1, fun j hj => by rw [g9.i _ _ (decide_eq_false (by omega))]; exact y2 j hj, fun z => by rw [g9.i _ _ (decide_eq_false (by omega))]; exact y3 z, fun g z => ⟨by rw [g9.i _ _ (decide_eq_false (by omega))]; exact (y4 g z).1, fun j hj => by rw [g9.i _ _ (decide_eq_false (by omega))]; exact (y4 g z).2 j hj⟩⟩ (by rw [mg_i_i, if_pos ⟨rfl, rfl⟩]) ((to (W2.trans z6)).si (by rw [decide_eq_true ⟨rfl, rfl⟩, Bool.or_true]))
  · rw [hk] at a2
    have P2 : mF_ (ms_i (ms_i G2 250 (8 * b + n) (nI 0)) 252 (8 * b + n) (-1)) tb e := p2.fr (S := fun c k => decide (c = 250 ∨ c = 252)) ((fr_.rfl'.si (by decide)).si (by decide)) (fun c k z => decide_eq_false (by omega))
    exact t_n36F _ P2 (h0 _ e (by unfold ptr_; rw [bd_l _ a2]) P2 (to ((f2.rTq.si (fTq_T (by omega))).si (fTq_T (by omega)))))
