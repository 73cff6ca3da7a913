/-! reading: the reference tells rows, trials, fuel -/
theorem pnm_le {tb : tb_T} {N : Nat} : ∀ (m : Nat) (xs : List Int32) (t : Nat) (ys : List Int32) (t' : Nat), okt_ tb t → pnm_ tb N m xs t = .inr (ys, t') → t ≤ t'
  | 0, xs, t, ys, t', ho, h => by cases h
  | m + 1, xs, t, ys, t', ho, h => by
    have h : (if tkk_ tb t = 3 ∨ tkk_ tb t = 8 then (if xs.length < N then bd_ (nu_ tb t) (fun p => pnm_ tb N m (xs ++ [p.1]) p.2) else .inl (2, t)) else .inr (xs, t)) = .inr (ys, t') := h
    by_cases c : tkk_ tb t = 3 ∨ tkk_ tb t = 8
    · rw [if_pos c] at h
      by_cases c2 : xs.length < N
      · rw [if_pos c2] at h
        obtain ⟨⟨x, u⟩, e1, h⟩ := bd_inr h
        have := nu_ok ho e1
        have := pnm_le m _ u ys t' this.2.2.1 h
        omega
      · rw [if_neg c2] at h; cases h
    · rw [if_neg c] at h
      have h := Sum.inr.inj h
      have h := congrArg Prod.snd h
      have h : t = t' := h
      omega
theorem ptr_lt {tb : tb_T} {t t' : Nat} {x : List Int32 × Option (List Int32)} (ho : okt_ tb t) (h : ptr_ tb t = .inr (x, t')) : t < t' := by
  unfold ptr_ at h
  obtain ⟨t1, e1, h⟩ := bd_inr h
  obtain ⟨r1, r2, r3⟩ := ac_inr e1
  subst r1
  have ho1 := okt_succ ho (by omega : 2 ≤ tkk_ tb t)
  obtain ⟨⟨ys, u⟩, e2, h⟩ := bd_inr h
  have l2 := pnm_le _ _ _ _ _ ho1 e2
  have ho2 := (pnm_ok _ _ _ _ _ ho1 (Nat.zero_le _) e2).1
  obtain ⟨⟨o, w⟩, e3, h⟩ := bd_inr h
  have l3 : u ≤ w := by
    have e3 : (if tkk_ tb u = 38 then bd_ (ac_ tb 38 u) (fun t3 => bd_ (pnm_ tb 8 9 [] t3) (fun q => (.inr (some q.1, q.2) : re_T (Option (List Int32) × Nat)))) else .inr (none, u)) = .inr (o, w) := e3
    by_cases c : tkk_ tb u = 38
    · rw [if_pos c] at e3
      obtain ⟨t3, e4, e3⟩ := bd_inr e3
      obtain ⟨s1, s2, s3⟩ := ac_inr e4
      subst s1
      obtain ⟨⟨zs, v⟩, e5, e3⟩ := bd_inr e3
      have := pnm_le _ _ _ _ _ (okt_succ ho2 (by omega)) e5
      have e3 := congrArg Prod.snd (Sum.inr.inj e3)
      have e3 : v = w := e3
      omega
    · rw [if_neg c] at e3
      have e3 := congrArg Prod.snd (Sum.inr.inj e3)
      have e3 : u = w := e3
      omega
  obtain ⟨t5, e6, h⟩ := bd_inr h
  obtain ⟨s1, s2, s3⟩ := ac_inr e6
  have h := congrArg Prod.snd (Sum.inr.inj h)
  have h : t5 = t' := h
  have s1 : t5 = w + 1 := s1
  omega
theorem pfu_lt {tb : tb_T} {nt nt' : Option Nat} {t t' fu : Nat} (h : pfu_ tb nt t = .inr (fu, nt', t')) : t < t' := by
  unfold pfu_ at h
  obtain ⟨t1, e1, h⟩ := bd_inr h
  obtain ⟨t2, e2, h⟩ := bd_inr h
  obtain ⟨t3, e3, h⟩ := bd_inr h
  have := (ac_inr e1).1
  have := (ac_inr e2).1
  have := (ac_inr e3).1
  have h := congrArg (fun z => z.2.2) (Sum.inr.inj h)
  have h : t3 = t' := h
  omega
theorem pst_lt {tb : tb_T} {s s' : rt_T} (ho : okt_ tb s.2.2.2.2.2) (h : pst_ tb s = .inr s') : s.2.2.2.2.2 < s'.2.2.2.2.2 := by
  obtain ⟨p, nms, tr, fu, nt, t⟩ := s
  have ho : okt_ tb t := ho
  have h : (if tkk_ tb t = 36 then (if p.length < 4 then bd_ (prw_ tb nms nt t) (fun o => (.inr (p ++ [o.1], nms ++ [o.2.1], tr, fu, o.2.2.1, o.2.2.2) : re_T rt_T)) else .inl (2, t)) else if tkk_ tb t = 37 then (if tr.length < 8 then bd_ (ptr_ tb t) (fun o => .inr (p, nms, tr ++ [o.1], fu, nt, o.2)) else .inl (2, t)) else if tkk_ tb t = 39 then bd_ (pfu_ tb nt t) (fun o => .inr (p, nms, tr, o.1, o.2.1, o.2.2)) else .inl (1, t)) = .inr s' := h
  show t < _
  by_cases c1 : tkk_ tb t = 36
  · rw [if_pos c1] at h
    by_cases c : p.length < 4
    · rw [if_pos c] at h
      obtain ⟨⟨ls, nm, n2, t2⟩, e1, h⟩ := bd_inr h
      have := (prw_ok ho e1).2.1
      have h := congrArg (fun z => z.2.2.2.2.2) (Sum.inr.inj h)
      have h : t2 = _ := h
      omega
    · rw [if_neg c] at h; cases h
  · rw [if_neg c1] at h
    by_cases c2 : tkk_ tb t = 37
    · rw [if_pos c2] at h
      by_cases c : tr.length < 8
      · rw [if_pos c] at h
        obtain ⟨⟨x, t2⟩, e1, h⟩ := bd_inr h
        have := ptr_lt ho e1
        have h := congrArg (fun z => z.2.2.2.2.2) (Sum.inr.inj h)
        have h : t2 = _ := h
        omega
      · rw [if_neg c] at h; cases h
    · rw [if_neg c2] at h
      by_cases c3 : tkk_ tb t = 39
      · rw [if_pos c3] at h
        obtain ⟨⟨f2, n2, t2⟩, e1, h⟩ := bd_inr h
        have := pfu_lt e1
        have h := congrArg (fun z => z.2.2.2.2.2) (Sum.inr.inj h)
        have h : t2 = _ := h
        omega
      · rw [if_neg c3] at h; cases h
/-- what the side holds -/
def mSd_ (G : mm_G) (b : Nat) (s : rt_T) : Prop := mNm_ G b s.2.1 ∧ s.2.1.length = s.1.length ∧ (∀ j, j < s.1.length → mg_i G 236 (4 * b + j) = nI (px_at s.1 j).length ∧ ∀ i, i < (px_at s.1 j).length → rd_m G (64 * b + 16 * j + i) = ln_at (px_at s.1 j) i) ∧ mg_i G 249 b = nI s.2.2.1.length ∧ (∀ k, k < s.2.2.1.length → mTq_ G (8 * b + k) (s.2.2.1.getD k ([], none))) ∧ mg_i G 254 b = nI s.2.2.2.1
def fSd_ (b c k : Nat) : Bool := decide ((c = 226 ∧ (k = 11 ∨ k = 13 ∨ k = 14 ∨ k = 15 ∨ k = 16 ∨ k = 41 ∨ k = 42)) ∨ (c = 234 ∧ k = b) ∨ ((c = 235 ∨ c = 236) ∧ 4 * b ≤ k ∧ k < 4 * b + 4) ∨ (237 ≤ c ∧ c ≤ 247 ∧ 64 * b ≤ k ∧ k < 64 * b + 64) ∨ c = 248 ∨ ((c = 249 ∨ c = 254) ∧ k = b) ∨ ((c = 250 ∨ c = 252) ∧ 8 * b ≤ k ∧ k < 8 * b + 8) ∨ (c = 251 ∧ 48 * b ≤ k ∧ k < 48 * b + 48) ∨ (c = 253 ∧ 64 * b ≤ k ∧ k < 64 * b + 64))
theorem fr_.rSd {b : Nat} {G G1 : mm_G} (h : fr_ fmr_ G G1) : fr_ (fSd_ b) G G1 := h.mono (fun c k q => by
  have := of_decide_eq_false q
  exact fmr_F (by omega))
theorem mTq_.fr {S : Nat → Nat → Bool} {G G1 : mm_G} {q : Nat} {x : List Int32 × Option (List Int32)} (h : mTq_ G q x) (hf : fr_ S G G1) (h6 : x.1.length ≤ 6) (h8 : ∀ g, x.2 = some g → g.length ≤ 8) (hS : ∀ c k, ((c = 250 ∨ c = 252) ∧ k = q) ∨ (c = 251 ∧ 6 * q ≤ k ∧ k < 6 * q + 6) ∨ (c = 253 ∧ 8 * q ≤ k ∧ k < 8 * q + 8) → S c k = false) : mTq_ G1 q x := by
  obtain ⟨a1, a2, a3, a4⟩ := h
  refine ⟨by rw [hf.i _ _ (hS _ _ (by omega))]; exact a1, fun j hj => by rw [hf.i _ _ (hS _ _ (by omega))]; exact a2 j hj, fun z => by rw [hf.i _ _ (hS _ _ (by omega))]; exact a3 z, fun g z => ?_⟩
  have := h8 g z
  exact ⟨by rw [hf.i _ _ (hS _ _ (by omega))]; exact (a4 g z).1, fun j hj => by rw [hf.i _ _ (hS _ _ (by omega))]; exact (a4 g z).2 j hj⟩
theorem mkk_c7 : ∀ k, k < 40 → (mkk_ k < 20 ∨ 23 < mkk_ k) → k < 36 := by decide +kernel
theorem t_tell {l : Launch} {κ : mm_K} {d : Nat} {G : mm_G} {K : mm_G → Prop} {tb : tb_T} {s : rt_T} {b : Nat} (hT : tg_ tb) (hb : b < 2) (hok : rok_ tb s) (hM : mSd_ G b s) (hS : mP_ G tb s.2.2.2.2.1 s.2.2.2.2.2)
    (h1 : ∀ G' s', pst_ tb s = .inr s' → mP_ G' tb s'.2.2.2.2.1 s'.2.2.2.2.2 → mSd_ G' b s' → fr_ (fSd_ b) G G' → K G') (h0 : ∀ G' e, pst_ tb s = .inl e → mF_ G' tb e → fr_ (fSd_ b) G G' → K G') : mC l κ true (d + 8) 0 0 m_X13_tell [.ref 226] G (rV K) := by
  obtain ⟨p, nms, tr, fu, nt, t⟩ := s
  obtain ⟨k1, k2, k3, k4, k5, k6, k7⟩ := hok
  obtain ⟨m1, m2, m3, m4, m5, m6⟩ := hM
  have k1 : okt_ tb t := k1
  have k2 : nms.length = p.length := k2
  have k3 : p.length ≤ 4 := k3
  have k4 : ∀ j, (px_at p j).length ≤ 16 := k4
  have k6 : tx_ok tr := k6
  have m1 : mNm_ G b nms := m1
  have m3 : ∀ j, j < p.length → mg_i G 236 (4 * b + j) = nI (px_at p j).length ∧ ∀ i, i < (px_at p j).length → rd_m G (64 * b + 16 * j + i) = ln_at (px_at p j) i := m3
  have m4 : mg_i G 249 b = nI tr.length := m4
  have m5 : ∀ k, k < tr.length → mTq_ G (8 * b + k) (tr.getD k ([], none)) := m5
  have m6 : mg_i G 254 b = nI fu := m6
  have hS : mP_ G tb nt t := hS
  obtain ⟨a3, a1, b1, b2, b3, b4⟩ := hS.rd
  have hkd := (hT.1 t a1 hS.2.1).1
  have hm := mkk_lt _ hkd
  have hps : pst_ tb (p, nms, tr, fu, nt, t) = (if tkk_ tb t = 36 then (if p.length < 4 then bd_ (prw_ tb nms nt t) (fun o => (.inr (p ++ [o.1], nms ++ [o.2.1], tr, fu, o.2.2.1, o.2.2.2) : re_T rt_T)) else .inl (2, t)) else if tkk_ tb t = 37 then (if tr.length < 8 then bd_ (ptr_ tb t) (fun o => .inr (p, nms, tr ++ [o.1], fu, nt, o.2)) else .inl (2, t)) else if tkk_ tb t = 39 then bd_ (pfu_ tb nt t) (fun o => .inr (p, nms, tr, o.1, o.2.1, o.2.2)) else .inl (1, t)) := rfl
  rw [hps] at h1 h0
  have vpb : vp_in (nI b) 2 := (ki_vp (by omega)).2 (by omega)
  refine e_X13_tell ?_
  rw [a3, nI_clamp (n := t) (by omega), b1, m1.1, nI_clamp (n := b) (by omega), m1.2.1, m4, nI_toInt (by omega)]
  have eqk : ∀ k, k < 40 → nI (mkk_ (tkk_ tb t)) = nI (mkk_ k) → tkk_ tb t = k := fun k hk y => (mkk_eq hkd hk).1 y
  have tq_ok : ∀ k, (tr.getD k ([], none)).1.length ≤ 6 ∧ ∀ g, (tr.getD k ([], none)).2 = some g → g.length ≤ 8 := fun k => k6.2 k
  refine ⟨(ki_vp (by omega)).2 (by omega), fun y => ⟨(ki_vp (by omega)).2 (by omega), ?_⟩, fun y => ⟨vpb, ?_⟩, fun y => ?_, fun y => ?_, fun y => ?_⟩
  · -- a row
    have c := eqk 36 (by omega) y
    rw [if_pos c] at h1 h0
    refine t_room (d := d + 6) (by omega) (by omega) hS (fun hne => ⟨fun z => absurd (by rw [hS.2.2.2.1]; decide) z, fun _ => ?_⟩) (fun G2 he p2 f2 => ⟨fun _ => h0 G2 (2, t) (by rw [if_neg (by omega)]) p2 f2.rSd, fun z => absurd z p2.ne.1⟩)
    rw [if_pos (by omega)] at h1 h0
    have toS : ∀ {G1 G2 : mm_G}, fr_ (fRm_ b nms.length) G1 G2 → fr_ (fSd_ b) G1 G2 := fun h => h.mono (fun c k q => by
      have := of_decide_eq_false q
      exact fRm_F (by omega))
    refine t_row (d := d) hT hb (by omega) c m1 hS (fun G2 ls nm nt' t' e2 p2 n2 r2 l2 f2 => ?_) (fun G2 e e2 p2 f2 => h0 G2 e (by rw [bd_l _ e2]) p2 (toS f2))
    have hl16 := (prw_ok k1 e2).2.2.2.1
    have el : (p ++ [ls]).length = p.length + 1 := List.length_append
    refine h1 G2 _ (by rw [bd_r _ e2]) p2 ⟨n2, ?_, fun j hj => ?_, ?_, fun k hk => ?_, ?_⟩ (toS f2)
    · show (nms ++ [nm]).length = (p ++ [ls]).length
      rw [List.length_append, List.length_append, k2]; rfl
    · have hj : j < (p ++ [ls]).length := hj
      show mg_i G2 236 (4 * b + j) = nI (px_at (p ++ [ls]) j).length ∧ ∀ i, i < (px_at (p ++ [ls]) j).length → rd_m G2 (64 * b + 16 * j + i) = ln_at (px_at (p ++ [ls]) j) i
      rw [el] at hj
      by_cases cj : j = p.length
      · rw [cj, px_end, ← k2]
        exact ⟨r2, l2⟩
      · rw [px_app (by omega)]
        have hj16 := k4 j
        refine ⟨by rw [f2.i _ _ (fRm_F (by omega))]; exact (m3 j (by omega)).1, fun i hi => ?_⟩
        rw [rd_m.at f2 (fun c x y => fRm_F (by omega))]
        exact (m3 j (by omega)).2 i hi
    · show mg_i G2 249 b = nI tr.length
      rw [f2.i _ _ (fRm_F (by omega))]; exact m4
    · exact (m5 k hk).fr f2 (tq_ok k).1 (tq_ok k).2 (fun c k q => fRm_F (by omega))
    · show mg_i G2 254 b = nI fu
      rw [f2.i _ _ (fRm_F (by omega))]; exact m6
  · -- a trial
    have c := eqk 37 (by omega) y
    have ht8 := k6.1
    rw [if_neg (by omega), if_pos c] at h1 h0
    refine t_room (d := d + 6) (by omega) (by omega) hS (fun hne => ⟨fun z => absurd (by rw [hS.2.2.2.1]; decide) z, fun _ => ?_⟩) (fun G2 he p2 f2 => ⟨fun _ => h0 G2 (2, t) (by rw [if_neg (by omega)]) p2 f2.rSd, fun z => absurd z p2.ne.1⟩)
    rw [if_pos (by omega)] at h1 h0
    have toS : ∀ {G1 G2 : mm_G}, fr_ (fun c k => fTq_ (8 * b + tr.length) c k || decide (c = 249 ∧ k = b)) G1 G2 → fr_ (fSd_ b) G1 G2 := fun h => h.mono (fun c k q => by
      have := of_decide_eq_false q
      rw [fTq_F (by omega), decide_eq_false (by omega)]; rfl)
    have hF : ∀ c k, ¬ ((c = 226 ∧ (k = 11 ∨ k = 13 ∨ k = 14 ∨ k = 15 ∨ k = 16)) ∨ ((c = 250 ∨ c = 252) ∧ k = 8 * b + tr.length) ∨ (c = 251 ∧ 6 * (8 * b + tr.length) ≤ k ∧ k < 6 * (8 * b + tr.length) + 6) ∨ (c = 253 ∧ 8 * (8 * b + tr.length) ≤ k ∧ k < 8 * (8 * b + tr.length) + 8)) ∧ ¬ (c = 249 ∧ k = b) → (fTq_ (8 * b + tr.length) c k || decide (c = 249 ∧ k = b)) = false := fun c k q => by
      rw [fTq_F q.1, decide_eq_false q.2]; rfl
    refine t_trial (d := d + 4) hT hb (by omega) c m1.1 m4 hS (fun G2 x t' e2 p2 q2 n2 f2 => ?_) (fun G2 e e2 p2 f2 => h0 G2 e (by rw [bd_l _ e2]) p2 (toS f2))
    have el : (tr ++ [x]).length = tr.length + 1 := List.length_append
    refine h1 G2 _ (by rw [bd_r _ e2]) p2 ⟨m1.fr f2 (fun c k q => hF c k (by omega)), k2, fun j hj => ?_, ?_, fun k hk => ?_, ?_⟩ (toS f2)
    · have hj : j < p.length := hj
      have hj16 := k4 j
      refine ⟨by rw [f2.i _ _ (hF _ _ (by omega))]; exact (m3 j hj).1, fun i hi => ?_⟩
      rw [rd_m.at f2 (fun c x y => hF _ _ (by omega))]
      exact (m3 j hj).2 i hi
    · show mg_i G2 249 b = nI (tr ++ [x]).length
      rw [el]; exact n2
    · have hk : k < (tr ++ [x]).length := hk
      show mTq_ G2 (8 * b + k) ((tr ++ [x]).getD k ([], none))
      rw [el] at hk
      by_cases ck : k = tr.length
      · rw [ck, tx_end]; exact q2
      · rw [tx_app (by omega)]
        exact (m5 k (by omega)).fr f2 (tq_ok k).1 (tq_ok k).2 (fun c k q => hF _ _ (by omega))
    · show mg_i G2 254 b = nI fu
      rw [f2.i _ _ (hF _ _ (by omega))]; exact m6
  · -- GIVE
    have c := eqk 38 (by omega) y
    rw [if_neg (by omega), if_neg (by omega), if_neg (by omega)] at h1 h0
    exact t_fail (Or.inl rfl) hS (fun G2 p2 f2 => h0 G2 (1, t) rfl p2 f2.rSd)
  · -- FUEL
    have c := eqk 39 (by omega) y
    rw [if_neg (by omega), if_neg (by omega), if_pos c] at h1 h0
    refine t_goesOn (d := d + 6) (by omega) hS (fun G2 a2 p2 f2 => ?_) (fun G2 e a2 p2 f2 => ?_)
    · rw [c] at a2
      obtain ⟨q3, q1, c1, c2, c3, c4⟩ := p2.rd
      rw [q3]
      refine t_must (k := 3) (d := d + 5) hT (by omega) (by omega) p2 (fun G4 r4 k4' p4 f4 => ⟨fun z => absurd (by rw [p4.2.2.2.1]; decide) z, fun _ => ?_⟩) (fun G4 e r4 p4 f4 => ⟨fun _ => t_mustF (d := d + 5) _ p4 ⟨fun _ => h0 G4 e (by unfold pfu_; rw [bd_r _ a2, bd_l _ (bd_l _ r4)]) p4 (f2.trans f4).rSd, fun z => absurd z p4.ne.1⟩, fun z => absurd z p4.ne.1⟩)
      have hv := (hT.1 (t + 1) q1 p2.2.1).2.2.1 k4'
      have v1 : vp_in (nI (t + 1)) 403 := (ki_vp (by omega)).2 (by omega)
      have e31 : mg_i G4 231 (t + 1) = nI (tkv_ tb (t + 1)) := by rw [f4.i _ _ (fmr_F (by omega))]; exact c3 k4'
      have hkf : kf_ tb (t + 1) = 5 := by unfold kf_; rw [if_pos k4']
      rw [nI_clamp (n := t + 1) (by omega), e31, nI_ltI (by omega) (by omega), nI_leI (by omega) (by omega)]
      have HE : ∀ G16 nt', nt' = (if 1 ≤ tkv_ tb (t + 1) ∧ tkv_ tb (t + 1) ≤ 300 then nt else nn_ nt (t + 1)) → mP_ G16 tb nt' (t + 1 + 1) → fr_ fmr_ G G16 → mC l κ true (d + 7) 0 0 m_X13_must [.ref 226, .int (nI 4)] G16 (rV (fun G18 => ((¬ (mg_i G18 226 13) = 0 → K G18) ∧ ((mg_i G18 226 13) = 0 → vp_in (nI (t + 1)) 403 ∧ vp_in (mg_i G18 226 19) 2 ∧ K (ms_i G18 254 ((mg_i G18 226 19).toNatClampNeg) (mg_i G18 231 (t + 1))))))) := by
        intro G16 nt' hnt p16 f16
        refine t_must (k := 4) (d := d + 5) hT (by omega) (by omega) p16 (fun G18 r8 k8 p8 f8 => ⟨fun z => absurd (by rw [p8.2.2.2.1]; decide) z, fun _ => ⟨v1, ?_⟩⟩) (fun G18 e r8 p8 f8 => ⟨fun _ => h0 G18 e (by unfold pfu_; rw [bd_r _ a2, bd_r _ r4, bd_l _ (bd_l _ r8)]) p8 (f16.trans f8).rSd, fun z => absurd z p8.ne.1⟩)
        have F8 := f16.trans f8
        have e19 : mg_i G18 226 19 = nI b := by rw [F8.i _ _ (fmr_F (by omega))]; exact m1.1
        have e31' : mg_i G18 231 (t + 1) = nI (tkv_ tb (t + 1)) := (p8.2.2.2.2.1 (t + 1) q1 p2.2.1).2.2.1 k4'
        rw [e19, nI_clamp (n := b) (by omega), e31']
        refine ⟨vpb, ?_⟩
        have g9 : fr_ (fun c k => decide (c = 254)) G18 (ms_i G18 254 b (nI (tkv_ tb (t + 1)))) := fr_.rfl'.si (by decide)
        refine h1 _ (p, nms, tr, tkv_ tb (t + 1), nt', t + 1 + 1 + 1) (by unfold pfu_; rw [bd_r _ a2, bd_r _ r4, bd_r _ r8, hnt]; rfl) (p8.fr g9 (fun c k z => decide_eq_false (by omega))) ⟨(m1.fr F8 (fun c k q => fmr_F (by omega))).fr g9 (fun c k q => decide_eq_false (by omega)), k2, fun j hj => ?_, ?_, fun k hk => ?_, ?_⟩ (F8.rSd.si (decide_eq_true (by omega)))
        · have hj : j < p.length := hj
          have hj16 := k4 j
          refine ⟨by rw [g9.i _ _ (decide_eq_false (by omega)), F8.i _ _ (fmr_F (by omega))]; exact (m3 j hj).1, fun i hi => ?_⟩
          rw [rd_m.at g9 (fun c x y => decide_eq_false (by omega)), rd_m.at F8 (fun c x y => fmr_F (by omega))]
          exact (m3 j hj).2 i hi
        · rw [g9.i _ _ (decide_eq_false (by omega)), F8.i _ _ (fmr_F (by omega))]; exact m4
        · exact ((m5 k hk).fr F8 (tq_ok k).1 (tq_ok k).2 (fun c k q => fmr_F (by omega))).fr g9 (tq_ok k).1 (tq_ok k).2 (fun c k q => decide_eq_false (by omega))
        · rw [mg_i_i, if_pos ⟨rfl, rfl⟩]
      refine ⟨v1, fun z => t_wrong hT q1 p2.2.1 hkf p4 (fun G20 p20 f20 => HE G20 _ (by rw [if_neg (by omega)]) p20 ((f2.trans f4).trans f20)), fun z => ⟨v1, fun z2 => HE G4 nt (by rw [if_pos (by omega)]) p4 (f2.trans f4), fun z2 => t_wrong hT q1 p2.2.1 hkf p4 (fun G20 p20 f20 => HE G20 _ (by rw [if_neg (by omega)]) p20 ((f2.trans f4).trans f20))⟩⟩
    · rw [c] at a2
      refine t_mustF (d := d + 5) _ p2 ⟨fun _ => t_mustF (d := d + 5) _ p2 ⟨fun _ => h0 G2 e (by unfold pfu_; rw [bd_l _ (bd_l _ a2)]) p2 f2.rSd, fun z => absurd z p2.ne.1⟩, fun z => absurd z p2.ne.1⟩
  · -- anything else
    have c := mkk_c7 _ hkd (by omega)
    rw [if_neg (by omega), if_neg (by omega), if_neg (by omega)] at h1 h0
    exact t_fail (Or.inl rfl) hS (fun G2 p2 f2 => h0 G2 (1, t) rfl p2 f2.rSd)
