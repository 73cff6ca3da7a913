/-! reading: the reference's orders -/
def om_ (G : mm_G) (p : Nat) (o : ol_T) : Prop := ∀ tk nm, ln_mk (mg_i G 237 p) tk nm (mg_i G 238 p) (mg_i G 239 p) (mg_i G 240 p) (mg_i G 241 p) (mg_i G 242 p) (mg_i G 243 p - nI 9) (mg_l G 247 p) (mg_i G 244 p) = lm_ tk nm o
theorem om_at {G : mm_G} {p o : Nat} (ho : o ≤ 10) (e1 : mg_i G 237 p = nI o) : om_ G p (o, (if o ≤ 4 then mg_i G 238 p else nI 0), (if o ≤ 5 ∨ o = 7 then (mg_i G 239 p, mg_i G 240 p) else (nI 0, nI 0)), (if o = 7 then (mg_i G 241 p, mg_i G 242 p) else (nI 0, nI 0)), (if o = 7 then mg_i G 243 p - nI 9 else nI 0), (if o = 6 ∨ o = 7 then mg_l G 247 p else 0), (if o = 8 then mg_i G 244 p else nI 0)) := by
  intro tk nm
  have h4 : (nI o ≤ nI 4) = (o ≤ 4) := propext (nI_leI (by omega) (by omega))
  have h5 : (nI o ≤ nI 5) = (o ≤ 5) := propext (nI_leI (by omega) (by omega))
  have h6 : (nI o = nI 6) = (o = 6) := propext (nI_eq (by omega) (by omega))
  have h7 : (nI o = nI 7) = (o = 7) := propext (nI_eq (by omega) (by omega))
  have h8 : (nI o = nI 8) = (o = 8) := propext (nI_eq (by omega) (by omega))
  unfold ln_mk lm_
  rw [e1]
  simp only [h4, h5, h6, h7, h8]
theorem om_.fr {S : Nat → Nat → Bool} {G G1 : mm_G} {p : Nat} {o : ol_T} (h : om_ G p o) (hf : fr_ S G G1) (hS : ∀ c, (237 ≤ c ∧ c ≤ 244) ∨ c = 247 → S c p = false) : om_ G1 p o := fun tk nm => by
  rw [hf.i 237 _ (hS _ (by omega)), hf.i 238 _ (hS _ (by omega)), hf.i 239 _ (hS _ (by omega)), hf.i 240 _ (hS _ (by omega)), hf.i 241 _ (hS _ (by omega)), hf.i 242 _ (hS _ (by omega)), hf.i 243 _ (hS _ (by omega)), hf.l 247 _ (hS _ (by omega)), hf.i 244 _ (hS _ (by omega))]
  exact h tk nm
theorem t_o229F {l : Launch} {κ : mm_K} {d : Nat} {G : mm_G} {K : mm_G → Prop} {tb : tb_T} {e : Nat × Nat} (v1 v2 v3 v4 : Int32) (hS : mF_ G tb e) (h : K G) : mV l κ true (d + 5) 0 0 m_X13_tellOrder 229 [some (.ref 226), some (.int v1), some (.int v2), some (.int v3), some (.int v4), none] [] G (rV K) :=
  p_X13_tellOrder_229 _ _ _ _ ⟨fun y => absurd y hS.ne.2.1, fun _ => h⟩
theorem t_o108F {l : Launch} {κ : mm_K} {d : Nat} {G : mm_G} {K : mm_G → Prop} {tb : tb_T} {e : Nat × Nat} (v1 v2 v3 v4 : Int32) (hS : mF_ G tb e) (h : K G) : mV l κ true (d + 5) 0 0 m_X13_tellOrder 108 [some (.ref 226), some (.int v1), some (.int v2), some (.int v3), some (.int v4), none] [] G (rV K) :=
  p_X13_tellOrder_108 _ _ _ _ ⟨fun y => absurd y hS.ne.2.1, fun _ => h⟩
theorem t_o38F {l : Launch} {κ : mm_K} {d : Nat} {G : mm_G} {K : mm_G → Prop} {tb : tb_T} {e : Nat × Nat} (v1 v2 v3 v4 : Int32) (hS : mF_ G tb e) (h : K G) : mV l κ true (d + 5) 0 0 m_X13_tellOrder 38 [some (.ref 226), some (.int v1), some (.int v2), some (.int v3), some (.int v4), none] [] G (rV K) :=
  p_X13_tellOrder_38 _ _ _ _ ⟨fun y => absurd y hS.ne.2.1, fun _ => h⟩
theorem t_orderF {l : Launch} {κ : mm_K} {d : Nat} {G : mm_G} {K : mm_G → Prop} {tb : tb_T} {e : Nat × Nat} (v1 v2 v3 : Int32) (hS : mF_ G tb e) (h : K G) : mC l κ true (d + 5) 0 0 m_X13_tellOrder [.ref 226, .int v1, .int v2, .int v3] G (rV K) :=
  e_X13_tellOrder _ _ _ ⟨fun y => absurd y hS.ne.2.1, fun _ => h⟩
theorem t_o229 {l : Launch} {κ : mm_K} {d : Nat} {G : mm_G} {K : mm_G → Prop} {tb : tb_T} {nt : Option Nat} {u p i : Nat} (v1 v4 : Int32) (hT : tg_ tb) (hp : p < 320) (hi : i < 16) (hS : mP_ G tb nt u) (hk : 10 ≤ tkk_ tb u ∧ tkk_ tb u ≤ 13)
    (h1 : ∀ G' q t4, ac_ tb (tkk_ tb u) u = .inr (u + 1) → pva_ tb (u + 1) = .inr (q, t4) → ac_ tb 2 t4 = .inr (t4 + 1) → mP_ G' tb nt (t4 + 1) → mg_i G' 241 p = q.1 → mg_i G' 242 p = q.2 → mg_i G' 243 p = nI (tkk_ tb u - 1) → mg_l G' 247 p = lN (tkv_ tb t4) → mg_i G' 248 i = nI t4 → fr_ (fma_ 241 247 p (i + 1)) G G' → K G')
    (h0 : ∀ G' e, (∀ f : (Int32 × Int32) × Nat → Nat → re_T (ol_T × Nat × Option Nat × Nat), bd_ (ac_ tb (tkk_ tb u) u) (fun t3 => bd_ (pva_ tb t3) (fun q => bd_ (ac_ tb 2 q.2) (fun t5 => f q t5))) = .inl e) → mF_ G' tb e → fr_ (fma_ 241 247 p (i + 1)) G G' → K G') : mV l κ true (d + 5) 0 0 m_X13_tellOrder 229 [some (.ref 226), some (.int v1), some (.int (nI i)), some (.int (nI p)), some (.int v4), none] [] G (rV K) := by
  obtain ⟨a3, a1, b1, b2, b3, b4⟩ := hS.rd
  have hkd := (hT.1 u a1 hS.2.1).1
  refine p_X13_tellOrder_229 _ _ _ _ ⟨fun _ => ?_, fun y => absurd (by rw [hS.2.2.2.1]; decide) y⟩
  rw [a3, nI_clamp (n := u) (by omega), nI_clamp (n := p) (by omega), b1, mkk_ts _ hkd hk.1 hk.2]
  refine ⟨(ki_vp (by omega)).2 (by omega), (ki_vp (by omega)).2 (by omega), ?_⟩
  have w1 : fr_ (fma_ 241 247 p (i + 1)) G (ms_i G 243 p (nI (tkk_ tb u - 1))) := fr_.rfl'.si (fma_T (by omega))
  have hS1 : mP_ (ms_i G 243 p (nI (tkk_ tb u - 1))) tb nt u := hS.fr (S := fun c k => decide (c = 243)) (fr_.rfl'.si (by decide)) (fun c k q => decide_eq_false (by omega))
  refine t_goesOn (d := d + 3) (by omega) hS1 (fun G2 a2 p2 f2 => ?_) (fun G2 e a2 p2 f2 => ?_)
  · refine t_second (d := d) hT hp p2 (fun G3 q t4 a4 p4 e1 e2 f4 => ?_) (fun G3 e a4 p4 f4 => ?_)
    · have F4 := (w1.trans f2.rma).trans (f4.maa (by omega) (by omega))
      refine t_leads (d := d + 1) hT hp hi p4 (fun G5 a5 p5 e3 e4 f5 => ?_) (fun G5 e a5 p5 f5 => ?_)
      · refine h1 G5 q t4 a2 a4 a5 p5 (by rw [f5.i _ _ (fma_F (by omega))]; exact e1) (by rw [f5.i _ _ (fma_F (by omega))]; exact e2) ?_ e3 e4 (F4.trans (f5.maa (by omega) (by omega)))
        rw [f5.i _ _ (fma_F (by omega)), f4.i _ _ (fma_F (by omega)), f2.i _ _ (fmr_F (by omega)), mg_i_i, if_pos ⟨rfl, rfl⟩]
      · exact h0 G5 e (fun f => by rw [bd_r _ a2, bd_r _ a4, bd_l _ a5]) p5 (F4.trans (f5.maa (by omega) (by omega)))
    · exact t_leadsF (d := d + 1) _ _ p4 (h0 G3 e (fun f => by rw [bd_r _ a2, bd_l _ a4]) p4 ((w1.trans f2.rma).trans (f4.maa (by omega) (by omega))))
  · exact t_secondF (d := d) hp p2 (fun G3 p3 f3 => t_leadsF (d := d + 1) _ _ p3 (h0 G3 e (fun f => by rw [bd_l _ a2]) p3 ((w1.trans f2.rma).trans (f3.maa (by omega) (by omega)))))
theorem t_o108 {l : Launch} {κ : mm_K} {d : Nat} {G : mm_G} {K : mm_G → Prop} {tb : tb_T} {nt : Option Nat} {u p : Nat} (v1 v2 v4 : Int32) (hT : tg_ tb) (hp : p < 320) (hS : mP_ G tb nt u) (hk : 31 ≤ tkk_ tb u ∧ tkk_ tb u ≤ 34)
    (h1 : ∀ G' q t4, ac_ tb (tkk_ tb u) u = .inr (u + 1) → pva_ tb (u + 1) = .inr (q, t4) → mP_ G' tb nt t4 → mg_i G' 239 p = q.1 → mg_i G' 240 p = q.2 → mg_i G' 238 p = nI (tkk_ tb u - 31) → fr_ (fma_ 238 240 p 0) G G' → K G')
    (h0 : ∀ G' e, (∀ f : (Int32 × Int32) × Nat → re_T (ol_T × Nat × Option Nat × Nat), bd_ (ac_ tb (tkk_ tb u) u) (fun t2 => bd_ (pva_ tb t2) (fun q => f q)) = .inl e) → mF_ G' tb e → fr_ (fma_ 238 240 p 0) G G' → K G') : mV l κ true (d + 5) 0 0 m_X13_tellOrder 108 [some (.ref 226), some (.int v1), some (.int v2), some (.int (nI p)), some (.int v4), none] [] G (rV K) := by
  obtain ⟨a3, a1, b1, b2, b3, b4⟩ := hS.rd
  have hkd := (hT.1 u a1 hS.2.1).1
  refine p_X13_tellOrder_108 _ _ _ _ ⟨fun _ => ?_, fun y => absurd (by rw [hS.2.2.2.1]; decide) y⟩
  rw [a3, nI_clamp (n := u) (by omega), nI_clamp (n := p) (by omega), b1, mkk_hi _ hkd (by omega) (by omega), ki_sub (by omega), show tkk_ tb u + 4 - 35 = tkk_ tb u - 31 by omega]
  refine ⟨(ki_vp (by omega)).2 (by omega), (ki_vp (by omega)).2 (by omega), ?_⟩
  have w1 : fr_ (fma_ 238 240 p 0) G (ms_i G 238 p (nI (tkk_ tb u - 31))) := fr_.rfl'.si (fma_T (by omega))
  have hS1 : mP_ (ms_i G 238 p (nI (tkk_ tb u - 31))) tb nt u := hS.fr (S := fun c k => decide (c = 238)) (fr_.rfl'.si (by decide)) (fun c k q => decide_eq_false (by omega))
  refine t_goesOn (d := d + 3) (by omega) hS1 (fun G2 a2 p2 f2 => ?_) (fun G2 e a2 p2 f2 => ?_)
  · refine t_first (d := d) hT hp p2 (fun G3 q t4 a4 p4 e1 e2 f4 => ?_) (fun G3 e a4 p4 f4 => ?_)
    · refine h1 G3 q t4 a2 a4 p4 e1 e2 ?_ ((w1.trans f2.rma).trans (f4.maa (by omega) (by omega)))
      rw [f4.i _ _ (fma_F (by omega)), f2.i _ _ (fmr_F (by omega)), mg_i_i, if_pos ⟨rfl, rfl⟩]
    · exact h0 G3 e (fun f => by rw [bd_r _ a2, bd_l _ a4]) p4 ((w1.trans f2.rma).trans (f4.maa (by omega) (by omega)))
  · exact t_firstF (d := d) hp p2 (fun G3 p3 f3 => h0 G3 e (fun f => by rw [bd_l _ a2]) p3 ((w1.trans f2.rma).trans (f3.maa (by omega) (by omega))))
theorem t_order {l : Launch} {κ : mm_K} {d : Nat} {G : mm_G} {K : mm_G → Prop} {tb : tb_T} {nms : List Nat} {nt : Option Nat} {t b p i : Nat} (v1 : Int32) (hT : tg_ tb) (hb : b < 2) (hp : p < 320) (hi : i < 16) (hN : mNm_ G b nms) (e8 : mg_i G 248 i = -1) (hS : mP_ G tb nt t)
    (h1 : ∀ G' o lt nt' t', por_ tb nms nt t = .inr (o, lt, nt', t') → mP_ G' tb nt' t' → om_ G' p o → (o.1 = 6 ∨ o.1 = 7 → mg_i G' 248 i = nI lt) → (¬ (o.1 = 6 ∨ o.1 = 7) → mg_i G' 248 i = -1) → fr_ (fma_ 237 247 p (i + 1)) G G' → K G') (h0 : ∀ G' e, por_ tb nms nt t = .inl e → mF_ G' tb e → fr_ (fma_ 237 247 p (i + 1)) G G' → K G') : mC l κ true (d + 5) 0 0 m_X13_tellOrder [.ref 226, .int v1, .int (nI i), .int (nI p)] G (rV K) := by
  obtain ⟨a3, a1, b1, b2, b3, b4⟩ := hS.rd
  have hkd := (hT.1 t a1 hS.2.1).1
  have hm := mkk_lt _ hkd
  refine e_X13_tellOrder _ _ _ ⟨fun _ => ?_, fun y => absurd (by rw [hS.2.2.2.1]; decide) y⟩
  rw [a3, nI_clamp (n := t) (by omega), b1, nI_ltI (by omega) (by omega), nI_leI (by omega) (by omega), mkk_c4 _ hkd, mkk_c5 _ hkd]
  have hno : ∀ v4, ¬ (20 ≤ tkk_ tb t ∧ tkk_ tb t ≤ 30) → mC l κ true (d + 4) 0 0 m_X13_fail [.ref 226, .int (nI 1)] G (rV (fun G2 => mV l κ true (d + 5) 0 0 m_X13_tellOrder 38 [some (.ref 226), some (.int v1), some (.int (nI i)), some (.int (nI p)), some (.int v4), none] [] G2 (rV K))) := fun v4 hn => t_fail (Or.inl rfl) hS (fun G2 p2 f2 => t_o38F _ _ _ _ p2 (h0 G2 (1, t) (by unfold por_; rw [if_neg hn]) p2 f2.rma))
  refine ⟨(ki_vp (by omega)).2 (by omega), fun z => hno _ (by omega), fun z => ⟨fun z2 => ?_, fun z2 => hno _ (by omega)⟩⟩
  have hk : 20 ≤ tkk_ tb t ∧ tkk_ tb t ≤ 30 := by omega
  rw [mkk_hi _ hkd (by omega) (by omega)]
  refine p_X13_tellOrder_38 _ _ _ _ ⟨fun _ => ⟨(ki_vp (by omega)).2 (by omega), ?_⟩, fun y => absurd (by rw [hS.2.2.2.1]; decide) y⟩
  rw [nI_clamp (n := p) (by omega), ki_sub (by omega), nI_ltI (by omega) (by omega), nI_eq (b := 29) (by omega) (by omega), nI_eq (b := 30) (by omega) (by omega), nI_eq (b := 31) (by omega) (by omega), nI_eq (b := 32) (by omega) (by omega), show tkk_ tb t + 4 - 24 = tkk_ tb t - 20 by omega]
  have w1 : fr_ (fma_ 237 237 p 0) G (ms_i G 237 p (nI (tkk_ tb t - 20))) := fr_.rfl'.si (fma_T (by omega))
  have hS1 : mP_ (ms_i G 237 p (nI (tkk_ tb t - 20))) tb nt t := hS.fr (S := fun c k => decide (c = 237)) (fr_.rfl'.si (by decide)) (fun c k q => decide_eq_false (by omega))
  refine t_goesOn (d := d + 3) (by omega) hS1 (fun G2 a2 p2 f2 => ?_) (fun G2 e a2 p2 f2 => ?_)
  · have F2 : fr_ (fma_ 237 237 p 0) G G2 := w1.trans f2.rma
    have W2 : fr_ (fma_ 237 247 p (i + 1)) G G2 := F2.maa (by omega) (by omega)
    have o2 : mg_i G2 237 p = nI (tkk_ tb t - 20) := by rw [f2.i _ _ (fmr_F (by omega)), mg_i_i, if_pos ⟨rfl, rfl⟩]
    have e82 : mg_i G2 248 i = -1 := by rw [F2.i _ _ (fma_F (by omega))]; exact e8
    have N2 : mNm_ G2 b nms := hN.fr F2 (fun c k q => fma_F (by omega))
    obtain ⟨q3, q1, c1, c2, c3, c4⟩ := p2.rd
    have hkd2 := (hT.1 (t + 1) q1 p2.2.1).1
    have hm2 := mkk_lt _ hkd2
    have e13 : mg_i G2 226 13 = nI 0 := p2.2.2.2.1
    refine ⟨fun z => ⟨fun z1 => ⟨fun z2 => ⟨fun z3 => ⟨fun z4 => ?_, fun z4 => ?_⟩, fun z3 => ?_⟩, fun z2 => ?_⟩, fun z1 => ?_⟩, fun z => ?_⟩
    · -- back, stop
      have hpo : por_ tb nms nt t = .inr ((tkk_ tb t - 20, nI 0, (nI 0, nI 0), (nI 0, nI 0), nI 0, 0, nI 0), 0, nt, t + 1) := by
        unfold por_
        rw [if_pos hk, bd_r _ a2, if_neg (by omega), if_neg (by omega), if_neg (by omega), if_neg (by omega), if_neg (by omega)]
      have q := om_at (G := G2) (p := p) (o := tkk_ tb t - 20) (by omega) o2
      rw [if_neg (by omega), if_neg (by omega), if_neg (by omega), if_neg (by omega), if_neg (by omega), if_neg (by omega)] at q
      exact h1 G2 _ 0 nt (t + 1) hpo p2 q (fun y => by simp only [] at y; omega) (fun _ => e82) W2
    · -- call
      have k28 : tkk_ tb t = 28 := by omega
      have hpo : por_ tb nms nt t = bd_ (ac_ tb 2 (t + 1)) (fun t2 => .inr ((8, nI 0, (nI 0, nI 0), (nI 0, nI 0), nI 0, 0, if fnm_ nms (tkv_ tb (t + 1)) < nms.length then nI (fnm_ nms (tkv_ tb (t + 1))) else -1), 0, (if fnm_ nms (tkv_ tb (t + 1)) < nms.length then nt else nn_ nt (t + 1)), t2)) := by
        unfold por_
        rw [if_pos hk, bd_r _ a2, if_neg (by omega), if_neg (by omega), if_neg (by omega), if_neg (by omega), if_pos k28]
      have e1 : nI 1 = nI (mkk_ 2) := rfl
      rw [e1]
      refine t_must (d := d + 2) hT (by omega) (by omega) p2 (fun G4 a4 k4 p4 f4 => ⟨fun _ => ?_, fun y => absurd (by rw [p4.2.2.2.1]; decide) y⟩) (fun G4 e a4 p4 f4 => ⟨fun y => absurd y p4.ne.2.1, fun _ => h0 G4 e (by rw [hpo, bd_l _ a4]) p4 (W2.trans f4.rma)⟩)
      have hv := (hT.1 (t + 1) q1 p2.2.1).2.2.2 k4
      rw [q3]
      refine t_rowAt hb q1 hv.2 (by rw [f4.l _ _ (fmr_F (by omega))]; exact c4 k4) (N2.fr f4 (fun c k q => fmr_F (by omega))) ?_
      have hnl := hN.2.2.1
      have F4 : ∀ v, fr_ (fma_ 237 247 p (i + 1)) G (ms_i G4 244 p v) := fun v => (W2.trans f4.rma).si (fma_T (by omega))
      have P4 : ∀ v, mP_ (ms_i G4 244 p v) tb nt (t + 1 + 1) := fun v => p4.fr (S := fun c k => decide (c = 244)) (fr_.rfl'.si (by decide)) (fun c k q => decide_eq_false (by omega))
      have e244 : ∀ v, mg_i (ms_i G4 244 p v) 244 p = v := fun v => by rw [mg_i_i, if_pos ⟨rfl, rfl⟩]
      have o4 : ∀ v, mg_i (ms_i G4 244 p v) 237 p = nI 8 := fun v => by
        rw [mg_i_i, if_neg (by omega), f4.i _ _ (fmr_F (by omega)), o2, k28]
      have l4 : ∀ v, mg_i (ms_i G4 244 p v) 248 i = -1 := fun v => by
        rw [mg_i_i, if_neg (by omega), f4.i _ _ (fmr_F (by omega))]; exact e82
      rw [e244]
      refine ⟨(ki_vp (by omega)).2 (by omega), (ki_vp (by omega)).2 (by omega), fun y => ?_, fun y => ?_⟩
      · have c : fnm_ nms (tkv_ tb (t + 1)) < nms.length := Decidable.by_contra (fun n => y (if_neg n))
        have q := om_at (G := ms_i G4 244 p (if fnm_ nms (tkv_ tb (t + 1)) < nms.length then nI (fnm_ nms (tkv_ tb (t + 1))) else -1)) (p := p) (o := 8) (by omega) (o4 _)
        rw [e244] at q
        exact h1 _ _ 0 nt (t + 1 + 1) (by rw [hpo, bd_r _ a4, if_pos c, if_pos c]) (P4 _) (by rw [if_pos c] at q ⊢; exact q) (fun y => by simp only [] at y; omega) (fun _ => l4 _) (F4 _)
      · have c : ¬ fnm_ nms (tkv_ tb (t + 1)) < nms.length := fun n => by
          rw [if_pos n] at y
          exact absurd y (fun q => by
            have e := congrArg Int32.toInt q
            rw [nI_toInt (by omega)] at e
            have e1 : (-1 : Int32).toInt = -1 := by decide
            omega)
        rw [if_neg c]
        have hkf : kf_ tb (t + 1) = 4 := by unfold kf_; rw [if_neg (by omega), if_neg (by rw [Nat.add_sub_cancel]; omega)]
        refine t_wrong hT q1 p2.2.1 hkf (P4 _) (fun G6 p6 f6 => ?_)
        have q := om_at (G := G6) (p := p) (o := 8) (by omega) (by rw [f6.i _ _ (fmr_F (by omega))]; exact o4 _)
        rw [f6.i 244 _ (fmr_F (by omega)), e244] at q
        exact h1 G6 (8, nI 0, (nI 0, nI 0), (nI 0, nI 0), nI 0, 0, -1) 0 (nn_ nt (t + 1)) (t + 1 + 1) (by rw [hpo, bd_r _ a4, if_neg c, if_neg c]) p6 q (fun y => by simp only [] at y; omega) (fun _ => by rw [f6.i _ _ (fmr_F (by omega))]; exact l4 _) ((F4 _).trans f6.rma)
    · -- if
      have k27 : tkk_ tb t = 27 := by omega
      have hpo : por_ tb nms nt t = bd_ (pva_ tb (t + 1)) (fun p => if 10 ≤ tkk_ tb p.2 ∧ tkk_ tb p.2 ≤ 13 then bd_ (ac_ tb (tkk_ tb p.2) p.2) (fun t3 => bd_ (pva_ tb t3) (fun q => bd_ (ac_ tb 2 q.2) (fun t5 => .inr ((7, nI 0, p.1, q.1, nI (tkk_ tb p.2 - 10), lN (tkv_ tb q.2), nI 0), q.2, nt, t5)))) else .inl (1, p.2)) := by
        unfold por_
        rw [if_pos hk, bd_r _ a2, if_neg (by omega), if_neg (by omega), if_neg (by omega), if_pos k27]
      refine t_first (d := d) hT hp p2 (fun G3 v u a4 p4 e1 e2 f4 => ?_) (fun G3 e a4 p4 f4 => ⟨fun _ => t_failF _ p4 (t_o229F _ _ _ _ p4 (h0 G3 e (by rw [hpo, bd_l _ a4]) p4 (W2.trans (f4.maa (by omega) (by omega))))), fun y => absurd p4.ne.2.2 y⟩)
      obtain ⟨r3, r1, s1, s2, s3, s4⟩ := p4.rd
      have hku := (hT.1 u r1 p4.2.1).1
      have hmu := mkk_lt _ hku
      have c6 := mkk_c6 _ hku
      have W4 : fr_ (fma_ 237 247 p (i + 1)) G G3 := W2.trans (f4.maa (by omega) (by omega))
      have hno2 : ¬ (10 ≤ tkk_ tb u ∧ tkk_ tb u ≤ 13) → mC l κ true (d + 4) 0 0 m_X13_fail [.ref 226, .int (nI 1)] G3 (rV (fun G14 => mV l κ true (d + 5) 0 0 m_X13_tellOrder 229 [some (.ref 226), some (.int v1), some (.int (nI i)), some (.int (nI p)), some (.int (nI (tkk_ tb t + 4))), none] [] G14 (rV K))) := fun hn => t_fail (Or.inl rfl) p4 (fun G5 p5 f5 => t_o229F _ _ _ _ p5 (h0 G5 (1, u) (by rw [hpo, bd_r _ a4, if_neg hn]) p5 (W4.trans f5.rma)))
      refine ⟨fun y => absurd y (by rw [p4.2.2.2.1]; decide), fun _ => ?_⟩
      rw [r3, nI_clamp (n := u) (by omega), s1, nI_ltI (by omega) (by omega), nI_leI (by omega) (by omega)]
      refine ⟨(ki_vp (by omega)).2 (by omega), fun y => hno2 (by omega), fun y => ⟨(ki_vp (by omega)).2 (by omega), fun y2 => ?_, fun y2 => hno2 (by omega)⟩⟩
      have hk2 : 10 ≤ tkk_ tb u ∧ tkk_ tb u ≤ 13 := by omega
      refine t_o229 _ _ hT hp hi p4 hk2 (fun G5 q t4 x1 x2 x3 p5 y1 y2 y3 y4 y5 f5 => ?_) (fun G5 e he p5 f5 => h0 G5 e (by rw [hpo, bd_r _ a4, if_pos hk2]; exact he _) p5 (W4.trans (f5.maa (by omega) (by omega))))
      have qq := om_at (G := G5) (p := p) (o := 7) (by omega) (by rw [f5.i _ _ (fma_F (by omega)), f4.i _ _ (fma_F (by omega)), o2, k27])
      rw [y1, y2, y3, y4, f5.i 239 _ (fma_F (by omega)), f5.i 240 _ (fma_F (by omega)), e1, e2, ki_sub (by omega), show tkk_ tb u - 1 - 9 = tkk_ tb u - 10 by omega] at qq
      exact h1 G5 (7, nI 0, v, q, nI (tkk_ tb u - 10), lN (tkv_ tb t4), nI 0) t4 nt (t4 + 1) (by rw [hpo, bd_r _ a4, if_pos hk2, bd_r _ x1, bd_r _ x2, bd_r _ x3]) p5 qq (fun _ => y5) (fun y => absurd (Or.inr rfl) y) (W4.trans (f5.maa (by omega) (by omega)))
    · -- jump
      have k26 : tkk_ tb t = 26 := by omega
      have hpo : por_ tb nms nt t = bd_ (ac_ tb 2 (t + 1)) (fun t2 => .inr ((6, nI 0, (nI 0, nI 0), (nI 0, nI 0), nI 0, lN (tkv_ tb (t + 1)), nI 0), t + 1, nt, t2)) := by
        unfold por_
        rw [if_pos hk, bd_r _ a2, if_neg (by omega), if_neg (by omega), if_pos k26]
      refine t_leads (d := d + 1) hT hp hi p2 (fun G5 a5 p5 e3 e4 f5 => ?_) (fun G5 e a5 p5 f5 => h0 G5 e (by rw [hpo, bd_l _ a5]) p5 (W2.trans (f5.maa (by omega) (by omega))))
      have qq := om_at (G := G5) (p := p) (o := 6) (by omega) (by rw [f5.i _ _ (fma_F (by omega)), o2, k26])
      rw [e3] at qq
      exact h1 G5 (6, nI 0, (nI 0, nI 0), (nI 0, nI 0), nI 0, lN (tkv_ tb (t + 1)), nI 0) (t + 1) nt (t + 1 + 1) (by rw [hpo, bd_r _ a5]) p5 qq (fun _ => e4) (fun y => absurd (Or.inl rfl) y) (W2.trans (f5.maa (by omega) (by omega)))
    · -- give
      have k25 : tkk_ tb t = 25 := by omega
      have hpo : por_ tb nms nt t = bd_ (pva_ tb (t + 1)) (fun p => .inr ((5, nI 0, p.1, (nI 0, nI 0), nI 0, 0, nI 0), 0, nt, p.2)) := by
        unfold por_
        rw [if_pos hk, bd_r _ a2, if_neg (by omega), if_pos k25]
      refine t_first (d := d) hT hp p2 (fun G3 v u a4 p4 e1 e2 f4 => ?_) (fun G3 e a4 p4 f4 => h0 G3 e (by rw [hpo, bd_l _ a4]) p4 (W2.trans (f4.maa (by omega) (by omega))))
      have qq := om_at (G := G3) (p := p) (o := 5) (by omega) (by rw [f4.i _ _ (fma_F (by omega)), o2, k25])
      rw [e1, e2] at qq
      exact h1 G3 (5, nI 0, v, (nI 0, nI 0), nI 0, 0, nI 0) 0 nt u (by rw [hpo, bd_r _ a4]) p4 qq (fun y => by simp only [] at y; omega) (fun _ => by rw [f4.i _ _ (fma_F (by omega))]; exact e82) (W2.trans (f4.maa (by omega) (by omega)))
    · -- orders with a counter
      have hpo : por_ tb nms nt t = (if 31 ≤ tkk_ tb (t + 1) ∧ tkk_ tb (t + 1) ≤ 34 then bd_ (ac_ tb (tkk_ tb (t + 1)) (t + 1)) (fun t2 => bd_ (pva_ tb t2) (fun p => .inr ((tkk_ tb t - 20, nI (tkk_ tb (t + 1) - 31), p.1, (nI 0, nI 0), nI 0, 0, nI 0), 0, nt, p.2))) else .inl (1, t + 1)) := by
        unfold por_
        rw [if_pos hk, bd_r _ a2, if_pos (by omega)]
      have hno2 : ¬ (31 ≤ tkk_ tb (t + 1) ∧ tkk_ tb (t + 1) ≤ 34) → mC l κ true (d + 4) 0 0 m_X13_fail [.ref 226, .int (nI 1)] G2 (rV (fun G14 => mV l κ true (d + 5) 0 0 m_X13_tellOrder 108 [some (.ref 226), some (.int v1), some (.int (nI i)), some (.int (nI p)), some (.int (nI (tkk_ tb t + 4))), none] [] G14 (rV K))) := fun hn => t_fail (Or.inl rfl) p2 (fun G5 p5 f5 => t_o108F _ _ _ _ p5 (h0 G5 (1, t + 1) (by rw [hpo, if_neg hn]) p5 (W2.trans f5.rma)))
      refine ⟨fun y => absurd y (by rw [e13]; decide), fun _ => ?_⟩
      rw [q3, nI_clamp (n := t + 1) (by omega), c1, nI_ltI (by omega) (by omega), nI_leI (by omega) (by omega), mkk_c1 _ hkd2, mkk_c3 _ hkd2]
      refine ⟨(ki_vp (by omega)).2 (by omega), fun y => hno2 (by omega), fun y => ⟨(ki_vp (by omega)).2 (by omega), fun y2 => ?_, fun y2 => hno2 (by omega)⟩⟩
      have hk2 : 31 ≤ tkk_ tb (t + 1) ∧ tkk_ tb (t + 1) ≤ 34 := by omega
      refine t_o108 _ _ _ hT hp p2 hk2 (fun G5 q t4 x1 x2 p5 y1 y2 y3 f5 => ?_) (fun G5 e he p5 f5 => h0 G5 e (by rw [hpo, if_pos hk2]; exact he _) p5 (W2.trans (f5.maa (by omega) (by omega))))
      have qq := om_at (G := G5) (p := p) (o := tkk_ tb t - 20) (by omega) (by rw [f5.i _ _ (fma_F (by omega)), o2])
      rw [y1, y2, y3, if_pos (by omega), if_pos (Or.inl (by omega)), if_neg (by omega), if_neg (by omega), if_neg (by omega), if_neg (by omega)] at qq
      exact h1 G5 (tkk_ tb t - 20, nI (tkk_ tb (t + 1) - 31), q, (nI 0, nI 0), nI 0, 0, nI 0) 0 nt t4 (by rw [hpo, if_pos hk2, bd_r _ x1, bd_r _ x2]) p5 qq (fun y => by simp only [] at y; omega) (fun _ => by rw [f5.i _ _ (fma_F (by omega))]; exact e82) (W2.trans (f5.maa (by omega) (by omega)))
  · -- no room for more tokens
    have hE : por_ tb nms nt t = .inl e := by unfold por_; rw [if_pos hk, bd_l _ a2]
    have W2 : fr_ (fma_ 237 247 p (i + 1)) G G2 := (w1.trans f2.rma).maa (by omega) (by omega)
    refine ⟨fun z => ⟨fun z1 => ⟨fun z2 => ⟨fun z3 => ⟨fun z4 => h0 G2 e hE p2 W2, fun z4 => t_mustF (d := d + 2) _ p2 ⟨fun y => absurd y p2.ne.2.1, fun _ => h0 G2 e hE p2 W2⟩⟩, fun z3 => t_firstF (d := d) hp p2 (fun G3 p3 f3 => ⟨fun _ => t_failF _ p3 (t_o229F _ _ _ _ p3 (h0 G3 e hE p3 (W2.trans (f3.maa (by omega) (by omega))))), fun y => absurd p3.ne.2.2 y⟩)⟩, fun z2 => t_leadsF (d := d + 1) _ _ p2 (h0 G2 e hE p2 W2)⟩, fun z1 => t_firstF (d := d) hp p2 (fun G3 p3 f3 => h0 G3 e hE p3 (W2.trans (f3.maa (by omega) (by omega))))⟩, fun z => ⟨fun _ => t_failF _ p2 (t_o108F _ _ _ _ p2 (h0 G2 e hE p2 W2)), fun y => absurd p2.ne.2.2 y⟩⟩
