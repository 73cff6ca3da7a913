/-! reading: the reference's lines -/
def fLn_ (b r n c k : Nat) : Bool := decide ((c = 226 ∧ (k = 11 ∨ k = 13 ∨ k = 14 ∨ k = 15 ∨ k = 16 ∨ k = 41 ∨ k = 42)) ∨ (c = 236 ∧ k = 4 * b + r) ∨ (237 ≤ c ∧ c ≤ 247 ∧ k = 64 * b + 16 * r + n ∧ n < 16) ∨ (c = 248 ∧ k = n))
theorem fLn_F {b r n c k : Nat} (h : ¬ ((c = 226 ∧ (k = 11 ∨ k = 13 ∨ k = 14 ∨ k = 15 ∨ k = 16 ∨ k = 41 ∨ k = 42)) ∨ (c = 236 ∧ k = 4 * b + r) ∨ (237 ≤ c ∧ c ≤ 247 ∧ k = 64 * b + 16 * r + n ∧ n < 16) ∨ (c = 248 ∧ k = n))) : fLn_ b r n c k = false := decide_eq_false h
theorem fLn_T {b r n c k : Nat} (h : (c = 226 ∧ (k = 11 ∨ k = 13 ∨ k = 14 ∨ k = 15 ∨ k = 16 ∨ k = 41 ∨ k = 42)) ∨ (c = 236 ∧ k = 4 * b + r) ∨ (237 ≤ c ∧ c ≤ 247 ∧ k = 64 * b + 16 * r + n ∧ n < 16) ∨ (c = 248 ∧ k = n)) : fLn_ b r n c k = true := decide_eq_true h
theorem fr_.rLn {b r n : Nat} {G G1 : mm_G} (h : fr_ fmr_ G G1) : fr_ (fLn_ b r n) G G1 := h.mono (fun c k q => by
  have := of_decide_eq_false q
  exact fmr_F (by omega))
theorem t_l183 {l : Launch} {κ : mm_K} {d : Nat} {G : mm_G} {K : mm_G → Prop} {tb : tb_T} {nms : List Nat} {nt : Option Nat} {t0 t b r n : Nat} {nm : Int64} (hT : tg_ tb) (hb : b < 2) (hr : r < 4) (hn : n < 16) (hN : mNm_ G b nms) (e8 : mg_i G 248 n = -1) (e6 : mg_i G 236 (4 * b + r) = nI n) (enm : mg_l G 246 (64 * b + 16 * r + n) = nm) (ht : t0 ≤ t) (hS : mP_ G tb nt t)
    (h1 : ∀ G' o lt nt' t', por_ tb nms nt t = .inr (o, lt, nt', t') → ac_ tb 4 t' = .inr (t' + 1) → mP_ G' tb nt' (t' + 1) → mg_i G' 236 (4 * b + r) = nI (n + 1) → rd_m G' (64 * b + 16 * r + n) = lm_ (nI (t' - t0)) nm o → (o.1 = 6 ∨ o.1 = 7 → mg_i G' 248 n = nI lt) → (¬ (o.1 = 6 ∨ o.1 = 7) → mg_i G' 248 n = -1) → fr_ (fLn_ b r n) G G' → K G')
    (h0 : ∀ G' e, (∀ f : (ol_T × Nat × Option Nat × Nat) → Nat → re_T (ln_T × Nat × Option Nat × Nat), bd_ (por_ tb nms nt t) (fun o => bd_ (ac_ tb 4 o.2.2.2) (fun t3 => f o t3)) = .inl e) → mF_ G' tb e → fr_ (fLn_ b r n) G G' → K G') : mV l κ true (d + 6) 0 0 m_X13_tellLine 183 [some (.ref 226), some (.int (nI r)), some (.int (nI n)), some (.int (nI (64 * b + 16 * r + n))), some (.int (nI t0))] [] G (rV K) := by
  have hp : 64 * b + 16 * r + n < 320 := by omega
  have vp : vp_in (nI (64 * b + 16 * r + n)) 320 := (ki_vp (by omega)).2 hp
  have e4 : nI 4 = nI (mkk_ 4) := rfl
  have to : ∀ {G1 G2 : mm_G}, fr_ (fma_ 237 247 (64 * b + 16 * r + n) (n + 1)) G1 G2 → fr_ (fLn_ b r n) G1 G2 := fun h => h.mono (fun c k q => by
    have := of_decide_eq_false q
    exact fma_F (by omega))
  refine p_X13_tellLine_183 _ _ _ _ (t_order _ hT hb hp hn hN e8 hS (fun G2 o lt nt' t' a2 p2 o2 l2 l3 f2 => ⟨vp, ?_⟩) (fun G2 e a2 p2 f2 => ⟨vp, ?_⟩))
  · have hoo := por_ok hS.2.1 a2
    have htt := hoo.2.1
    rw [p2.2.2.1, ki_sub (by omega), nI_clamp (n := 64 * b + 16 * r + n) (by omega)]
    have w2 : fr_ (fLn_ b r n) G (ms_i G2 245 (64 * b + 16 * r + n) (nI (t' - t0))) := (to f2).si (fLn_T (by omega))
    have p3 : mP_ (ms_i G2 245 (64 * b + 16 * r + n) (nI (t' - t0))) tb nt' t' := p2.fr (S := fun c k => decide (c = 245)) (fr_.rfl'.si (by decide)) (fun c k q => decide_eq_false (by omega))
    refine t_must (k := 4) (d := d + 3) hT (by omega) (by omega) p3 (fun G4 a4 k4 p4 f4 => ?_) (fun G4 e a4 p4 f4 => ⟨fun _ => h0 G4 e (fun f => by rw [bd_r _ a2, bd_l _ a4]) p4 (w2.trans f4.rLn), fun y => absurd y p4.ne.1⟩)
    refine ⟨fun y => absurd (by rw [p4.2.2.2.1]; decide) y, fun _ => ?_⟩
    have W4 := w2.trans (f4.rLn (b := b) (r := r) (n := n))
    have e19 : mg_i G4 226 19 = nI b := by rw [W4.i _ _ (fLn_F (by omega))]; exact hN.1
    have e236 : mg_i G4 236 (4 * b + r) = nI n := by
      rw [f4.i _ _ (fmr_F (by omega)), mg_i_i, if_neg (by omega), f2.i _ _ (fma_F (by omega))]; exact e6
    rw [e19, ki_mul, nI_add, nI_clamp (n := 4 * b + r) (by omega), e236, nI_add]
    refine ⟨(ki_vp (by omega)).2 (by omega), (ki_vp (by omega)).2 (by omega), ?_⟩
    refine h1 _ o lt nt' t' a2 a4 (p4.fr (S := fun c k => decide (c = 236)) (fr_.rfl'.si (by decide)) (fun c k q => decide_eq_false (by omega))) (by rw [mg_i_i, if_pos ⟨rfl, rfl⟩]) ?_ (fun q => ?_) (fun q => ?_) (W4.si (fLn_T (by omega)))
    · have x1 : mg_i (ms_i G4 236 (4 * b + r) (nI (n + 1))) 245 (64 * b + 16 * r + n) = nI (t' - t0) := by
        rw [mg_i_i, if_neg (by omega), f4.i _ _ (fmr_F (by omega)), mg_i_i, if_pos ⟨rfl, rfl⟩]
      have x2 : mg_l (ms_i G4 236 (4 * b + r) (nI (n + 1))) 246 (64 * b + 16 * r + n) = nm := by
        rw [mg_l_i, f4.l _ _ (fmr_F (by omega)), mg_l_i, f2.l _ _ (fma_F (by omega))]; exact enm
      have o3 : om_ (ms_i G2 245 (64 * b + 16 * r + n) (nI (t' - t0))) (64 * b + 16 * r + n) o := o2.fr (S := fun c k => decide (c = 245)) (fr_.rfl'.si (by decide)) (fun c q => decide_eq_false (by omega))
      have o4 : om_ G4 (64 * b + 16 * r + n) o := o3.fr f4 (fun c q => fmr_F (by omega))
      have o5 : om_ (ms_i G4 236 (4 * b + r) (nI (n + 1))) (64 * b + 16 * r + n) o := o4.fr (S := fun c k => decide (c = 236)) (fr_.rfl'.si (by decide)) (fun c q => decide_eq_false (by omega))
      unfold rd_m
      rw [x1, x2]
      exact o5 _ _
    · rw [mg_i_i, if_neg (by omega), f4.i _ _ (fmr_F (by omega)), mg_i_i, if_neg (by omega)]; exact l2 q
    · rw [mg_i_i, if_neg (by omega), f4.i _ _ (fmr_F (by omega)), mg_i_i, if_neg (by omega)]; exact l3 q
  · have p3 : ∀ v, mF_ (ms_i G2 245 (nI (64 * b + 16 * r + n)).toNatClampNeg v) tb e := fun v => p2.fr (S := fun c k => decide (c = 245)) (fr_.rfl'.si (by decide)) (fun c k q => decide_eq_false (by omega))
    refine t_mustF (d := d + 3) _ (p3 _) ⟨fun _ => h0 _ e (fun f => by rw [bd_l _ a2]) (p3 _) ((to f2).si (fLn_T (by rw [nI_clamp (by omega)]; omega))), fun y => absurd y (p3 _).ne.1⟩
theorem t_l183F {l : Launch} {κ : mm_K} {d : Nat} {G : mm_G} {K : mm_G → Prop} {tb : tb_T} {e : Nat × Nat} {b r n : Nat} (v1 v2 v4 : Int32) (hb : b < 2) (hr : r < 4) (hn : n < 16) (hS : mF_ G tb e) (h : ∀ G', mF_ G' tb e → fr_ (fLn_ b r n) G G' → K G') : mV l κ true (d + 6) 0 0 m_X13_tellLine 183 [some (.ref 226), some (.int v1), some (.int v2), some (.int (nI (64 * b + 16 * r + n))), some (.int v4)] [] G (rV K) := by
  have hp : 64 * b + 16 * r + n < 320 := by omega
  refine p_X13_tellLine_183 _ _ _ _ (t_orderF (d := d) _ _ _ hS ⟨(ki_vp (by omega)).2 hp, ?_⟩)
  have p3 : ∀ v, mF_ (ms_i G 245 (nI (64 * b + 16 * r + n)).toNatClampNeg v) tb e := fun v => hS.fr (S := fun c k => decide (c = 245)) (fr_.rfl'.si (by decide)) (fun c k q => decide_eq_false (by omega))
  refine t_mustF (d := d + 3) _ (p3 _) ⟨fun _ => h _ (p3 _) (fr_.rfl'.si (fLn_T (by rw [nI_clamp (by omega)]; omega))), fun y => absurd y (p3 _).ne.1⟩
theorem t_line {l : Launch} {κ : mm_K} {d : Nat} {G : mm_G} {K : mm_G → Prop} {tb : tb_T} {nms : List Nat} {nt : Option Nat} {t b r n : Nat} (hT : tg_ tb) (hb : b < 2) (hr : r < 4) (hn : n ≤ 16) (hN : mNm_ G b nms) (e6 : mg_i G 236 (4 * b + r) = nI n) (hS : mP_ G tb nt t)
    (h1 : ∀ G' x lt nt' t', pln_ tb nms n nt t = .inr (x, lt, nt', t') → mP_ G' tb nt' t' → mg_i G' 236 (4 * b + r) = nI (n + 1) → rd_m G' (64 * b + 16 * r + n) = x → (ln_or x = nI 6 ∨ ln_or x = nI 7 → mg_i G' 248 n = nI lt) → (¬ (ln_or x = nI 6 ∨ ln_or x = nI 7) → mg_i G' 248 n = -1) → fr_ (fLn_ b r n) G G' → K G')
    (h0 : ∀ G' e, pln_ tb nms n nt t = .inl e → mF_ G' tb e → fr_ (fLn_ b r n) G G' → K G') : mC l κ true (d + 6) 0 0 m_X13_tellLine [.ref 226, .int (nI r)] G (rV K) := by
  obtain ⟨a3, a1, b1, b2, b3, b4⟩ := hS.rd
  have hkd := (hT.1 t a1 hS.2.1).1
  have hm := mkk_lt _ hkd
  have e1 : nI 1 = nI (mkk_ 2) := rfl
  have g65 : ∀ {G2 : mm_G} {e : Nat × Nat} (v1 v2 : Int32), mF_ G2 tb e → K G2 → mV l κ true (d + 6) 0 0 m_X13_tellLine 65 [some (.ref 226), some (.int v1), some (.int v2), none, none] [] G2 (rV K) := fun v1 v2 p2 k2 => p_X13_tellLine_65 _ _ ⟨fun y => absurd y p2.ne.2.1, fun _ => k2⟩
  refine e_X13_tellLine _ ?_
  rw [hN.1, ki_mul, nI_add, nI_clamp (n := 4 * b + r) (by omega), e6, nI_eq (b := 16) (by omega) (by omega)]
  refine ⟨(ki_vp (by omega)).2 (by omega), fun z => ?_, fun z => ?_⟩
  · have hn : n < 16 := by omega
    have hp : 64 * b + 16 * r + n < 320 := by omega
    have vp : vp_in (nI (64 * b + 16 * r + n)) 320 := (ki_vp (by omega)).2 hp
    refine p_X13_tellLine_65 _ _ ⟨fun _ => ?_, fun y => absurd (by rw [hS.2.2.2.1]; decide) y⟩
    rw [hN.1, a3, ki_mul, ki_mul, nI_add, nI_add, nI_clamp (n := 64 * b + 16 * r + n) (by omega), nI_clamp (n := n) (by omega)]
    refine ⟨vp, vp, (ki_vp (by omega)).2 hn, vp, vp, vp, vp, vp, ?_⟩
    generalize hG1 : (ms_i (ms_i (ms_i (ms_i (ms_i (ms_i (ms_l (ms_l G 246 (64 * b + 16 * r + n) (lN 0)) 247 (64 * b + 16 * r + n) (lN 0)) 248 n (-1)) 239 (64 * b + 16 * r + n) (nI 0)) 240 (64 * b + 16 * r + n) (nI 0)) 241 (64 * b + 16 * r + n) (nI 0)) 242 (64 * b + 16 * r + n) (nI 0)) 244 (64 * b + 16 * r + n) (-1)) = G1
    have f1 : fr_ (fun c k => decide ((237 ≤ c ∧ c ≤ 247 ∧ k = 64 * b + 16 * r + n) ∨ (c = 248 ∧ k = n))) G G1 := by
      rw [← hG1]
      exact (((((((fr_.rfl'.sl (decide_eq_true (by omega))).sl (decide_eq_true (by omega))).si (decide_eq_true (by omega))).si (decide_eq_true (by omega))).si (decide_eq_true (by omega))).si (decide_eq_true (by omega))).si (decide_eq_true (by omega))).si (decide_eq_true (by omega))
    have F1 : fr_ (fLn_ b r n) G G1 := f1.mono (fun c k q => by
      have := of_decide_eq_false q
      exact decide_eq_false (by omega))
    have x8 : mg_i G1 248 n = -1 := by rw [← hG1]; simp only [mg_i_i, mg_i_l, mg_i_r, mg_i_b, mg_l_i, mg_l_l, mg_l_r, mg_l_b, mg_r_i, mg_r_l, mg_r_r, mg_r_b, false_and, and_false, true_and, and_true, reduceCtorEq, if_true, if_false, reduceIte, Nat.reduceEqDiff, Nat.reduceAdd, Nat.succ_ne_self, ne_eq, not_false_eq_true, not_true_eq_false]
    have x6 : mg_l G1 246 (64 * b + 16 * r + n) = 0 := by rw [← hG1]; simp only [mg_i_i, mg_i_l, mg_i_r, mg_i_b, mg_l_i, mg_l_l, mg_l_r, mg_l_b, mg_r_i, mg_r_l, mg_r_r, mg_r_b, false_and, and_false, true_and, and_true, reduceCtorEq, if_true, if_false, reduceIte, Nat.reduceEqDiff, Nat.reduceAdd, Nat.succ_ne_self, ne_eq, not_false_eq_true, not_true_eq_false]; rfl
    have N1 : mNm_ G1 b nms := hN.fr f1 (fun c k q => decide_eq_false (by omega))
    have P1 : mP_ G1 tb nt t := hS.fr f1 (fun c k q => decide_eq_false (by omega))
    have E6 : mg_i G1 236 (4 * b + r) = nI n := by rw [f1.i _ _ (decide_eq_false (by omega))]; exact e6
    rw [e1]
    refine t_is hT (by omega) P1 ?_
    have lor : ∀ (o : ol_T) tk nm, ln_or (lm_ tk nm o) = nI o.1 := fun o tk nm => rfl
    by_cases c : tkk_ tb t = 2
    · rw [if_pos c]
      refine ⟨fun y => absurd y (by decide), fun _ => ?_⟩
      obtain ⟨q3, q1, s1, s2, s3, s4⟩ := P1.rd
      rw [q3, nI_clamp (n := t) (by omega), s4 c]
      refine ⟨(ki_vp (by omega)).2 (by omega), vp, ?_⟩
      have g1 : fr_ (fun c k => decide (c = 246 ∧ k = 64 * b + 16 * r + n)) G1 (ms_l G1 246 (64 * b + 16 * r + n) (lN (tkv_ tb t))) := fr_.rfl'.sl (decide_eq_true ⟨rfl, rfl⟩)
      have P2 : mP_ (ms_l G1 246 (64 * b + 16 * r + n) (lN (tkv_ tb t))) tb nt t := P1.fr g1 (fun c k q => decide_eq_false (by omega))
      have F2 : fr_ (fLn_ b r n) G (ms_l G1 246 (64 * b + 16 * r + n) (lN (tkv_ tb t))) := F1.sl (fLn_T (by omega))
      have e6k : nI 6 = nI (mkk_ 5) := rfl
      have hpl : pln_ tb nms n nt t = bd_ (bd_ (ac_ tb 2 t) (fun t1 => ac_ tb 5 t1)) (fun t1 => bd_ (por_ tb nms nt t1) (fun o => bd_ (ac_ tb 4 o.2.2.2) (fun t3 => .inr (lm_ (nI (o.2.2.2 - t)) (lN (tkv_ tb t)) o.1, o.2.1, o.2.2.1, t3)))) := by
        unfold pln_
        rw [if_pos (Or.inl c), if_pos hn, if_pos c, if_pos c]
      rw [e6k]
      refine t_goesOn (d := d + 4) (by omega) P2 (fun G4 a4 p4 f4 => ?_) (fun G4 e a4 p4 f4 => ?_)
      · rw [c] at a4
        refine t_must (d := d + 3) hT (by omega) (by omega) p4 (fun G5 a5 k5 p5 f5 => ?_) (fun G5 e a5 p5 f5 => ?_)
        · have F5 := (F2.trans f4.rLn).trans (f5.rLn (b := b) (r := r) (n := n))
          refine t_l183 (nm := lN (tkv_ tb t)) hT hb hr hn (hN.fr F5 (fun c k q => fLn_F (by omega))) ?_ ?_ ?_ (by omega) p5 (fun G' o lt nt' t' y1 y2 y3 y4 y5 y6 y7 y8 => ?_) (fun G' e y1 y2 y3 => ?_)
          · rw [f5.i _ _ (fmr_F (by omega)), f4.i _ _ (fmr_F (by omega)), mg_i_l]; exact x8
          · rw [f5.i _ _ (fmr_F (by omega)), f4.i _ _ (fmr_F (by omega)), mg_i_l]; exact E6
          · rw [f5.l _ _ (fmr_F (by omega)), f4.l _ _ (fmr_F (by omega)), mg_l_l, if_pos ⟨rfl, rfl⟩]
          · have ho := (por_ok p5.2.1 y1).1
            refine h1 G' _ lt nt' (t' + 1) (by rw [hpl, bd_r _ a4, bd_r _ a5, bd_r _ y1, bd_r _ y2]) y3 y4 y5 (fun q => y6 ?_) (fun q => y7 (fun w => q ?_)) (F5.trans y8)
            · rw [lor, nI_eq (b := 6) (by omega) (by omega), nI_eq (b := 7) (by omega) (by omega)] at q; exact q
            · rw [lor, nI_eq (b := 6) (by omega) (by omega), nI_eq (b := 7) (by omega) (by omega)]; exact w
          · exact h0 G' e (by rw [hpl, bd_r _ a4, bd_r _ a5]; exact y1 _) y2 (F5.trans y3)
        · exact t_l183F _ _ _ hb hr hn p5 (fun G' p6 f6 => h0 G' e (by rw [hpl, bd_r _ a4, bd_l _ a5]) p6 (((F2.trans f4.rLn).trans f5.rLn).trans f6))
      · rw [c] at a4
        exact t_mustF (d := d + 3) _ p4 (t_l183F _ _ _ hb hr hn p4 (fun G' p6 f6 => h0 G' e (by rw [hpl, bd_l _ (bd_l _ a4)]) p6 ((F2.trans f4.rLn).trans f6)))
    · rw [if_neg c]
      refine ⟨fun _ => ?_, fun y => absurd (by decide) y⟩
      have hpl : 20 ≤ tkk_ tb t ∧ tkk_ tb t ≤ 30 → pln_ tb nms n nt t = bd_ (por_ tb nms nt t) (fun o => bd_ (ac_ tb 4 o.2.2.2) (fun t3 => .inr (lm_ (nI (o.2.2.2 - t)) 0 o.1, o.2.1, o.2.2.1, t3))) := fun hk => by
        unfold pln_
        rw [if_pos (Or.inr hk), if_pos hn, if_neg c, if_neg c]
        rfl
      have hpn : ¬ (20 ≤ tkk_ tb t ∧ tkk_ tb t ≤ 30) → pln_ tb nms n nt t = .inl (1, t) ∧ por_ tb nms nt t = .inl (1, t) := fun hk => by
        unfold pln_ por_
        rw [if_neg (by omega), if_neg hk]
        exact ⟨rfl, rfl⟩
      refine t_l183 (nm := 0) hT hb hr hn N1 x8 E6 x6 (Nat.le_refl _) P1 (fun G' o lt nt' t' y1 y2 y3 y4 y5 y6 y7 y8 => ?_) (fun G' e y1 y2 y3 => ?_)
      · have ho := (por_ok P1.2.1 y1).1
        have hk : 20 ≤ tkk_ tb t ∧ tkk_ tb t ≤ 30 := Decidable.by_contra (fun q => by rw [(hpn q).2] at y1; cases y1)
        refine h1 G' _ lt nt' (t' + 1) (by rw [hpl hk, bd_r _ y1, bd_r _ y2]) y3 y4 y5 (fun q => y6 ?_) (fun q => y7 (fun w => q ?_)) (F1.trans y8)
        · rw [lor, nI_eq (b := 6) (by omega) (by omega), nI_eq (b := 7) (by omega) (by omega)] at q; exact q
        · rw [lor, nI_eq (b := 6) (by omega) (by omega), nI_eq (b := 7) (by omega) (by omega)]; exact w
      · refine h0 G' e ?_ y2 (F1.trans y3)
        by_cases hk : 20 ≤ tkk_ tb t ∧ tkk_ tb t ≤ 30
        · rw [hpl hk]; exact y1 _
        · have q := y1 (fun _ _ => .inl (0, 0))
          rw [bd_l _ (hpn hk).2] at q
          rw [(hpn hk).1]
          exact congrArg Sum.inl (Sum.inl.inj q)
  · rw [e1]
    refine t_is hT (by omega) hS ?_
    have f2 : tkk_ tb t = 2 ∨ (20 ≤ tkk_ tb t ∧ tkk_ tb t ≤ 30) → pln_ tb nms n nt t = .inl (2, t) := fun q => by
      unfold pln_
      rw [if_pos q, if_neg (by omega)]
    have f1 : ¬ (tkk_ tb t = 2 ∨ (20 ≤ tkk_ tb t ∧ tkk_ tb t ≤ 30)) → pln_ tb nms n nt t = .inl (1, t) := fun q => by
      unfold pln_
      rw [if_neg q]
    by_cases c : tkk_ tb t = 2
    · rw [if_pos c]
      exact ⟨fun _ => t_fail (Or.inr rfl) hS (fun G4 p4 f4 => g65 _ _ p4 (h0 G4 _ (f2 (Or.inl c)) p4 f4.rLn)), fun y => absurd y (by decide)⟩
    · rw [if_neg c]
      refine ⟨fun y => absurd (by decide) y, fun _ => ?_⟩
      rw [a3, nI_clamp (n := t) (by omega), b1, nI_ltI (by omega) (by omega), nI_ltI (by omega) (by omega), mkk_c4 _ hkd]
      have c5 := mkk_c5 _ hkd
      exact ⟨(ki_vp (by omega)).2 (by omega), fun y => t_fail (Or.inl rfl) hS (fun G4 p4 f4 => g65 _ _ p4 (h0 G4 _ (f1 (by omega)) p4 f4.rLn)), fun y => ⟨(ki_vp (by omega)).2 (by omega), fun y2 => t_fail (Or.inl rfl) hS (fun G4 p4 f4 => g65 _ _ p4 (h0 G4 _ (f1 (by omega)) p4 f4.rLn)), fun y2 => t_fail (Or.inr rfl) hS (fun G4 p4 f4 => g65 _ _ p4 (h0 G4 _ (f2 (by omega)) p4 f4.rLn))⟩⟩
