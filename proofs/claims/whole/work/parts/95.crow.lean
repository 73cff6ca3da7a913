/-! reading: the component's row -/
theorem L_app {L : List (ln_T × Nat)} {y : ln_T × Nat} {i : Nat} (h : i < L.length) : (L ++ [y]).getD i (ln_0, 0) = L.getD i (ln_0, 0) := by
  rw [List.getD_eq_getElem?_getD, List.getD_eq_getElem?_getD, List.getElem?_append_left h]
theorem L_end {L : List (ln_T × Nat)} {y : ln_T × Nat} : (L ++ [y]).getD L.length (ln_0, 0) = y := by
  rw [List.getD_eq_getElem?_getD, List.getElem?_append_right (Nat.le_refl _), Nat.sub_self]
  rfl
theorem nat_app {L : List Nat} {y i : Nat} (h : i < L.length) : (L ++ [y]).getD i 0 = L.getD i 0 := ap_lt h
theorem s_row {l : Launch} {κ : mm_K} {d : Nat} {G : mm_G} {K : Int32 → mm_G → Prop} {tb : tb_T} {nms : List Nat} {nt : Option Nat} {t : Nat} (hT : tg_ tb) (hz : zG_ G) (hn : 285 ≤ mg_n G) (hN : cNm_ G nms) (hp : nms.length < 4) (hS : cP_ G tb nt t)
    (h1 : ∀ G' ls nm nt' t', prw_ tb nms nt t = .inr (ls, nm, nt', t') → cP_ G' tb nt' t' → t < t' → cNm_ G' (nms ++ [nm]) → ro_ G' (12 + 2 * nms.length) ls → fnz_ (fRw_ nms.length) G G' → zG_ G' → K (nI 1) G')
    (h0 : ∀ G' e, prw_ tb nms nt t = .inl e → cF_ G' tb e → fnz_ (fRw_ nms.length) G G' → zG_ G' → K (nI 0) G') : mC l κ true (d + 5) 16 176 m_X5_rowTold [.ref 7] G (rI K) := by
  have hrow := rdr_row hp
  have zP : ∀ {G1 G2 : mm_G}, 285 ≤ mg_n G1 → zG_ G1 → fr_ fP_ G1 G2 → zG_ G2 := fun hn1 h f => h.fr f (fun c k hc => fP_F (by omega))
  have nP : ∀ {G1 G2 : mm_G}, 285 ≤ mg_n G1 → cNm_ G1 nms → fr_ fP_ G1 G2 → cNm_ G2 nms := fun hn1 h f => h.fz f.fz hn1 (fun c k q => fP_F (by omega))
  -- the lines, and what comes behind them
  have H119 : ∀ m G1 L nt1 t1 nt0 t3 (v2 : Int32), L.length + m = 17 → ac_ tb 36 t = .inr (t + 1) → tkk_ tb (t + 1) = 2 → ac_ tb 2 (t + 1) = .inr (t + 1 + 1) → ac_ tb 6 (t + 1 + 1) = .inr t3 → nt0 = (if fnm_ nms (tkv_ tb (t + 1)) < nms.length then nn_ nt (t + 1) else nt) → pls_ tb nms 17 [] nt0 t3 = pls_ tb nms m L nt1 t1 → t < t1 → okt_ tb (t + 1) → cP_ G1 tb nt1 t1 → zG_ G1 → 285 ≤ mg_n G1 → cNm_ G1 nms → mg_l G1 (12 + 2 * nms.length) 3 = lN (tkv_ tb (t + 1)) → ro_ G1 (12 + 2 * nms.length) (L.map Prod.fst) → lbl_ G1 tb L → fnz_ (fRw_ nms.length) G G1 → mV l κ true (d + 5) (m - 1) (11 * (m - 1)) m_X5_rowTold 119 [some (.ref 7), some (.ref (12 + 2 * nms.length)), some (.int v2), some (.int (nI L.length))] [] G1 (rI K) := by
    intro m
    induction m with
    | zero =>
      intro G1 L nt1 t1 nt0 t3 v2 hm _ _ _ _ _ _ _ _ c1 z1 n1 N1 nm1 r1 b1 f1
      have := r1.2.1
      rw [List.length_map] at this
      omega
    | succ m ih =>
      intro G1 L nt1 t1 nt0 t3 v2 hm e36 k2 e2 e6 ent0 els htt ho1 c1 z1 n1 N1 nm1 r1 b1 f1
      have h16 := r1.2.1
      rw [List.length_map] at h16
      obtain ⟨a3, a1, q1, q2, q3⟩ := c1.rd
      have hkd := (hT.1 t1 a1 c1.2.1).1
      have epr : ∀ {α : Type}, prw_ tb nms nt t = bd_ (pls_ tb nms 17 [] nt0 t3) (fun o => bd_ (ac_ tb 7 o.2.2) (fun t5 => .inr (o.1.map Prod.fst, tkv_ tb (t + 1), plb_ o.1 o.1.length o.2.1, t5))) := by
        intro _
        unfold prw_
        rw [bd_r _ e36, bd_r _ e2, bd_r _ e6, ent0]
      have hv := (hT.1 (t + 1) (by have := (ac_inr e2).2.2; omega) ho1).2.2.2 k2
      -- the row ends
      have hend : tkk_ tb t1 = 7 → mC l κ true (d + 4) 0 0 m_X5_checkLabels [.ref 7, .ref (12 + 2 * nms.length)] G1 (rV (fun G2 => mC l κ true (d + 4) 0 0 m_X5_accept [.ref 7, .int (nI 7)] (ms_i G2 8 1 ((mg_i G2 8 1) + (nI 1))) (rI (fun r3 G4 => (r3 = 0 ∨ r3 = 1) ∧ K r3 G4)))) := by
        intro k7
        have epl : pls_ tb nms 17 [] nt0 t3 = .inr (L, nt1, t1) := by rw [els]; unfold pls_; rw [if_pos k7]
        refine s_labels (d := d + 3) hT hrow (by omega) (by omega) n1 r1 b1 c1 (fun G2 c2 f2 => ?_)
        have N2 := nP n1 N1 f2
        rw [N2.1, nI_add]
        have g8 : fr_ (fun c k => decide (c = 8) && decide (k = 1)) G2 (ms_i G2 8 1 (nI (nms.length + 1))) := fr_.rfl'.si (by decide)
        have F3 : fnz_ (fRw_ nms.length) G (ms_i G2 8 1 (nI (nms.length + 1))) := (f1.trans f2.PRw.fz).tr2 g8 (fun c k hc q => ⟨q, by
          have := fRw_iff.1 q
          by_cases z : c = 8
          · rw [decide_eq_false (p := k = 1) (by omega), Bool.and_false]
          · rw [decide_eq_false z]; rfl⟩)
        have c3 : cP_ (ms_i G2 8 1 (nI (nms.length + 1))) tb (plb_ L L.length nt1) t1 := c2.fr g8 (fun c k q => by rw [decide_eq_false (p := c = 8) (by omega)]; rfl)
        have n2 : 285 ≤ mg_n G2 := by rw [f2.1]; exact n1
        have n2b : 285 ≤ mg_n (ms_i G2 8 1 (nI (nms.length + 1))) := n2
        have z3 : zG_ (ms_i G2 8 1 (nI (nms.length + 1))) := (zP n1 z1 f2).fr g8 (fun c k hc => by rw [decide_eq_false (p := c = 8) (by omega)]; rfl)
        refine s_accept hT (by omega) (by omega) c3 (fun G5 e5 k5 c5 f5 => ⟨Or.inr (by decide), ?_⟩) (fun G5 e e5 c5 f5 => ⟨Or.inl (by decide), h0 G5 e (by rw [epr (α := Nat), bd_r _ epl, bd_l _ e5]) c5 (F3.trans f5.PRw.fz) (zP n2b z3 f5)⟩)
        refine h1 G5 _ _ _ _ (by rw [epr (α := Nat), bd_r _ epl, bd_r _ e5]) c5 (by omega) ?_ ?_ (F3.trans f5.PRw.fz) (zP n2b z3 f5)
        · have el : (nms ++ [tkv_ tb (t + 1)]).length = nms.length + 1 := List.length_append
          refine ⟨?_, by omega, fun i hi => ?_⟩
          · rw [f5.i _ _ (fP_F (by omega)), mg_i_i, if_pos ⟨rfl, rfl⟩, el]
          · rw [f5.l _ _ (fP_F (by omega)), mg_l_i]
            by_cases ci : i = nms.length
            · rw [ci, ap_eq, f2.l _ _ (fP_F (by omega))]
              exact ⟨nm1, hv.2⟩
            · rw [ap_lt (by omega)]
              exact N2.2.2 i (by omega)
        · have r2 : ro_ G2 (12 + 2 * nms.length) (L.map Prod.fst) := r1.fz f2.fz (by omega) (fP_F (by omega)) (fun k => fP_F (by omega)) (fun u k hu _ => fP_F (by omega))
          have r3 : ro_ (ms_i G2 8 1 (nI (nms.length + 1))) (12 + 2 * nms.length) (L.map Prod.fst) := r2.fz g8.fz (by omega) (by rw [decide_eq_false (p := 12 + 2 * nms.length = 8) (by omega)]; rfl) (fun k => by rw [decide_eq_false (p := 12 + 2 * nms.length + 1 = 8) (by omega)]; rfl) (fun u k hu _ => by rw [decide_eq_false (p := u = 8) (by omega)]; rfl)
          exact r3.fz f5.fz (by show _ < mg_n G2; omega) (fP_F (by omega)) (fun k => fP_F (by omega)) (fun u k hu _ => fP_F (by omega))
      have hll : (L.map Prod.fst).length = L.length := List.length_map _
      have els2 : tkk_ tb t1 ≠ 7 → pls_ tb nms 17 [] nt0 t3 = bd_ (pln_ tb nms L.length nt1 t1) (fun o => pls_ tb nms m (L ++ [(o.1, o.2.1)]) o.2.2.1 o.2.2.2) := fun k7 => by rw [els]; show (if _ then _ else _) = _; rw [if_neg k7]
      by_cases c16 : L.length < 16
      · -- a line more
        obtain ⟨m', rfl⟩ : ∃ m', m = m' + 1 := ⟨m - 1, by omega⟩
        refine p_X5_rowTold_119 _ hrow _ _ ?_
        rw [a3, nI_clamp (by omega), q1, nI_ltI (by omega) (by omega), nI_eq (by omega) (by omega)]
        refine ⟨fun y => by omega, fun _ => ⟨(ki_vp (by omega)).2 (by omega), hend, fun k7 => ⟨m', 11 * m', by omega, by omega, ?_⟩⟩⟩
        refine s_line hT hrow (by omega) z1 n1 N1 c1 r1 (fun G2 x lt nt' t' e3 c3 lt3 r3 lb3 f3 z3 => ⟨fun _ => ?_, fun y => absurd y (by decide)⟩) (fun G2 e e3 c3 f3 z3 => ⟨fun y => absurd (by decide) y, fun _ => h0 G2 e ?_ c3 (f1.trans (f3.mono (fun c k hc q => by
          have := fRw_iff.1 q
          exact fLi_iff.2 (by omega)))) z3⟩)
        · rw [hll] at e3 lb3 f3
          obtain ⟨w1, w2, w3, w4, w5, w6, w7, w8⟩ := pln_ok c1.2.1 e3
          have F2 : fnz_ (fRw_ nms.length) G1 G2 := f3.mono (fun c k hc q => by
            have := fRw_iff.1 q
            exact fLi_iff.2 (by omega))
          have el : (L ++ [(x, lt)]).length = L.length + 1 := List.length_append
          have hh := ih G2 (L ++ [(x, lt)]) nt' t' nt0 t3 v2 (by omega) e36 k2 e2 e6 ent0 (by rw [els2 k7, bd_r _ e3]) (by omega) ho1 c3 z3 (Nat.le_trans n1 f3.1) (N1.fz f3 n1 (fun c k q => fLi_iff.2 (by omega))) (by rw [f3.l _ _ (by omega) (fLi_iff.2 (by omega))]; exact nm1) (by rw [List.map_append]; exact r3) (fun i hi => ?_) (f1.trans F2)
          · rw [el, ← nI_add] at hh
            exact hh
          · rw [el] at hi
            by_cases ci : i = L.length
            · rw [ci, L_end]
              exact ⟨w8, lb3⟩
            · rw [L_app (by omega)]
              obtain ⟨b2, b3⟩ := b1 i (by omega)
              exact ⟨b2, fun q => by rw [f3.i _ _ (by omega) (fLi_iff.2 (by omega))]; exact b3 q⟩
        · rw [hll] at e3
          rw [epr (α := Nat), els2 k7, bd_l _ (bd_l _ e3)]
      · have e16 : L.length = 16 := by omega
        obtain rfl : m = 0 := by omega
        refine p_X5_rowTold0_119 _ hrow _ _ ?_
        rw [a3, nI_clamp (by omega), q1, nI_ltI (by omega) (by omega), nI_eq (by omega) (by omega)]
        refine ⟨fun y => by omega, fun _ => ⟨(ki_vp (by omega)).2 (by omega), hend, fun k7 => ?_⟩⟩
        refine s_line16 (nms := nms) hT hrow (by rw [r1.1, hll, e16]) c1 (fun G2 e e3 c3 f3 => ⟨fun y => absurd (by decide) y, fun _ => h0 G2 e ?_ c3 (f1.trans f3.PRw.fz) (zP n1 z1 f3)⟩)
        rw [epr (α := Nat), els2 k7, e16, bd_l _ (bd_l _ e3)]
  refine e_X5_rowTold ?_
  rw [hN.1, nI_ltI (by omega) (by omega), nI_clamp (by omega)]
  refine ⟨fun _ => ⟨(ki_vp (by omega)).2 (by omega), ?_⟩, fun y => by omega⟩
  have g1 : fr_ (fun c k => decide (c = 12 + 2 * nms.length) && decide (k = 1)) G (ms_i G (12 + 2 * nms.length) 1 (nI 0)) := fr_.rfl'.si (by rw [decide_eq_true rfl]; rfl)
  have hg1 : ∀ c k, c ≠ 12 + 2 * nms.length ∨ k ≠ 1 → (decide (c = 12 + 2 * nms.length) && decide (k = 1)) = false := fun c k q => by
    rcases q with q | q
    · rw [decide_eq_false q]; rfl
    · rw [decide_eq_false q, Bool.and_false]
  have F1 : fnz_ (fRw_ nms.length) G (ms_i G (12 + 2 * nms.length) 1 (nI 0)) := fnz_.rfl'.tr2 g1 (fun c k hc q => ⟨q, hg1 _ _ (by have := fRw_iff.1 q; omega)⟩)
  have c1 : cP_ (ms_i G (12 + 2 * nms.length) 1 (nI 0)) tb nt t := hS.fr g1 (fun c k q => hg1 _ _ (by omega))
  have z1 : zG_ (ms_i G (12 + 2 * nms.length) 1 (nI 0)) := hz.fr g1 (fun c k hc => hg1 _ _ (by omega))
  have N1 : cNm_ (ms_i G (12 + 2 * nms.length) 1 (nI 0)) nms := hN.fz g1.fz hn (fun c k q => hg1 _ _ (by omega))
  have n1 : 285 ≤ mg_n (ms_i G (12 + 2 * nms.length) 1 (nI 0)) := hn
  have s1 : mg_i (ms_i G (12 + 2 * nms.length) 1 (nI 0)) (12 + 2 * nms.length) 1 = nI 0 := by rw [mg_i_i, if_pos ⟨rfl, rfl⟩]
  refine s_accept hT (by omega) (by omega) c1 (fun G3 e3 k3 c3 f3 => ⟨fun _ => ?_, fun y => absurd y (by decide)⟩) (fun G3 e e3 c3 f3 => ⟨fun y => absurd (by decide) y, fun _ => h0 G3 e (by unfold prw_; rw [bd_l _ e3]) c3 (F1.trans f3.PRw.fz) (zP n1 z1 f3)⟩)
  obtain ⟨a3, a1, q1, q2, q3⟩ := c3.rd
  have z3 := zP n1 z1 f3
  have n3 : 285 ≤ mg_n G3 := by rw [f3.1]; exact n1
  have N3 := nP n1 N1 f3
  rw [a3, nI_clamp (by omega)]
  refine ⟨(ki_vp (by omega)).2 (by omega), (ki_vp (by omega)).2 (by omega), ?_⟩
  have g3 : fr_ (fun c k => decide (c = 12 + 2 * nms.length) && decide (k = 3)) G3 (ms_l G3 (12 + 2 * nms.length) 3 (mg_l G3 5 (t + 1))) := fr_.rfl'.sl (by rw [decide_eq_true rfl]; rfl)
  have hg3 : ∀ c k, c ≠ 12 + 2 * nms.length ∨ k ≠ 3 → (decide (c = 12 + 2 * nms.length) && decide (k = 3)) = false := fun c k q => by
    rcases q with q | q
    · rw [decide_eq_false q]; rfl
    · rw [decide_eq_false q, Bool.and_false]
  have F3 := F1.trans f3.PRw.fz
  have F4 : fnz_ (fRw_ nms.length) G (ms_l G3 (12 + 2 * nms.length) 3 (mg_l G3 5 (t + 1))) := F3.tr2 g3 (fun c k hc q => ⟨q, hg3 _ _ (by have := fRw_iff.1 q; omega)⟩)
  have c4 : cP_ (ms_l G3 (12 + 2 * nms.length) 3 (mg_l G3 5 (t + 1))) tb nt (t + 1) := c3.fr g3 (fun c k q => hg3 _ _ (by omega))
  have z4 : zG_ (ms_l G3 (12 + 2 * nms.length) 3 (mg_l G3 5 (t + 1))) := z3.fr g3 (fun c k hc => hg3 _ _ (by omega))
  have n4 : 285 ≤ mg_n (ms_l G3 (12 + 2 * nms.length) 3 (mg_l G3 5 (t + 1))) := n3
  have N4 : cNm_ (ms_l G3 (12 + 2 * nms.length) 3 (mg_l G3 5 (t + 1))) nms := by
    obtain ⟨u1, u2, u3⟩ := N3
    exact ⟨by rw [g3.i _ _ (hg3 _ _ (by omega))]; exact u1, u2, fun i hi => ⟨by rw [g3.l _ _ (hg3 _ _ (by omega))]; exact (u3 i hi).1, (u3 i hi).2⟩⟩
  refine s_accept hT (by omega) (by omega) c4 (fun G5 e5 k5 c5 f5 => ⟨fun y => absurd y (by decide), fun _ => ?_⟩) (fun G5 e e5 c5 f5 => ⟨fun _ => h0 G5 e (by unfold prw_; rw [bd_r _ e3, bd_l _ e5]) c5 (F4.trans f5.PRw.fz) (zP n4 z4 f5), fun y => absurd (by decide) y⟩)
  have F5 := F4.trans f5.PRw.fz
  have z5 := zP n4 z4 f5
  have n5 : 285 ≤ mg_n G5 := by rw [f5.1]; exact n3
  refine s_accept hT (by omega) (by omega) c5 (fun G7 e7 k7 c7 f7 => ⟨fun _ => ?_, fun y => absurd y (by decide)⟩) (fun G7 e e7 c7 f7 => ⟨fun y => absurd (by decide) y, fun _ => h0 G7 e (by unfold prw_; rw [bd_r _ e3, bd_r _ e5, bd_l _ e7]) c7 (F5.trans f7.PRw.fz) (zP n5 z5 f7)⟩)
  have F7 := F5.trans f7.PRw.fz
  have z7 := zP n5 z5 f7
  have n7 : 285 ≤ mg_n G7 := by rw [f7.1]; exact n5
  have N7 := nP n5 (nP n4 N4 f5) f7
  have nm7 : mg_l G7 (12 + 2 * nms.length) 3 = lN (tkv_ tb (t + 1)) := by
    rw [f7.l _ _ (fP_F (by omega)), f5.l _ _ (fP_F (by omega)), mg_l_l, if_pos ⟨rfl, rfl⟩]
    exact q3 (Or.inl k5)
  have s7 : mg_i G7 (12 + 2 * nms.length) 1 = nI 0 := by
    rw [f7.i _ _ (fP_F (by omega)), f5.i _ _ (fP_F (by omega)), mg_i_l, f3.i _ _ (fP_F (by omega))]
    exact s1
  have ho1 := c3.2.1
  have hv := (hT.1 (t + 1) a1 ho1).2.2.2 k5
  have r7 : ∀ G8, fr_ fP_ G7 G8 → ro_ G8 (12 + 2 * nms.length) (([] : List (ln_T × Nat)).map Prod.fst) := fun G8 f => ⟨by rw [f.i _ _ (fP_F (by omega))]; exact s7, Nat.zero_le _, fun i hi => absurd hi (Nat.not_lt_zero i)⟩
  rw [nm7]
  refine s_named _ N7 ?_
  rw [fnl_nm N7 hv.2]
  unfold fnr_
  by_cases cf : fnm_ nms (tkv_ tb (t + 1)) < nms.length
  · rw [if_pos cf, q2]
    refine ⟨fun y => absurd y (nI_pos (by omega)), fun _ => s_note hT a1 ho1 (by unfold kf_; rw [if_neg (by omega), Nat.add_sub_cancel, if_pos k3]) c7 (fun G8 c8 f8 => ?_)⟩
    exact H119 17 G8 [] _ _ _ _ _ rfl e3 k5 e5 e7 (by rw [if_pos cf]) rfl (by omega) ho1 c8 (zP n7 z7 f8) (by rw [f8.1]; exact n7) (nP n7 N7 f8) (by rw [f8.l _ _ (fP_F (by omega))]; exact nm7) (r7 G8 f8) (fun i hi => absurd hi (Nat.not_lt_zero i)) (F7.trans f8.PRw.fz)
  · rw [if_neg cf]
    refine ⟨fun _ => ?_, fun y => absurd (by decide) y⟩
    exact H119 17 G7 [] _ _ _ _ _ rfl e3 k5 e5 e7 (by rw [if_neg cf]) rfl (by omega) ho1 c7 z7 n7 N7 nm7 (r7 G7 fr_.rfl') (fun i hi => absurd hi (Nat.not_lt_zero i)) F7
