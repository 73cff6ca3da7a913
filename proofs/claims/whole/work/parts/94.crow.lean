/-! reading: the component's rows -/
theorem s_line16 {l : Launch} {κ : mm_K} {d : Nat} {G : mm_G} {K : Int32 → mm_G → Prop} {tb : tb_T} {nms : List Nat} {nt : Option Nat} {t a : Nat} (hT : tg_ tb) (ha : RowAt a) (hr : mg_i G a 1 = nI 16) (hS : cP_ G tb nt t)
    (h0 : ∀ G' e, pln_ tb nms 16 nt t = .inl e → cF_ G' tb e → fr_ fP_ G G' → K (nI 0) G') : mC l κ true (d + 4) 0 0 m_X5_lineTold [.ref 7, .ref a] G (rI K) := by
  obtain ⟨a3, a1, b1, b2, b3⟩ := hS.rd
  have hkd := (hT.1 t a1 hS.2.1).1
  have H55 : ∀ fl : Int32, tkk_ tb t = 2 ∨ (20 ≤ tkk_ tb t ∧ tkk_ tb t ≤ 30) → mV l κ true (d + 4) 0 0 m_X5_lineTold 55 [some (.ref 7), some (.ref a), some (.int (nI t)), some (.int fl), none] [] G (rI K) := by
    intro fl hk
    refine p_X5_lineTold_55 a ha _ _ ?_
    rw [hr]
    exact ⟨fun y => absurd y (by decide), fun y => s_refuse (Or.inr rfl) hS (fun G2 c2 f2 => ⟨Or.inl (by decide), h0 G2 (2, t) (by unfold pln_; rw [if_pos hk, if_neg (by omega)]) c2 f2⟩)⟩
  refine e_X5_lineTold0 a ha ?_
  rw [a3, nI_clamp (by omega), b1, nI_eq (by omega) (by omega)]
  refine ⟨(ki_vp (by omega)).2 (by omega), fun y => p_X5_lineTold_27 a ha _ _ ⟨fun z => absurd (by decide) z, fun _ => ?_⟩, fun y => p_X5_lineTold_27 a ha _ _ ⟨fun _ => H55 _ (Or.inl y), fun z => absurd z (by decide)⟩⟩
  rw [a3, nI_clamp (by omega), b1]
  refine ⟨(ki_vp (by omega)).2 (by omega), e_X5_isOrder _ ?_⟩
  rw [nI_ltI (by omega) (by omega), nI_ltI (by omega) (by omega)]
  have hno : ¬ (20 ≤ tkk_ tb t ∧ tkk_ tb t ≤ 30) → mC l κ true (d + 3) 0 0 m_X5_refuse [.ref 7, .int (nI 1)] G (rI (fun r1 G2 => (r1 = 0 ∨ r1 = 1) ∧ K r1 G2)) := fun hq => s_refuse (Or.inl rfl) hS (fun G2 c2 f2 => ⟨Or.inl (by decide), h0 G2 (1, t) (by unfold pln_; rw [if_neg (by omega)]) c2 f2⟩)
  exact ⟨fun z => ⟨fun z2 => absurd (by decide) z2, fun _ => hno (by omega)⟩, fun z => ⟨fun z3 => ⟨fun z2 => absurd (by decide) z2, fun _ => hno (by omega)⟩, fun z3 => ⟨fun _ => H55 _ (Or.inr (by omega)), fun z2 => absurd z2 (by decide)⟩⟩⟩
theorem por_okt {tb : tb_T} {nms : List Nat} {nt nt' : Option Nat} {t t' lt : Nat} {o : ol_T} (ho : okt_ tb t) (h : por_ tb nms nt t = .inr (o, lt, nt', t')) : okt_ tb t' := by
  unfold por_ at h
  by_cases hk : 20 ≤ tkk_ tb t ∧ tkk_ tb t ≤ 30
  · rw [if_pos hk] at h
    obtain ⟨t1, e1, h⟩ := bd_inr h
    obtain ⟨rfl, k1, l1⟩ := ac_inr e1
    have ho1 : okt_ tb (t + 1) := okt_succ ho (by omega)
    by_cases c1 : tkk_ tb t ≤ 24
    · rw [if_pos c1] at h
      by_cases c2 : 31 ≤ tkk_ tb (t + 1) ∧ tkk_ tb (t + 1) ≤ 34
      · rw [if_pos c2] at h
        obtain ⟨t2, e2, h⟩ := bd_inr h
        obtain ⟨rfl, k2, l2⟩ := ac_inr e2
        obtain ⟨⟨v, t3⟩, e3, h⟩ := bd_inr h
        have n4 := (pva_ok (okt_succ ho1 (by omega)) e3).2.2.2.1
        have h := Sum.inr.inj h
        simp only [Prod.mk.injEq] at h
        obtain ⟨-, -, -, rfl⟩ := h
        exact n4
      · rw [if_neg c2] at h; cases h
    · rw [if_neg c1] at h
      by_cases c2 : tkk_ tb t = 25
      · rw [if_pos c2] at h
        obtain ⟨⟨v, t3⟩, e3, h⟩ := bd_inr h
        have n4 := (pva_ok ho1 e3).2.2.2.1
        have h := Sum.inr.inj h
        simp only [Prod.mk.injEq] at h
        obtain ⟨-, -, -, rfl⟩ := h
        exact n4
      · rw [if_neg c2] at h
        by_cases c3 : tkk_ tb t = 26
        · rw [if_pos c3] at h
          obtain ⟨t2, e2, h⟩ := bd_inr h
          obtain ⟨rfl, k2, l2⟩ := ac_inr e2
          have h := Sum.inr.inj h
          simp only [Prod.mk.injEq] at h
          obtain ⟨-, -, -, rfl⟩ := h
          exact okt_succ ho1 (by omega)
        · rw [if_neg c3] at h
          by_cases c4 : tkk_ tb t = 27
          · rw [if_pos c4] at h
            obtain ⟨⟨v, t3⟩, e3, h⟩ := bd_inr h
            have n4 := (pva_ok ho1 e3).2.2.2.1
            by_cases c5 : 10 ≤ tkk_ tb t3 ∧ tkk_ tb t3 ≤ 13
            · simp only [if_pos c5] at h
              obtain ⟨t4, e4, h⟩ := bd_inr h
              obtain ⟨rfl, k4, l4⟩ := ac_inr e4
              obtain ⟨⟨v', t5⟩, e5, h⟩ := bd_inr h
              have m4 := (pva_ok (okt_succ n4 (by omega)) e5).2.2.2.1
              obtain ⟨t6, e6, h⟩ := bd_inr h
              obtain ⟨rfl, k6, l6⟩ := ac_inr e6
              have k6 : tkk_ tb t5 = 2 := k6
              have h := Sum.inr.inj h
              simp only [Prod.mk.injEq] at h
              obtain ⟨-, -, -, rfl⟩ := h
              exact okt_succ m4 (by omega)
            · simp only [if_neg c5] at h; cases h
          · rw [if_neg c4] at h
            by_cases c5 : tkk_ tb t = 28
            · rw [if_pos c5] at h
              obtain ⟨t2, e2, h⟩ := bd_inr h
              obtain ⟨rfl, k2, l2⟩ := ac_inr e2
              have h := Sum.inr.inj h
              simp only [Prod.mk.injEq] at h
              obtain ⟨-, -, -, rfl⟩ := h
              exact okt_succ ho1 (by omega)
            · rw [if_neg c5] at h
              have h := Sum.inr.inj h
              simp only [Prod.mk.injEq] at h
              obtain ⟨-, -, -, rfl⟩ := h
              exact ho1
  · rw [if_neg hk] at h; cases h
/-- what a line tells -/
def lo_ (tb : tb_T) (x : ln_T) (lt : Nat) : Prop := ln_or x = nI 6 ∨ ln_or x = nI 7 → lt ≤ 400 ∧ okt_ tb lt ∧ kf_ tb lt = 4
theorem pln_ok {tb : tb_T} {nms : List Nat} {nt nt' : Option Nat} {n t t' lt : Nat} {x : ln_T} (ho : okt_ tb t) (h : pln_ tb nms n nt t = .inr (x, lt, nt', t')) : n < 16 ∧ t < t' ∧ t' ≤ 400 ∧ okt_ tb t' ∧ (nt' = none → ln_ok nms.length x) ∧ (nt' = none → nt = none) ∧ (∃ k, 1 ≤ k ∧ k < 1000 ∧ ln_tk x = nI k) ∧ lo_ tb x lt := by
  unfold pln_ at h
  by_cases c1 : tkk_ tb t = 2 ∨ (20 ≤ tkk_ tb t ∧ tkk_ tb t ≤ 30)
  · rw [if_pos c1] at h
    by_cases c2 : n < 16
    · rw [if_pos c2] at h
      obtain ⟨t1, e1, h⟩ := bd_inr h
      obtain ⟨⟨o, lt', nt1, t2⟩, e2, h⟩ := bd_inr h
      obtain ⟨t3, e3, h⟩ := bd_inr h
      have ht1 : t ≤ t1 ∧ okt_ tb t1 := by
        by_cases c3 : tkk_ tb t = 2
        · rw [if_pos c3] at e1
          obtain ⟨u, u1, u2⟩ := bd_inr e1
          obtain ⟨rfl, k1, l1⟩ := ac_inr u1
          obtain ⟨rfl, k2, l2⟩ := ac_inr u2
          exact ⟨by omega, okt_succ (okt_succ ho (by omega)) (by omega)⟩
        · rw [if_neg c3] at e1
          have := Sum.inr.inj e1
          subst this
          exact ⟨Nat.le_refl _, ho⟩
      obtain ⟨o1, o2, o3, o4, o5, o6, o7, o8, o9⟩ := por_ok ht1.2 e2
      obtain ⟨rfl, k3, l3⟩ := ac_inr e3
      have k3 : tkk_ tb t2 = 4 := k3
      have l3 : t2 < 400 := l3
      have hok2 : okt_ tb t2 := por_okt ht1.2 e2
      have h := Sum.inr.inj h
      simp only [Prod.mk.injEq] at h
      obtain ⟨rfl, rfl, rfl, rfl⟩ := h
      refine ⟨c2, by omega, by omega, okt_succ hok2 (by omega), fun q => ⟨⟨o.1, o1, rfl⟩, o3, o4, o5, o6, fun q2 => ?_⟩, o9, ⟨t2 - t, by omega, by omega, rfl⟩, fun q => o8 ?_⟩
      · have q2 : nI o.1 = nI 8 := q2
        rw [nI_eq (by omega) (by omega)] at q2
        exact o7 q2 q
      · have q : nI o.1 = nI 6 ∨ nI o.1 = nI 7 := q
        rw [nI_eq (by omega) (by omega), nI_eq (by omega) (by omega)] at q
        exact q
    · rw [if_neg c2] at h; cases h
  · rw [if_neg c1] at h; cases h
/-! labels that no line has -/
theorem lm_at {L : List (ln_T × Nat)} {i : Nat} (h : i < L.length) : ln_at (L.map Prod.fst) i = (L.getD i (ln_0, 0)).1 := by
  unfold ln_at
  rw [List.getD_eq_getElem?_getD, List.getD_eq_getElem?_getD, List.getElem?_map, List.getElem?_eq_getElem h]
  rfl
def lbl_ (G : mm_G) (tb : tb_T) (L : List (ln_T × Nat)) : Prop := ∀ i, i < L.length → lo_ tb (L.getD i (ln_0, 0)).1 (L.getD i (ln_0, 0)).2 ∧ (ln_or (L.getD i (ln_0, 0)).1 = nI 6 ∨ ln_or (L.getD i (ln_0, 0)).1 = nI 7 → mg_i G 49 i = nI (tkp_ tb (L.getD i (ln_0, 0)).2))
theorem plb_succ (L : List (ln_T × Nat)) (m : Nat) (nt : Option Nat) : plb_ L (m + 1) nt = plb_ L m (if (ln_or (L.getD (L.length - (m + 1)) (ln_0, 0)).1 = nI 6 ∨ ln_or (L.getD (L.length - (m + 1)) (ln_0, 0)).1 = nI 7) ∧ ru_find (ln_lb (L.getD (L.length - (m + 1)) (ln_0, 0)).1) 0 (L.map Prod.fst) = L.length then nn_ nt (L.getD (L.length - (m + 1)) (ln_0, 0)).2 else nt) := rfl
theorem s_labels {l : Launch} {κ : mm_K} {d : Nat} {G : mm_G} {K : mm_G → Prop} {tb : tb_T} {nt : Option Nat} {t a : Nat} {L : List (ln_T × Nat)} (hT : tg_ tb) (ha : RowAt a) (ha2 : a < 49) (ha3 : 7 < a) (hn : 285 ≤ mg_n G) (hr : ro_ G a (L.map Prod.fst)) (hb : lbl_ G tb L) (hS : cP_ G tb nt t)
    (h : ∀ G', cP_ G' tb (plb_ L L.length nt) t → fr_ fP_ G G' → K G') : mC l κ true (d + 1) 0 0 m_X5_checkLabels [.ref 7, .ref a] G (rV K) := by
  have h16 := hr.2.1
  rw [List.length_map] at h16
  refine e_X5_checkLabels a ha ?_
  suffices H : ∀ m i G1 nt1, i + m = L.length → fr_ fP_ G G1 → cP_ G1 tb nt1 t → plb_ L L.length nt = plb_ L m nt1 → mV l κ true (d + 1) 0 0 m_X5_checkLabels 2 [some (.ref 7), some (.ref a), some (.int (nI i)), none] [] G1 (rV K) from H _ 0 G nt (Nat.zero_add _) fr_.rfl' hS rfl
  intro m
  induction m with
  | zero =>
    intro i G1 nt1 hi f1 c1 e1
    have er : mg_i G1 a 1 = nI L.length := by rw [f1.i _ _ (fP_F (by omega)), hr.1, List.length_map]
    refine p_X5_checkLabels_2 a ha _ ⟨fun _ => h G1 ?_ f1, fun y => absurd (by rw [er]; exact nI_le (by omega) (by omega)) y⟩
    rw [e1]
    exact c1
  | succ m ih =>
    intro i G1 nt1 hi f1 c1 e1
    have hr1 : ro_ G1 a (L.map Prod.fst) := hr.fz f1.fz (by omega) (fP_F (by omega)) (fun k => fP_F (by omega)) (fun u k hu _ => fP_F (by omega))
    have er : mg_i G1 a 1 = nI L.length := by rw [hr1.1, List.length_map]
    obtain ⟨tl, r1, r2, r3, r4⟩ := hr1.2.2 i (by rw [List.length_map]; omega)
    rw [lm_at (by omega)] at r4
    rw [plb_succ, show L.length - (m + 1) = i by omega] at e1
    obtain ⟨lo1, lb1⟩ := hb i (by omega)
    have o1 : mg_i G1 tl 1 = ln_or (L.getD i (ln_0, 0)).1 := by rw [← r4]; rfl
    have hlen : (L.map Prod.fst).length = L.length := List.length_map _
    have hfind : ru_find (ln_lb (L.getD i (ln_0, 0)).1) 0 (L.map Prod.fst) ≤ L.length := by
      have := fa_first_le (fun j => decide (ln_nm (ln_at (L.map Prod.fst) j) = ln_lb (L.getD i (ln_0, 0)).1) && !Nat.testBit 0 j) (L.map Prod.fst).length
      rw [hlen] at this
      unfold ru_find
      rw [hlen]
      exact this
    -- an order that leads on
    have hlead : ln_or (L.getD i (ln_0, 0)).1 = nI 6 ∨ ln_or (L.getD i (ln_0, 0)).1 = nI 7 → mC l κ true d 0 0 m_X6_where [.ref a, .long (mg_l G1 tl 9), .int (nI 0)] G1 (rI (fun r3 G4 => ((0 ≤ r3 → mV l κ true (d + 1) 0 0 m_X5_checkLabels 2 [some (.ref 7), some (.ref a), some (.int (nI i + nI 1)), none] [] G4 (rV K)) ∧ (¬ 0 ≤ r3 → vp_in (nI i) 16 ∧ mC l κ true d 0 0 m_X5_note [.ref 7, .int (nI 4), .int (mg_i G4 49 (nI i).toNatClampNeg)] G4 (rV (fun G6 => mV l κ true (d + 1) 0 0 m_X5_checkLabels 2 [some (.ref 7), some (.ref a), some (.int (nI i + nI 1)), none] [] G6 (rV K))))))) := by
      intro ho
      have l1 : mg_l G1 tl 9 = ln_lb (L.getD i (ln_0, 0)).1 := by
        rw [← o1] at ho
        rw [← r4]
        show _ = if mg_i G1 tl 1 = nI 6 ∨ mg_i G1 tl 1 = nI 7 then mg_l G1 tl 9 else 0
        rw [if_pos ho]
      rw [l1, nI_add, nI_clamp (by omega)]
      refine s_where (lo := 0) _ ha hr1 (by omega) ?_
      rw [hlen]
      by_cases cf : ru_find (ln_lb (L.getD i (ln_0, 0)).1) 0 (L.map Prod.fst) < L.length
      · rw [if_pos cf]
        refine ⟨fun _ => ih (i + 1) G1 nt1 (by omega) f1 c1 ?_, fun y => absurd (nI_pos' (by omega)) y⟩
        rw [e1, if_neg (fun q => by have := q.2; omega)]
      · rw [if_neg cf]
        obtain ⟨p1, p2, p3⟩ := lo1 ho
        have e49 : mg_i G1 49 i = nI (tkp_ tb (L.getD i (ln_0, 0)).2) := by rw [f1.i _ _ (fP_F (by omega))]; exact lb1 ho
        rw [e49]
        refine ⟨fun y => absurd y (by decide), fun _ => ⟨(ki_vp (by omega)).2 (by omega), s_note hT p1 p2 p3 c1 (fun G2 c2 f2 => ih (i + 1) G2 _ (by omega) (f1.trans f2) c2 ?_)⟩⟩
        rw [e1, if_pos ⟨ho, by omega⟩]
    refine p_X5_checkLabels_2 a ha _ ⟨fun y => absurd y (by rw [er]; exact nI_ge (by omega) (by omega)), fun _ => ⟨(ki_vp (by omega)).2 (by omega), tl, by rw [nI_clamp (by omega)]; exact r1, ln_At r2, ?_⟩⟩
    rw [o1]
    refine ⟨fun y => hlead (Or.inl y), fun y => ⟨fun z => ?_, fun z => hlead (Or.inr z)⟩⟩
    rw [nI_add]
    refine ih (i + 1) G1 nt1 (by omega) f1 c1 ?_
    rw [e1, if_neg (fun q => q.1.elim y z)]
/-! a row -/
def fRw_ (j c k : Nat) : Bool := decide (c = 7) || decide (c = 49) || (decide (c = 8) && decide (k = 1)) || (decide (c = 12 + 2 * j) && (decide (k = 1) || decide (k = 3))) || decide (c = 13 + 2 * j)
theorem fRw_iff {j c k : Nat} : fRw_ j c k = false ↔ (c ≠ 7 ∧ c ≠ 49 ∧ (c ≠ 8 ∨ k ≠ 1) ∧ (c ≠ 12 + 2 * j ∨ (k ≠ 1 ∧ k ≠ 3)) ∧ c ≠ 13 + 2 * j) := by
  unfold fRw_
  simp only [Bool.or_eq_false_iff, Bool.and_eq_false_iff, decide_eq_false_iff_not]
  exact ⟨fun h => ⟨h.1.1.1.1, h.1.1.1.2, h.1.1.2, h.1.2, h.2⟩, fun h => ⟨⟨⟨⟨h.1, h.2.1⟩, h.2.2.1⟩, h.2.2.2.1⟩, h.2.2.2.2⟩⟩
theorem fr_.PRw {j : Nat} {G G1 : mm_G} (h : fr_ fP_ G G1) : fr_ (fRw_ j) G G1 := h.mono (fun c k z => by
  have := fRw_iff.1 z
  exact fP_F (by omega))
theorem rdr_row {j : Nat} (h : j < 4) : RowAt (12 + 2 * j) := mm_rowP (mm_rows _ (by
  have : j = 0 ∨ j = 1 ∨ j = 2 ∨ j = 3 := by omega
  rcases this with rfl | rfl | rfl | rfl <;> decide))
