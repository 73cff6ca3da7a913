/-! reading: the component's trials -/
def fnu_ (a c _k : Nat) : Bool := decide (c = 7) || decide (c = a)
theorem fnu_F {a c k : Nat} (h : c ≠ 7 ∧ c ≠ a) : fnu_ a c k = false := by
  unfold fnu_
  rw [decide_eq_false h.1, decide_eq_false h.2]
  rfl
theorem fr_.f7u {a : Nat} {G G1 : mm_G} (h : fr_ f7c_ G G1) : fr_ (fnu_ a) G G1 := h.mono (fun c k z => by
  unfold fnu_ at z
  exact (Bool.or_eq_false_iff.1 z).1)
theorem i_lt {xs : List Int32} {x : Int32} {i : Nat} (h : i < xs.length) : (xs ++ [x]).getD i (nI 0) = xs.getD i (nI 0) := by
  rw [List.getD_eq_getElem?_getD, List.getD_eq_getElem?_getD, List.getElem?_append_left h]
theorem i_eq {xs : List Int32} {x : Int32} : (xs ++ [x]).getD xs.length (nI 0) = x := by
  rw [List.getD_eq_getElem?_getD, List.getElem?_append_right (Nat.le_refl _), Nat.sub_self]
  rfl
theorem cF_ne {G : mm_G} {tb : tb_T} {e : Nat × Nat} (h : cF_ G tb e) : ¬ mg_i G 7 2 = 0 := by
  rw [h.2.2.1]
  rcases h.1 with q | q
  · rw [q]; decide
  · rw [q]; decide
theorem s_numbers {l : Launch} {κ : mm_K} {d : Nat} {G : mm_G} {K : Int32 → mm_G → Prop} {tb : tb_T} {nt : Option Nat} {t a N : Nat} (hT : tg_ tb) (ha : mm_sh a = (1, 0, N)) (hN : N ≤ 8) (ha2 : 20 < a ∧ a < 49) (hS : cP_ G tb nt t)
    (h1 : ∀ G' xs t', pnm_ tb N (N + 1) [] t = .inr (xs, t') → cP_ G' tb nt t' → t ≤ t' → xs.length ≤ N → (∀ j, j < xs.length → mg_i G' a j = xs.getD j (nI 0)) → fr_ (fnu_ a) G G' → K (nI xs.length) G')
    (h0 : ∀ G' e q, q ≤ 8 → pnm_ tb N (N + 1) [] t = .inl e → cF_ G' tb e → fr_ (fnu_ a) G G' → K (nI q) G') : mC l κ true (d + 2) 0 0 m_X5_numbersTold [.ref 7, .ref a] G (rI K) := by
  refine e_X5_numbersTold a N ha ?_
  have hbad : ∀ G2 e (v2 : Nat) (v3 : Int32), v2 ≤ 8 → pnm_ tb N (N + 1) [] t = .inl e → cF_ G2 tb e → fr_ (fnu_ a) G G2 → mV l κ true (d + 2) 0 0 m_X5_numbersTold 4 [some (.ref 7), some (.ref a), some (.int (nI v2)), some (.int v3)] [] G2 (rI K) := by
    intro G2 e v2 v3 hv e2 c2 f2
    have hK := h0 G2 e v2 hv e2 c2 f2
    exact p_X5_numbersTold_4 a N ha _ _ ⟨fun _ => hK, fun _ => ⟨fun _ => hK, fun y => absurd y (cF_ne c2)⟩⟩
  suffices H : ∀ m xs t1 G1, xs.length + m = N + 1 → pnm_ tb N (N + 1) [] t = pnm_ tb N m xs t1 → xs.length ≤ N → t ≤ t1 → cP_ G1 tb nt t1 → (∀ j, j < xs.length → mg_i G1 a j = xs.getD j (nI 0)) → fr_ (fnu_ a) G G1 → mV l κ true (d + 2) 0 0 m_X5_numbersTold 4 [some (.ref 7), some (.ref a), some (.int (nI xs.length)), some (.int (nI xs.length))] [] G1 (rI K) from
    H _ [] t G (Nat.zero_add _) rfl (Nat.zero_le _) (Nat.le_refl _) hS (fun j hj => absurd hj (Nat.not_lt_zero j)) fr_.rfl'
  intro m
  induction m with
  | zero => intro xs t1 G1 hm _ hl; omega
  | succ m ih =>
    intro xs t1 G1 hm e1 hl ht1 c1 b1 f1
    obtain ⟨a3, a1, q1, q2, q3⟩ := c1.rd
    have hkd := (hT.1 t1 a1 c1.2.1).1
    have e1' : pnm_ tb N (N + 1) [] t = if tkk_ tb t1 = 3 ∨ tkk_ tb t1 = 8 then (if xs.length < N then bd_ (nu_ tb t1) (fun p => pnm_ tb N m (xs ++ [p.1]) p.2) else .inl (2, t1)) else .inr (xs, t1) := e1
    refine p_X5_numbersTold_4 a N ha _ _ ?_
    rw [nI_ltI (by omega) (by omega), c1.2.2.2.1, a3, nI_clamp (by omega), q1, nI_ltI (by omega) (by omega), nI_add]
    refine ⟨fun y => by omega, fun _ => ⟨fun y => absurd (by decide) y, fun _ => ⟨(ki_vp (by omega)).2 (by omega), e_X5_isNumber _ ?_⟩⟩⟩
    rw [nI_eq (by omega) (by omega), nI_eq (by omega) (by omega)]
    have hnum : tkk_ tb t1 = 3 ∨ tkk_ tb t1 = 8 → ((xs.length < N → mC l κ true (d + 1) 0 0 m_X5_numberTold [.ref 7] G1 (rI (fun r3 G4 => ((r3 = 0 → mV l κ true (d + 2) 0 0 m_X5_numbersTold 4 [some (.ref 7), some (.ref a), some (.int (nI xs.length)), some (.int (nI (xs.length + 1)))] [] G4 (rI K)) ∧ (¬ r3 = 0 → vp_in (nI xs.length) N ∧ mV l κ true (d + 2) 0 0 m_X5_numbersTold 4 [some (.ref 7), some (.ref a), some (.int (nI (xs.length + 1))), some (.int (nI (xs.length + 1)))] [] (ms_i G4 a (nI xs.length).toNatClampNeg (mg_i G4 7 7)) (rI K)))))) ∧ (¬ xs.length < N → mV l κ true (d + 2) 0 0 m_X5_numbersTold 4 [some (.ref 7), some (.ref a), some (.int (nI xs.length)), some (.int (nI (xs.length + 1)))] [] (ms_i G1 7 2 (nI 2)) (rI K))) := by
      intro hk
      rw [if_pos hk] at e1'
      refine ⟨fun hlt => ?_, fun hlt => ?_⟩
      · rw [if_pos hlt] at e1'
        refine s_number hT c1 (fun G4 x t' e4 c4 lt4 v4 f4 => ⟨fun y => absurd y (by decide), fun _ => ⟨(ki_vp (by omega)).2 (by omega), ?_⟩⟩) (fun G4 e e4 c4 f4 => ⟨fun _ => hbad G4 e _ _ (by omega) (by rw [e1', bd_l _ e4]) c4 (f1.trans f4.f7u), fun y => absurd (by decide) y⟩)
        rw [nI_clamp (by omega), v4]
        have el : (xs ++ [x]).length = xs.length + 1 := List.length_append
        have hh := ih (xs ++ [x]) t' (ms_i G4 a xs.length x) (by omega) (by rw [e1', bd_r _ e4]) (by omega) (by omega) (c4.fr (S := fun c _ => decide (c = a)) (fr_.rfl'.si (decide_eq_true rfl)) (fun c k q => decide_eq_false (by omega))) (fun j hj => ?_) ((f1.trans f4.f7u).si (by unfold fnu_; simp))
        · rw [el] at hh; exact hh
        · rw [el] at hj
          rw [mg_i_i]
          by_cases cj : j = xs.length
          · rw [if_pos ⟨rfl, cj⟩, cj, i_eq]
          · rw [if_neg (fun q => cj q.2), i_lt (by omega), f4.i _ _ (f7c_F (by omega))]
            exact b1 j (by omega)
      · rw [if_neg hlt] at e1'
        exact hbad _ (2, t1) _ _ (by omega) e1' (c1.fail (Or.inr rfl)) (f1.si (by unfold fnu_; simp))
    have hnot : ¬ (tkk_ tb t1 = 3 ∨ tkk_ tb t1 = 8) → K (nI xs.length) G1 := fun hk => by
      rw [if_neg hk] at e1'
      exact h1 G1 xs t1 e1' c1 ht1 hl b1 f1
    exact ⟨fun y => ⟨fun z => absurd z (by decide), fun _ => hnum (Or.inr y)⟩, fun y => ⟨fun z => ⟨fun _ => hnot (by omega), fun w => absurd (by decide) w⟩, fun z => ⟨fun w => absurd w (by decide), fun _ => hnum (Or.inl z)⟩⟩⟩
def gz_ (G : mm_G) : Prop := ∀ k, k < 8 → ∃ n, n ≤ 8 ∧ mg_i G (33 + 2 * k) 1 = nI n
def tri_ (G : mm_G) (k : Nat) (x : List Int32 × Option (List Int32)) : Prop := mg_i G 30 k = nI x.1.length ∧ (∀ j, j < x.1.length → mg_i G (22 + k) j = x.1.getD j (nI 0)) ∧ (x.2 = none → mg_i G 32 k = nI 0) ∧ ∀ g, x.2 = some g → mg_i G 32 k = nI 1 ∧ cd_ G (33 + 2 * k) g ∧ mg_i G (33 + 2 * k) 2 = nI 0
def cTr_ (G : mm_G) (tr : tx_T) : Prop := mg_i G 20 4 = nI tr.length ∧ tr.length ≤ 8 ∧ ∀ k, k < tr.length → tri_ G k (tr.getD k ([], none)) ∧ (tr.getD k ([], none)).1.length ≤ 6
def ftr_ (k c q : Nat) : Bool := decide (c = 7) || (decide (c = 20) && decide (q = 4)) || (decide (c = 30) && decide (q = k)) || (decide (c = 32) && decide (q = k)) || decide (c = 22 + k) || decide (c = 33 + 2 * k) || decide (c = 34 + 2 * k)
theorem ftr_iff {k c q : Nat} : ftr_ k c q = false ↔ (c ≠ 7 ∧ (c ≠ 20 ∨ q ≠ 4) ∧ (c ≠ 30 ∨ q ≠ k) ∧ (c ≠ 32 ∨ q ≠ k) ∧ c ≠ 22 + k ∧ c ≠ 33 + 2 * k ∧ c ≠ 34 + 2 * k) := by
  unfold ftr_
  simp only [Bool.or_eq_false_iff, Bool.and_eq_false_iff, decide_eq_false_iff_not]
  exact ⟨fun h => ⟨h.1.1.1.1.1.1, h.1.1.1.1.1.2, h.1.1.1.1.2, h.1.1.1.2, h.1.1.2, h.1.2, h.2⟩, fun h => ⟨⟨⟨⟨⟨⟨h.1, h.2.1⟩, h.2.2.1⟩, h.2.2.2.1⟩, h.2.2.2.2.1⟩, h.2.2.2.2.2.1⟩, h.2.2.2.2.2.2⟩⟩
theorem fr_.Ptr {k : Nat} {G G1 : mm_G} (h : fr_ fP_ G G1) : fr_ (ftr_ k) G G1 := h.mono (fun c q z => by
  have := ftr_iff.1 z
  exact fP_F (by omega))
theorem fr_.utr {k a : Nat} {G G1 : mm_G} (h : fr_ (fnu_ a) G G1) (ha : a = 22 + k ∨ a = 34 + 2 * k) : fr_ (ftr_ k) G G1 := h.mono (fun c q z => by
  have := ftr_iff.1 z
  exact fnu_F (by omega))
theorem tri_.fr {S : Nat → Nat → Bool} {G G1 : mm_G} {i : Nat} {x : List Int32 × Option (List Int32)} (h : tri_ G i x) (hf : fr_ S G G1) (hS : ∀ c q, (c = 30 ∧ q = i) ∨ (c = 32 ∧ q = i) ∨ c = 22 + i ∨ c = 33 + 2 * i ∨ c = 34 + 2 * i → S c q = false) : tri_ G1 i x := by
  obtain ⟨a1, a2, a3, a4⟩ := h
  refine ⟨by rw [hf.i _ _ (hS _ _ (by omega))]; exact a1, fun j hj => by rw [hf.i _ _ (hS _ _ (by omega))]; exact a2 j hj, fun q => by rw [hf.i _ _ (hS _ _ (by omega))]; exact a3 q, fun g q => ?_⟩
  obtain ⟨b1, ⟨b2, b3, b4⟩, b5⟩ := a4 g q
  exact ⟨by rw [hf.i _ _ (hS _ _ (by omega))]; exact b1, ⟨by rw [hf.i _ _ (hS _ _ (by omega))]; exact b2, b3, fun j hj => by rw [hf.i _ _ (hS _ _ (by omega))]; exact b4 j hj⟩, by rw [hf.i _ _ (hS _ _ (by omega))]; exact b5⟩
theorem tx_app {tr : tx_T} {y : List Int32 × Option (List Int32)} {i : Nat} (h : i < tr.length) : (tr ++ [y]).getD i ([], none) = tr.getD i ([], none) := by
  rw [List.getD_eq_getElem?_getD, List.getD_eq_getElem?_getD, List.getElem?_append_left h]
theorem tx_end {tr : tx_T} {y : List Int32 × Option (List Int32)} : (tr ++ [y]).getD tr.length ([], none) = y := by
  rw [List.getD_eq_getElem?_getD, List.getElem?_append_right (Nat.le_refl _), Nat.sub_self]
  rfl
theorem s_trial {l : Launch} {κ : mm_K} {d : Nat} {G : mm_G} {K : Int32 → mm_G → Prop} {tb : tb_T} {nt : Option Nat} {t : Nat} {tr : tx_T} (hT : tg_ tb) (hC : cTr_ G tr) (htr : tr.length < 8) (hgz : gz_ G) (hS : cP_ G tb nt t)
    (h1 : ∀ G' x t', ptr_ tb t = .inr (x, t') → cP_ G' tb nt t' → t < t' → cTr_ G' (tr ++ [x]) → fr_ (ftr_ tr.length) G G' → gz_ G' → K (nI 1) G')
    (h0 : ∀ G' e, ptr_ tb t = .inl e → cF_ G' tb e → fr_ (ftr_ tr.length) G G' → gz_ G' → K (nI 0) G') : mC l κ true (d + 3) 0 0 m_X5_trialTold [.ref 7] G (rI K) := by
  have nar0 : vp_nar .boolean (nI 0) = nI 0 := by decide +kernel
  have nar1 : vp_nar .boolean (nI 1) = nI 1 := by decide +kernel
  have hD : DeedAt (33 + 2 * tr.length) := mm_deedP (mm_deed0 _ htr).1
  have cPq : ∀ {G1 : mm_G} {u c q : Nat} {v : Int32}, 20 ≤ c → cP_ G1 tb nt u → cP_ (ms_i G1 c q v) tb nt u := fun hc h => h.fr (S := fun c' _ => decide (c' = _)) (fr_.rfl'.si (decide_eq_true rfl)) (fun c k q => decide_eq_false (by omega))
  have cFq : ∀ {G1 : mm_G} {e : Nat × Nat} {c q : Nat} {v : Int32}, 20 ≤ c → cF_ G1 tb e → cF_ (ms_i G1 c q v) tb e := fun hc h => h.fr (S := fun c' _ => decide (c' = _)) (fr_.rfl'.si (decide_eq_true rfl)) (fun c k q => decide_eq_false (by omega))
  have gzk : ∀ {G' : mm_G} (q : Nat), q ≤ 8 → mg_i G' (33 + 2 * tr.length) 1 = nI q → fr_ (ftr_ tr.length) G G' → gz_ G' := fun {G'} q hq e f k hk => by
    by_cases c : k = tr.length
    · rw [c]; exact ⟨q, hq, e⟩
    · obtain ⟨n, n8, en⟩ := hgz k hk
      exact ⟨n, n8, by rw [f.i _ _ (ftr_iff.2 (by omega))]; exact en⟩
  obtain ⟨n0, n08, g0⟩ := hgz tr.length htr
  refine e_X5_trialTold ?_
  rw [hC.1, nI_ltI (by omega) (by omega), nI_clamp (by omega), nar0, nar1]
  refine ⟨fun _ => ⟨(ki_vp (by omega)).2 (by omega), ?_⟩, fun y => by omega⟩
  have F1 : fr_ (ftr_ tr.length) G (ms_i G 32 tr.length (nI 0)) := fr_.rfl'.si (by unfold ftr_; simp)
  refine s_accept hT (by omega) (by omega) (cPq (by omega) hS) (fun G2 e2 k2 c2 f2 => ⟨fun _ => ⟨(ki_vp (by omega)).2 (by omega), ?_⟩, fun y => absurd y (by decide)⟩) (fun G2 e e2 c2 f2 => ⟨fun y => absurd (by decide) y, fun _ => h0 G2 e (by unfold ptr_; rw [bd_l _ e2]) c2 (F1.trans f2.Ptr) (gzk n0 n08 (by rw [f2.i _ _ (fP_F (by omega)), mg_i_i, if_neg (by omega)]; exact g0) (F1.trans f2.Ptr))⟩)
  have F2 := F1.trans (f2.Ptr (k := tr.length))
  refine s_numbers (d := d) hT (mm_num0 _ htr).1 (by omega) (by omega) c2 (fun G5 xs t5 e5 c5 lt5 l5 b5 f5 => ?_) (fun G5 e n hn5 e5 c5 f5 => ?_)
  · have g5 : mg_i G5 (33 + 2 * tr.length) 1 = nI n0 := by rw [f5.i _ _ (fnu_F (by omega)), f2.i _ _ (fP_F (by omega)), mg_i_i, if_neg (by omega)]; exact g0
    have F5 := F2.trans (f5.utr (k := tr.length) (Or.inl rfl))
    have i20 : mg_i G5 20 4 = nI tr.length := by rw [f5.i _ _ (fnu_F (by omega)), f2.i _ _ (fP_F (by omega)), mg_i_i, if_neg (by omega)]; exact hC.1
    have i32 : mg_i G5 32 tr.length = nI 0 := by rw [f5.i _ _ (fnu_F (by omega)), f2.i _ _ (fP_F (by omega)), mg_i_i, if_pos ⟨rfl, rfl⟩]
    obtain ⟨a3, a1, q1, q2, q3⟩ := c5.rd
    have hkd := (hT.1 t5 a1 c5.2.1).1
    rw [c5.2.2.2.1, i20, a3, nI_clamp (by omega), q1, nI_eq (by omega) (by omega), nI_add]
    refine ⟨(ki_vp (by omega)).2 (by omega), fun y => absurd (by decide) y, fun _ => ⟨(ki_vp (by omega)).2 (by omega), fun y => ⟨fun z => absurd (by decide) z, fun _ => ?_⟩, fun y => ?_⟩⟩
    · -- no table
      have F6 : fr_ (ftr_ tr.length) G (ms_i (ms_i G5 30 tr.length (nI xs.length)) 20 4 (nI (tr.length + 1))) := (F5.si (by unfold ftr_; simp)).si (by unfold ftr_; simp)
      have ep : ptr_ tb t = bd_ (ac_ tb 4 t5) (fun t6 => .inr ((xs, none), t6)) := by
        unfold ptr_
        rw [bd_r _ e2, bd_r _ e5, if_neg y]
        rfl
      refine s_accept hT (by omega) (by omega) (cPq (by omega) (cPq (by omega) c5)) (fun G7 e7 k7 c7 f7 => ⟨fun z => absurd z (by decide), fun _ => ?_⟩) (fun G7 e e7 c7 f7 => ⟨fun _ => h0 G7 e (by rw [ep, bd_l _ e7]) c7 (F6.trans f7.Ptr) (gzk n0 n08 (by rw [f7.i _ _ (fP_F (by omega)), mg_i_i, if_neg (by omega), mg_i_i, if_neg (by omega)]; exact g5) (F6.trans f7.Ptr)), fun z => absurd (by decide) z⟩)
      have F7 := F6.trans (f7.Ptr (k := tr.length))
      have el : (tr ++ [(xs, none)]).length = tr.length + 1 := List.length_append
      refine h1 G7 (xs, none) _ (by rw [ep, bd_r _ e7]) c7 (by omega) ⟨?_, by omega, fun i hi => ?_⟩ F7 (gzk n0 n08 (by rw [f7.i _ _ (fP_F (by omega)), mg_i_i, if_neg (by omega), mg_i_i, if_neg (by omega)]; exact g5) F7)
      · rw [f7.i _ _ (fP_F (by omega)), mg_i_i, if_pos ⟨rfl, rfl⟩, el]
      · rw [el] at hi
        by_cases ci : i = tr.length
        · rw [ci, tx_end]
          refine ⟨⟨?_, fun j hj => ?_, fun _ => ?_, fun g q => (by cases q)⟩, l5⟩
          · rw [f7.i _ _ (fP_F (by omega)), mg_i_i, if_neg (by omega), mg_i_i, if_pos ⟨rfl, rfl⟩]
          · rw [f7.i _ _ (fP_F (by omega)), mg_i_i, if_neg (by omega), mg_i_i, if_neg (by omega)]
            exact b5 j hj
          · rw [f7.i _ _ (fP_F (by omega)), mg_i_i, if_neg (by omega), mg_i_i, if_neg (by omega)]
            exact i32
        · rw [tx_app (by omega)]
          exact ⟨((hC.2.2 i (by omega)).1).fr F7 (fun c q z => ftr_iff.2 (by omega)), (hC.2.2 i (by omega)).2⟩
    · -- a table
      have F6 : fr_ (ftr_ tr.length) G (ms_i G5 30 tr.length (nI xs.length)) := F5.si (by unfold ftr_; simp)
      refine s_accept hT (by omega) (by omega) (cPq (by omega) c5) (fun G11 e11 k11 c11 f11 => ⟨fun z => absurd z (by decide), fun _ => ⟨(ki_vp (by omega)).2 (by omega), (ki_vp (by omega)).2 (by omega), e_X0_begin _ hD ⟨(ki_vp (by omega)).2 (by omega), (ki_vp (by omega)).2 (by omega), ?_⟩⟩⟩) (fun G11 e e11 c11 f11 => ⟨fun _ => ⟨fun _ => h0 _ e (by unfold ptr_; rw [bd_r _ e2, bd_r _ e5, if_pos y, bd_l _ (bd_l _ e11)]) (cFq (by omega) c11) ((F6.trans f11.Ptr).si (by unfold ftr_; simp)) (gzk n0 n08 (by rw [mg_i_i, if_neg (by omega), f11.i _ _ (fP_F (by omega)), mg_i_i, if_neg (by omega)]; exact g5) ((F6.trans f11.Ptr).si (by unfold ftr_; simp))), fun z => absurd z (cF_ne c11)⟩, fun z => absurd (by decide) z⟩)
      have F11 := F6.trans (f11.Ptr (k := tr.length))
      have F16 : fr_ (ftr_ tr.length) G (ms_i (ms_i (ms_i (ms_i G11 32 tr.length (nI 1)) (33 + 2 * tr.length) 1 (nI 0)) (33 + 2 * tr.length) 2 (nI 0)) (33 + 2 * tr.length) 3 (nI 0)) := (((F11.si (by unfold ftr_; simp)).si (by unfold ftr_; simp)).si (by unfold ftr_; simp)).si (by unfold ftr_; simp)
      have c16 : cP_ (ms_i (ms_i (ms_i (ms_i G11 32 tr.length (nI 1)) (33 + 2 * tr.length) 1 (nI 0)) (33 + 2 * tr.length) 2 (nI 0)) (33 + 2 * tr.length) 3 (nI 0)) tb nt (t5 + 1) := cPq (by omega) (cPq (by omega) (cPq (by omega) (cPq (by omega) c11)))
      refine s_numbers (d := d) hT hD.2.1 (by omega) (by omega) c16 (fun G20 ys t20 e20 c20 lt20 l20 b20 f20 => ?_) (fun G20 e n hn20 e20 c20 f20 => ?_)
      · have F20 := F16.trans (f20.utr (k := tr.length) (Or.inr (by omega)))
        have k20 : ∀ c q, c ≠ 33 + 2 * tr.length → c ≠ 34 + 2 * tr.length → c ≠ 32 → c ≠ 7 → mg_i G20 c q = mg_i G11 c q := fun c q z1 z2 z3 z4 => by
          rw [f20.i _ _ (fnu_F (by omega)), mg_i_i, if_neg (by omega), mg_i_i, if_neg (by omega), mg_i_i, if_neg (by omega), mg_i_i, if_neg (by omega)]
        have j20 : mg_i (ms_i G20 (33 + 2 * tr.length) 1 (nI ys.length)) 20 4 = nI tr.length := by
          rw [mg_i_i, if_neg (by omega), k20 20 4 (by omega) (by omega) (by omega) (by omega), f11.i _ _ (fP_F (by omega)), mg_i_i, if_neg (by omega)]
          exact i20
        have jf : mg_i (ms_i G20 (33 + 2 * tr.length) 1 (nI ys.length)) 7 2 = nI 0 := by
          rw [mg_i_i, if_neg (by omega)]
          exact c20.2.2.2.1
        rw [jf, j20, nI_add]
        refine ⟨fun z => absurd (by decide) z, fun _ => ?_⟩
        have F21 : fr_ (ftr_ tr.length) G (ms_i (ms_i G20 (33 + 2 * tr.length) 1 (nI ys.length)) 20 4 (nI (tr.length + 1))) := (F20.si (by unfold ftr_; simp)).si (by unfold ftr_; simp)
        have ep : ptr_ tb t = bd_ (ac_ tb 4 t20) (fun t6 => .inr ((xs, some ys), t6)) := by
          unfold ptr_
          rw [bd_r _ e2, bd_r _ e5, if_pos y, bd_r _ e11, bd_r _ e20]
          rfl
        refine s_accept hT (by omega) (by omega) (cPq (by omega) (cPq (by omega) c20)) (fun G7 e7 k7 c7 f7 => ⟨fun z => absurd z (by decide), fun _ => ?_⟩) (fun G7 e e7 c7 f7 => ⟨fun _ => h0 G7 e (by rw [ep, bd_l _ e7]) c7 (F21.trans f7.Ptr) (gzk ys.length l20 (by rw [f7.i _ _ (fP_F (by omega)), mg_i_i, if_neg (by omega), mg_i_i, if_pos ⟨rfl, rfl⟩]) (F21.trans f7.Ptr)), fun z => absurd (by decide) z⟩)
        have F7 := F21.trans (f7.Ptr (k := tr.length))
        have el : (tr ++ [(xs, some ys)]).length = tr.length + 1 := List.length_append
        refine h1 G7 (xs, some ys) _ (by rw [ep, bd_r _ e7]) c7 (by omega) ⟨?_, by omega, fun i hi => ?_⟩ F7 (gzk ys.length l20 (by rw [f7.i _ _ (fP_F (by omega)), mg_i_i, if_neg (by omega), mg_i_i, if_pos ⟨rfl, rfl⟩]) F7)
        · rw [f7.i _ _ (fP_F (by omega)), mg_i_i, if_pos ⟨rfl, rfl⟩, el]
        · rw [el] at hi
          by_cases ci : i = tr.length
          · rw [ci, tx_end]
            refine ⟨⟨?_, fun j hj => ?_, fun q => (by cases q), fun g q => ?_⟩, l5⟩
            · rw [f7.i _ _ (fP_F (by omega)), mg_i_i, if_neg (by omega), mg_i_i, if_neg (by omega), k20 30 _ (by omega) (by omega) (by omega) (by omega), f11.i _ _ (fP_F (by omega)), mg_i_i, if_pos ⟨rfl, rfl⟩]
            · rw [f7.i _ _ (fP_F (by omega)), mg_i_i, if_neg (by omega), mg_i_i, if_neg (by omega), k20 (22 + tr.length) _ (by omega) (by omega) (by omega) (by omega), f11.i _ _ (fP_F (by omega)), mg_i_i, if_neg (by omega)]
              exact b5 j hj
            · cases q
              refine ⟨?_, ⟨?_, l20, fun j hj => ?_⟩, ?_⟩
              · rw [f7.i _ _ (fP_F (by omega)), mg_i_i, if_neg (by omega), mg_i_i, if_neg (by omega), f20.i _ _ (fnu_F (by omega)), mg_i_i, if_neg (by omega), mg_i_i, if_neg (by omega), mg_i_i, if_neg (by omega), mg_i_i, if_pos ⟨rfl, rfl⟩]
              · rw [f7.i _ _ (fP_F (by omega)), mg_i_i, if_neg (by omega), mg_i_i, if_pos ⟨rfl, rfl⟩]
              · rw [f7.i _ _ (fP_F (by omega)), mg_i_i, if_neg (by omega), mg_i_i, if_neg (by omega)]
                exact b20 j hj
              · rw [f7.i _ _ (fP_F (by omega)), mg_i_i, if_neg (by omega), mg_i_i, if_neg (by omega), f20.i _ _ (fnu_F (by omega)), mg_i_i, if_neg (by omega), mg_i_i, if_pos ⟨rfl, rfl⟩]
          · rw [tx_app (by omega)]
            exact ⟨((hC.2.2 i (by omega)).1).fr F7 (fun c q z => ftr_iff.2 (by omega)), (hC.2.2 i (by omega)).2⟩
      · have F20 := F16.trans (f20.utr (k := tr.length) (Or.inr (by omega)))
        have hne : ¬ mg_i (ms_i G20 (33 + 2 * tr.length) 1 (nI n)) 7 2 = 0 := cF_ne (cFq (by omega) c20)
        exact ⟨fun _ => h0 _ e (by unfold ptr_; rw [bd_r _ e2, bd_r _ e5, if_pos y, bd_r _ e11, bd_l _ (bd_l _ e20)]) (cFq (by omega) (cFq (by omega) c20)) ((F20.si (by unfold ftr_; simp)).si (by unfold ftr_; simp)) (gzk n hn20 (by rw [mg_i_i, if_neg (by omega), mg_i_i, if_pos ⟨rfl, rfl⟩]) ((F20.si (by unfold ftr_; simp)).si (by unfold ftr_; simp))), fun z => absurd z hne⟩
  · have F5 := F2.trans (f5.utr (k := tr.length) (Or.inl rfl))
    exact ⟨(ki_vp (by omega)).2 (by omega), fun _ => ⟨fun _ => h0 _ e (by unfold ptr_; rw [bd_r _ e2, bd_l _ e5]) (cFq (by omega) (cFq (by omega) c5)) ((F5.si (by unfold ftr_; simp)).si (by unfold ftr_; simp)) (gzk n0 n08 (by rw [mg_i_i, if_neg (by omega), mg_i_i, if_neg (by omega), f5.i _ _ (fnu_F (by omega)), f2.i _ _ (fP_F (by omega)), mg_i_i, if_neg (by omega)]; exact g0) ((F5.si (by unfold ftr_; simp)).si (by unfold ftr_; simp))), fun z => absurd z (cF_ne c5)⟩, fun z => absurd z (cF_ne c5)⟩
theorem s_fuel {l : Launch} {κ : mm_K} {d : Nat} {G : mm_G} {K : Int32 → mm_G → Prop} {tb : tb_T} {nt : Option Nat} {t : Nat} (hT : tg_ tb) (hS : cP_ G tb nt t)
    (h1 : ∀ G' fu nt' t', pfu_ tb nt t = .inr (fu, nt', t') → cP_ G' tb nt' t' → t < t' → (nt' = none → nt = none ∧ fu ≤ 300 ∧ mg_i G' 20 5 = nI fu) → fr_ (fun c k => decide (c = 7) || (decide (c = 20) && decide (k = 5))) G G' → K (nI 1) G')
    (h0 : ∀ G' e, pfu_ tb nt t = .inl e → cF_ G' tb e → fr_ (fun c k => decide (c = 7) || (decide (c = 20) && decide (k = 5))) G G' → K (nI 0) G') : mC l κ true (d + 1) 0 0 m_X5_fuelTold [.ref 7] G (rI K) := by
  have fPf : ∀ {G1 G2 : mm_G}, fr_ fP_ G1 G2 → fr_ (fun c k => decide (c = 7) || (decide (c = 20) && decide (k = 5))) G1 G2 := fun h => h.mono (fun c k z => fP_F (Or.inl (of_decide_eq_false (Bool.or_eq_false_iff.1 z).1)))
  refine e_X5_fuelTold (s_accept hT (by omega) (by omega) hS (fun G2 e2 k2 c2 f2 => ⟨fun _ => ?_, fun y => absurd y (by decide)⟩) (fun G2 e e2 c2 f2 => ⟨fun y => absurd (by decide) y, fun _ => h0 G2 e (by unfold pfu_; rw [bd_l _ e2]) c2 (fPf f2)⟩))
  obtain ⟨a3, a1, q1, q2, q3⟩ := c2.rd
  rw [a3, nI_clamp (by omega), q2]
  refine ⟨(ki_vp (by omega)).2 (by omega), (ki_vp (by omega)).2 (by omega), ?_⟩
  refine s_accept hT (by omega) (by omega) c2 (fun G4 e4 k4 c4 f4 => ⟨fun y => absurd y (by decide), fun _ => ?_⟩) (fun G4 e e4 c4 f4 => ⟨fun _ => h0 G4 e (by unfold pfu_; rw [bd_r _ e2, bd_l _ e4]) c4 ((fPf f2).trans (fPf f4)), fun y => absurd (by decide) y⟩)
  have hv := (hT.1 (t + 1) a1 c2.2.1).2.2.1 k4
  rw [q3 (Or.inr k4), lN_i32, nI_ltI (by omega) (by omega), nI_leI (by omega) (by omega)]
  refine s_accept hT (by omega) (by omega) c4 (fun G6 e6 k6 c6 f6 => ⟨fun _ => ?_, fun y => absurd y (by decide)⟩) (fun G6 e e6 c6 f6 => ⟨fun y => absurd (by decide) y, fun _ => h0 G6 e (by unfold pfu_; rw [bd_r _ e2, bd_r _ e4, bd_l _ e6]) c6 (((fPf f2).trans (fPf f4)).trans (fPf f6))⟩)
  have F6 := ((fPf f2).trans (fPf f4)).trans (fPf f6)
  have hnote : ¬ (1 ≤ tkv_ tb (t + 1) ∧ tkv_ tb (t + 1) ≤ 300) → mC l κ true d 0 0 m_X5_note [.ref 7, .int (nI 5), .int (nI (tkp_ tb (t + 1)))] G6 (rV (fun G8 => K (nI 1) G8)) := fun hb => s_note hT a1 c2.2.1 (by unfold kf_; rw [if_pos k4]) c6 (fun G8 c8 f8 => h1 G8 _ _ _ (by unfold pfu_; rw [bd_r _ e2, bd_r _ e4, bd_r _ e6, if_neg hb]) c8 (by omega) (fun q => absurd q nn_none) (F6.trans (fPf f8)))
  refine ⟨fun y => hnote (by omega), fun y => ⟨fun z => ?_, fun z => hnote (by omega)⟩⟩
  refine h1 _ _ _ _ (by unfold pfu_; rw [bd_r _ e2, bd_r _ e4, bd_r _ e6, if_pos (by omega)]) (c6.fr (S := fun c _ => decide (c = 20)) (fr_.rfl'.si (decide_eq_true rfl)) (fun c k q => decide_eq_false (by omega))) (by omega) (fun q => ⟨q, z, by rw [mg_i_i, if_pos ⟨rfl, rfl⟩]⟩) (F6.si (by simp))
