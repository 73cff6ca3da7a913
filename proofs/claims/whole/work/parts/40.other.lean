/-! is a row's deed another one -/
theorem an_0 {m lo : Nat} (h : m &&& lo = 0) (i : Nat) (hm : m.testBit i = true) : lo.testBit i = false := by
  have := congrArg (fun x => Nat.testBit x i) h
  simp only [Nat.testBit_and, Nat.zero_testBit, hm, Bool.true_and] at this
  exact this
theorem od_lost {p : px_T} {t : tx_T} {fu r lo k : Nat} (h : rs_m (rr_ p t fu r 0 k).1 &&& lo = 0) : od_ p t fu r lo k = od_ p t fu r 0 k := by
  have : rr_ p t fu r lo k = rr_ p t fu r 0 k := ru_lost fu (ru_init r) (an_0 h)
  unfold od_
  rw [this]
theorem od_aim {p : px_T} {t : tx_T} {ls : List ln_T} {fu r lo k q : Nat} {a : List Int32} (hq : q ≤ 3) : (od2_ (en_of p t ls lo k (some a)) r fu = (q, a)) ↔ (od2_ (en_of p t ls lo k none) r fu = (q, a)) := by
  rcases ru_aim (ls := ls) (pg := p) (inp := tx_in t k) (lo := lo) (a := a) fu (ru_init r) with h | ⟨h1, h2⟩
  · have e1 : ru_run (en_of p t ls lo k (some a)) r fu = ru_run (en_of p t ls lo k none) r fu := h
    unfold od2_
    rw [e1]
  · constructor
    · intro z
      have z1 : (ru_run (en_of p t ls lo k (some a)) r fu).2 = q := congrArg Prod.fst z
      have : (ru_run (en_of p t ls lo k (some a)) r fu).2 = 4 := h1
      omega
    · intro z
      exact absurd (congrArg Prod.snd z) h2
theorem s_isOther {l : Launch} {κ : mm_K} {d : Nat} {G : mm_G} {K : Int32 → mm_G → Prop} {P : ps_T} {r lo k : Nat} (hP : ps_ok P) (hC : cB_ G P) (hN : kn_ G P r) (hr : r < (ps_p P).length) (hlo : lo < 65536) (hk : k < (ps_t P).length)
    (h : ∀ G', fr_ fc_ G G' → K (if od_ (ps_p P) (ps_t P) (ps_f P) r lo k = od_ (ps_p P) (ps_t P) (ps_f P) r 0 k then nI 0 else nI 1) G') : mC l κ true (d + 3) 0 0 m_X2_isOther [.ref 98, .int (nI r), .int (nI lo), .int (nI k)] G (rI K) := by
  have hp := hP.1.1
  have ht := hP.2.1.1
  obtain ⟨n1, n2⟩ := hN
  obtain ⟨d1, d2, d3⟩ := n2 k hk
  obtain ⟨o8, -, o3, om⟩ := rr_ok (k := k) hP hr (by decide : 0 < 65536)
  refine e_X2_isOther _ _ _ ?_
  rw [ki_mul, nI_add, nI_clamp (by omega), show r * 8 + k = 8 * r + k by omega, nI_clamp (by omega), d3, fa_and, ki_0]
  have hand : rs_m (rr_ (ps_p P) (ps_t P) (ps_f P) r 0 k).1 &&& lo < 65536 := Nat.lt_of_le_of_lt Nat.and_le_left om
  rw [nI_eq (by omega) (by omega)]
  refine ⟨(ki_vp (by omega)).2 (by omega), fun z => ⟨(ki_vp (by omega)).2 (by omega), ?_⟩, fun z => ?_⟩
  · have hro := hC.1.2.1 r hr
    have hD : DeedAt (104 + 2 * (8 * r + k)) := dd_At (by omega)
    have hen : en_ok (en_of (ps_p P) (ps_t P) (px_at (ps_p P) r) lo k (some (od_ (ps_p P) (ps_t P) (ps_f P) r 0 k).2)) r := en_of_ok hP.1 hP.2.1 hr (hP.1.2.2 r) (px_ok hP hr) hlo
    refine s_runs1 (e := en_of (ps_p P) (ps_t P) (px_at (ps_p P) r) lo k (some (od_ (ps_p P) (ps_t P) (ps_f P) r 0 k).2)) (r := r) hD hen hP.2.2.1 hC.2.1.2.1 (ce_of hP hC (rc_54 (by omega)) hro (hC.2.2.1 r (by omega)).2.1 hk) ⟨_, rfl, hD, by omega, by omega, d1⟩ (fun G2 g1 g2 g3 => ?_)
    obtain ⟨i1, i2, i3, i4⟩ := ru_run_ok (fu := ps_f P) hen
    refine s_isLike (o := od2_ (en_of (ps_p P) (ps_t P) (px_at (ps_p P) r) lo k (some (od_ (ps_p P) (ps_t P) (ps_f P) r 0 k).2)) r (ps_f P)) (p := od_ (ps_p P) (ps_t P) (ps_f P) r 0 k) mm_deed3 hD (g1.cd i1.2.2.2.1) g3 (d1.fr g2 (fc_F (by omega)) (fun j => fc_F (by omega))) (by rw [g2.i _ _ (fc_F (by omega))]; exact d2) (by have : (ru_run (en_of (ps_p P) (ps_t P) (px_at (ps_p P) r) lo k (some (od_ (ps_p P) (ps_t P) (ps_f P) r 0 k).2)) r (ps_f P)).2 ≤ 4 := i3; exact Nat.lt_of_le_of_lt this (by decide)) (Nat.lt_of_le_of_lt o3 (by decide)) ?_
    have hiff := od_aim (p := ps_p P) (t := ps_t P) (ls := px_at (ps_p P) r) (fu := ps_f P) (r := r) (lo := lo) (k := k) (q := (od_ (ps_p P) (ps_t P) (ps_f P) r 0 k).1) (a := (od_ (ps_p P) (ps_t P) (ps_f P) r 0 k).2) o3
    have h := h G2 g2
    by_cases ceq : od_ (ps_p P) (ps_t P) (ps_f P) r lo k = od_ (ps_p P) (ps_t P) (ps_f P) r 0 k
    · rw [if_pos ceq] at h
      rw [if_pos (hiff.2 ceq)]
      exact ⟨fun _ => h, fun q => absurd q (by decide)⟩
    · rw [if_neg ceq] at h
      rw [if_neg (fun q => ceq (hiff.1 q))]
      exact ⟨fun q => absurd rfl q, fun _ => h⟩
  · have h := h G fr_.rfl'
    rw [if_pos (od_lost z)] at h
    exact h
/-- the first trial in which the row does another thing -/
def ot_ (P : ps_T) (r lo k : Nat) : Bool := decide (od_ (ps_p P) (ps_t P) (ps_f P) r lo k ≠ od_ (ps_p P) (ps_t P) (ps_f P) r 0 k)
def fo_ (P : ps_T) (r lo : Nat) : Nat := fa_first (ot_ P r lo) (ps_t P).length
theorem fo_le (P : ps_T) (r lo : Nat) : fo_ P r lo ≤ (ps_t P).length := fa_first_le _ _
def fo_a (P : ps_T) (r lo : Nat) : Int32 := if fo_ P r lo < (ps_t P).length then nI (fo_ P r lo) else -2
theorem s_firstOther {l : Launch} {κ : mm_K} {d : Nat} {G : mm_G} {K : Int32 → mm_G → Prop} {P : ps_T} {r lo : Nat} (hP : ps_ok P) (hC : cB_ G P) (hL : cL_ G P) (hr : r < (ps_p P).length) (hlo : lo < 65536)
    (h : ∀ G', cL_ G' P → fr_ fl_ G G' → K (fo_a P r lo) G') : mC l κ true (d + 4) 0 0 m_X2_firstOther [.ref 98, .int (nI r), .int (nI lo)] G (rI K) := by
  have ht := hP.2.1.1
  refine e_X2_firstOther _ _ (s_know hP hC hL hr (fun G1 l1 n1 f1 => ?_))
  have hC1 := hC.on hP (f1.on (fun c k q => fl_on q)) (by rw [f1.1]; exact Nat.le_refl _)
  suffices H : ∀ n i G2, i + n = (ps_t P).length → fr_ fc_ G1 G2 → (∀ k, k < i → ot_ P r lo k = false) → mV l κ true (d + 4) 0 0 m_X2_firstOther 7 [some (.ref 98), some (.int (nI r)), some (.int (nI lo)), some (.int (nI i))] [] G2 (rI K) from H _ 0 _ (Nat.zero_add _) fr_.rfl' (fun k hk => absurd hk (Nat.not_lt_zero k))
  intro n
  induction n with
  | zero =>
    intro i G2 hi hf hp
    have hC2 := hC1.on hP (hf.on (fun c k q => fc_on q)) (by rw [hf.1]; exact Nat.le_refl _)
    refine p_X2_firstOther_7 _ _ _ ⟨fun _ => ?_, fun z => absurd ?_ z⟩
    · have h := h G2 (l1.fc hf) (f1.trans hf.cl)
      unfold fo_a at h
      rw [show fo_ P r lo = (ps_t P).length from ff_no (fun k hk => hp k (by omega)), if_neg (Nat.lt_irrefl _)] at h
      exact h
    · rw [hC2.2.1.1]; exact nI_le (by omega) (by omega)
  | succ n ih =>
    intro i G2 hi hf hp
    have hC2 := hC1.on hP (hf.on (fun c k q => fc_on q)) (by rw [hf.1]; exact Nat.le_refl _)
    refine p_X2_firstOther_7 _ _ _ ⟨fun z => absurd z (by rw [hC2.2.1.1]; exact nI_ge (by omega) (by omega)), fun _ => s_isOther hP hC2 (n1.fc hf) hr hlo (by omega) (fun G3 g3 => ⟨fun z => ?_, fun z => ?_⟩)⟩
    · rw [nI_add]
      refine ih (i + 1) G3 (by omega) (hf.trans g3) (fun k hk => ?_)
      rcases Nat.lt_succ_iff_lt_or_eq.mp hk with c | c
      · exact hp k c
      · subst c
        by_cases ce : od_ (ps_p P) (ps_t P) (ps_f P) r lo k = od_ (ps_p P) (ps_t P) (ps_f P) r 0 k
        · exact decide_eq_false (fun q => q ce)
        · rw [if_neg ce] at z; exact absurd z (by decide)
    · have ce : ¬ od_ (ps_p P) (ps_t P) (ps_f P) r lo i = od_ (ps_p P) (ps_t P) (ps_f P) r 0 i := fun ce => by rw [if_pos ce] at z; exact absurd rfl z
      have h := h G3 (l1.fc (hf.trans g3)) (f1.trans (hf.trans g3).cl)
      unfold fo_a at h
      rw [show fo_ P r lo = i from ff_at hp (decide_eq_true ce) (by omega), if_pos (by omega)] at h
      exact h
/-! the reference -/
def mb_ (G : mm_G) (P : ps_T) (r : Nat) : Prop := ∀ k, k < (ps_t P).length → mD_ G 262 263 264 k (od_ (ps_p P) (ps_t P) (ps_f P) r 0 k)
def fb_ (c k : Nat) : Bool := fg_ c k || (decide (262 ≤ c) && decide (c ≤ 264))
theorem fb_T {c k : Nat} (h : 262 ≤ c ∧ c ≤ 264) : fb_ c k = true := by
  unfold fb_
  rw [decide_eq_true h.1, decide_eq_true h.2]
  simp
theorem fr_.gb {G G1 : mm_G} (h : fr_ fg_ G G1) : fr_ fb_ G G1 := h.mono (fun c k q => by unfold fb_ at q; exact (Bool.or_eq_false_iff.1 q).1)
theorem fb_on {c k : Nat} (h : rgQ c k = true) : fb_ c k = false := by
  unfold fb_
  rw [fg_on h]
  have := rgQ_iff.1 h
  rcases Nat.lt_or_ge c 262 with z | z
  · rw [decide_eq_false (p := 262 ≤ c) (by omega)]; rfl
  · rw [decide_eq_false (p := c ≤ 264) (by omega), Bool.and_false]; rfl
theorem fg_F {c k : Nat} (h : c < 226 ∨ (226 < c ∧ c < 255) ∨ 261 < c) : fg_ c k = false := by
  unfold fg_
  rw [ft_F (by omega), fm_F (by omega)]
  rfl
theorem mb_.fg {G G1 : mm_G} {P : ps_T} {r : Nat} (h : mb_ G P r) (hf : fr_ fg_ G G1) : mb_ G1 P r := by
  intro k hk
  obtain ⟨a1, a2, a3⟩ := h k hk
  refine ⟨?_, ?_, fun j hj => ?_⟩
  · rw [hf.i _ _ (fg_F (by omega))]; exact a1
  · rw [hf.i _ _ (fg_F (by omega))]; exact a2
  · rw [hf.i _ _ (fg_F (by omega))]; exact a3 j hj
theorem t_fillBase {l : Launch} {κ : mm_K} {d : Nat} {G : mm_G} {K : mm_G → Prop} {P : ps_T} {m r : Nat} (hP : ps_ok P) (hM : mB_ G P m) (hr : r < (ps_p P).length)
    (h : ∀ G', mb_ G' P r → mp_ G' (px_at (ps_p P) r) 0 r (fun i => i) → fr_ fb_ G G' → K G') : mC l κ true (d + 5) 0 0 m_X13_fillBase [.ref 226, .int (nI r)] G (rV K) := by
  have ht := hP.2.1.1
  have hm := hM.1
  refine e_X13_fillBase _ (t_takesRow 0 hP hM hr (fun G0 p0 f0 => ?_))
  suffices H : ∀ n i G1, i + n = (ps_t P).length → fr_ fb_ G G1 → mp_ G1 (px_at (ps_p P) r) 0 r (fun i => i) → (∀ k, k < i → mD_ G1 262 263 264 k (od_ (ps_p P) (ps_t P) (ps_f P) r 0 k)) → mV l κ true (d + 5) 0 0 m_X13_fillBase 8 [some (.ref 226), some (.int (nI r)), some (.int (nI i)), none] [] G1 (rV K) from H _ 0 _ (Nat.zero_add _) f0.tg.gb p0 (fun k hk => absurd hk (Nat.not_lt_zero k))
  intro n
  induction n with
  | zero =>
    intro i G1 hi hf hp1 hb
    have hM1 := hM.on (hf.on (fun c k q => fb_on q))
    refine p_X13_fillBase_8 _ _ ?_
    rw [hM1.2.1, nI_clamp (by omega), hM1.2.2.2.1.1]
    exact ⟨(ki_vp (by omega)).2 (by omega), fun _ => h G1 (fun k hk => hb k (by omega)) hp1 hf, fun z => absurd (nI_le (by omega) (by omega)) z⟩
  | succ n ih =>
    intro i G1 hi hf hp1 hb
    have hM1 := hM.on (hf.on (fun c k q => fb_on q))
    refine p_X13_fillBase_8 _ _ ?_
    rw [hM1.2.1, nI_clamp (by omega), hM1.2.2.2.1.1]
    refine ⟨(ki_vp (by omega)).2 (by omega), fun z => absurd z (nI_ge (by omega) (by omega)), fun _ => t_run1 hP hM1 hp1 hr (hP.1.2.2 r) (px_ok hP hr) (by decide) (by omega) (fun G2 g1 g2 g3 => ⟨(ki_vp (by omega)).2 (by omega), (ki_vp (by omega)).2 (by omega), ?_⟩)⟩
    obtain ⟨o8, -, o3, -⟩ := rr_ok (k := i) hP hr (by decide : 0 < 65536)
    have g1 : mo_ G2 r (fun i => i) (rr_ (ps_p P) (ps_t P) (ps_f P) r 0 i).1 := g1
    have g3 : mg_i G2 226 55 = nI (rr_ (ps_p P) (ps_t P) (ps_f P) r 0 i).2 := g3
    rw [g3, g1.1, nI_clamp (by omega)]
    have hq : ∀ j k, fm_ 262 j = false ∧ fm_ 263 k = false := fun j k => ⟨fm_F (by omega), fm_F (by omega)⟩
    suffices H2 : ∀ n2 j G3, j + n2 = (rs_o (rr_ (ps_p P) (ps_t P) (ps_f P) r 0 i).1).length → fr_ fb_ G2 G3 → mp_ G3 (px_at (ps_p P) r) 0 r (fun i => i) → (∀ k, k < i → mD_ G3 262 263 264 k (od_ (ps_p P) (ps_t P) (ps_f P) r 0 k)) → mg_i G3 262 i = nI (rr_ (ps_p P) (ps_t P) (ps_f P) r 0 i).2 → mg_i G3 263 i = nI (rs_o (rr_ (ps_p P) (ps_t P) (ps_f P) r 0 i).1).length → mg_i G3 226 51 = nI (rs_o (rr_ (ps_p P) (ps_t P) (ps_f P) r 0 i).1).length → (∀ k, k < (rs_o (rr_ (ps_p P) (ps_t P) (ps_f P) r 0 i).1).length → mg_i G3 258 k = (rs_o (rr_ (ps_p P) (ps_t P) (ps_f P) r 0 i).1).getD k (nI 0)) → (∀ k, k < j → mg_i G3 264 (8 * i + k) = (rs_o (rr_ (ps_p P) (ps_t P) (ps_f P) r 0 i).1).getD k (nI 0)) → mV l κ true (d + 5) 0 0 m_X13_fillBase 48 [some (.ref 226), some (.int (nI r)), some (.int (nI i)), some (.int (nI j))] [] G3 (rV K) by
      have hp2 := hp1.fm g2
      refine H2 _ 0 _ (Nat.zero_add _) ((fr_.rfl'.si (fb_T (by omega))).si (fb_T (by omega))) ?_ (fun k hk => ?_) (by simp [mg_i_i]) (by simp [mg_i_i]) (by simp [mg_i_i]; exact g1.1) (fun k hk => by simp [mg_i_i]; have := g1.2.2.1 k hk; rw [List.getD_eq_getElem?_getD] at this; exact this) (fun k hk => absurd hk (Nat.not_lt_zero k))
      · obtain ⟨q1, q2, q3, q4, q5⟩ := hp2
        exact ⟨q1, q2, q3, q4, q5⟩
      · obtain ⟨q1, q2, q3⟩ := hb k hk
        refine ⟨?_, ?_, fun j hj => ?_⟩
        · simp only [mg_i_i, mg_i_l, mg_i_r, mg_i_b, mg_l_i, mg_l_l, mg_l_r, mg_l_b, mg_r_i, mg_r_l, mg_r_r, mg_r_b, false_and, and_false, true_and, and_true, reduceCtorEq, if_true, if_false, reduceIte, Nat.reduceEqDiff, Nat.reduceAdd, Nat.succ_ne_self, ne_eq, not_false_eq_true, not_true_eq_false]; rw [if_neg (by omega), g2.i _ _ (fm_F (by omega))]; exact q1
        · simp only [mg_i_i, mg_i_l, mg_i_r, mg_i_b, mg_l_i, mg_l_l, mg_l_r, mg_l_b, mg_r_i, mg_r_l, mg_r_r, mg_r_b, false_and, and_false, true_and, and_true, reduceCtorEq, if_true, if_false, reduceIte, Nat.reduceEqDiff, Nat.reduceAdd, Nat.succ_ne_self, ne_eq, not_false_eq_true, not_true_eq_false]; rw [if_neg (by omega), g2.i _ _ (fm_F (by omega))]; exact q2
        · simp only [mg_i_i, mg_i_l, mg_i_r, mg_i_b, mg_l_i, mg_l_l, mg_l_r, mg_l_b, mg_r_i, mg_r_l, mg_r_r, mg_r_b, false_and, and_false, true_and, and_true, reduceCtorEq, if_true, if_false, reduceIte, Nat.reduceEqDiff, Nat.reduceAdd, Nat.succ_ne_self, ne_eq, not_false_eq_true, not_true_eq_false]; rw [g2.i _ _ (fm_F (by omega))]; exact q3 j hj
    intro n2
    induction n2 with
    | zero =>
      intro j G3 hj k1 k2 k3 k4 k5 k6 k7 k8
      refine p_X13_fillBase_48 _ _ _ ⟨fun _ => ?_, fun z => absurd ?_ z⟩
      · rw [nI_add]
        refine ih (i + 1) G3 (by omega) ((hf.trans g2.mg.gb).trans k1) k2 (fun k hk => ?_)
        rcases Nat.lt_succ_iff_lt_or_eq.mp hk with c | c
        · exact k3 k c
        · subst c
          exact ⟨k4, k5, fun q hq => k8 q (by have : q < (rs_o (rr_ (ps_p P) (ps_t P) (ps_f P) r 0 k).1).length := hq; omega)⟩
      · rw [k6]; exact nI_le (by omega) (by omega)
    | succ n2 ih2 =>
      intro j G3 hj k1 k2 k3 k4 k5 k6 k7 k8
      refine p_X13_fillBase_48 _ _ _ ⟨fun z => absurd z (by rw [k6]; exact nI_ge (by omega) (by omega)), fun _ => ⟨(ki_vp (by omega)).2 (by omega), ?_⟩⟩
      rw [ki_mul, nI_add, nI_add, nI_clamp (by omega), nI_clamp (by omega), k7 j (by omega)]
      refine ⟨(ki_vp (by omega)).2 (by omega), ih2 (j + 1) _ (by omega) (k1.si (fb_T (by omega))) k2 (fun k hk => ?_) (by simp only [mg_i_i, mg_i_l, mg_i_r, mg_i_b, mg_l_i, mg_l_l, mg_l_r, mg_l_b, mg_r_i, mg_r_l, mg_r_r, mg_r_b, false_and, and_false, true_and, and_true, reduceCtorEq, if_true, if_false, reduceIte, Nat.reduceEqDiff, Nat.reduceAdd, Nat.succ_ne_self, ne_eq, not_false_eq_true, not_true_eq_false]; exact k4) (by simp only [mg_i_i, mg_i_l, mg_i_r, mg_i_b, mg_l_i, mg_l_l, mg_l_r, mg_l_b, mg_r_i, mg_r_l, mg_r_r, mg_r_b, false_and, and_false, true_and, and_true, reduceCtorEq, if_true, if_false, reduceIte, Nat.reduceEqDiff, Nat.reduceAdd, Nat.succ_ne_self, ne_eq, not_false_eq_true, not_true_eq_false]; exact k5) (by simp only [mg_i_i, mg_i_l, mg_i_r, mg_i_b, mg_l_i, mg_l_l, mg_l_r, mg_l_b, mg_r_i, mg_r_l, mg_r_r, mg_r_b, false_and, and_false, true_and, and_true, reduceCtorEq, if_true, if_false, reduceIte, Nat.reduceEqDiff, Nat.reduceAdd, Nat.succ_ne_self, ne_eq, not_false_eq_true, not_true_eq_false]; exact k6) (fun k hk => by simp only [mg_i_i, mg_i_l, mg_i_r, mg_i_b, mg_l_i, mg_l_l, mg_l_r, mg_l_b, mg_r_i, mg_r_l, mg_r_r, mg_r_b, false_and, and_false, true_and, and_true, reduceCtorEq, if_true, if_false, reduceIte, Nat.reduceEqDiff, Nat.reduceAdd, Nat.succ_ne_self, ne_eq, not_false_eq_true, not_true_eq_false]; exact k7 k hk) (fun k hk => ?_)⟩
      · obtain ⟨q1, q2, q3⟩ := k3 k hk
        obtain ⟨o8k, -⟩ := rr_ok (k := k) hP hr (by decide : 0 < 65536)
        refine ⟨q1, q2, fun q hq => ?_⟩
        have hq8 : q < 8 := Nat.lt_of_lt_of_le hq o8k
        simp only [mg_i_i, mg_i_l, mg_i_r, mg_i_b, mg_l_i, mg_l_l, mg_l_r, mg_l_b, mg_r_i, mg_r_l, mg_r_r, mg_r_b, false_and, and_false, true_and, and_true, reduceCtorEq, if_true, if_false, reduceIte, Nat.reduceEqDiff, Nat.reduceAdd, Nat.succ_ne_self, ne_eq, not_false_eq_true, not_true_eq_false]
        rw [if_neg (by omega)]
        exact q3 q hq
      · simp only [mg_i_i, mg_i_l, mg_i_r, mg_i_b, mg_l_i, mg_l_l, mg_l_r, mg_l_b, mg_r_i, mg_r_l, mg_r_r, mg_r_b, false_and, and_false, true_and, and_true, reduceCtorEq, if_true, if_false, reduceIte, Nat.reduceEqDiff, Nat.reduceAdd, Nat.succ_ne_self, ne_eq, not_false_eq_true, not_true_eq_false]
        split
        · rename_i z
          rw [show k = j by omega]
        · exact k8 k (by omega)
theorem t_isAsBase {l : Launch} {κ : mm_K} {d : Nat} {G : mm_G} {K : Int32 → mm_G → Prop} {k : Nat} {o b : Nat × List Int32} (hk : k < 8) (h1 : mg_i G 226 55 = nI o.1) (h2 : mg_i G 226 51 = nI o.2.length) (h3 : ∀ j, j < o.2.length → mg_i G 258 j = o.2.getD j (nI 0)) (hb : mD_ G 262 263 264 k b) (ho : o.1 < 100 ∧ o.2.length ≤ 8) (hb2 : b.1 < 100 ∧ b.2.length ≤ 8)
    (h : K (if o = b then nI 1 else nI 0) G) : mC l κ true d 0 0 m_X13_isAsBase [.ref 226, .int (nI k)] G (rI K) := by
  obtain ⟨b1, b2, b3⟩ := hb
  refine e_X13_isAsBase _ ?_
  rw [nI_clamp (by omega), h1, b1, h2, b2, nI_eq (by omega) (by omega), nI_eq (by omega) (by omega)]
  refine ⟨(ki_vp (by omega)).2 hk, fun z => ?_, fun z => ⟨(ki_vp (by omega)).2 hk, fun z2 => ?_, fun z2 => ?_⟩⟩
  · rw [if_neg (fun q => z (congrArg Prod.fst q))] at h; exact h
  · suffices H : ∀ n i, i + n = o.2.length → (∀ j, j < i → o.2.getD j (nI 0) = b.2.getD j (nI 0)) → mV l κ true d 0 0 m_X13_isAsBase 30 [some (.ref 226), some (.int (nI k)), some (.int (nI i))] [] G (rI K) from H _ 0 (Nat.zero_add _) (fun j hj => absurd hj (Nat.not_lt_zero j))
    intro n
    induction n with
    | zero =>
      intro i hi hj
      refine p_X13_isAsBase_30 _ _ ⟨fun _ => ?_, fun q => absurd ?_ q⟩
      · rw [if_pos (Prod.ext z (ls_ext z2 (fun j q => hj j (by omega))))] at h; exact h
      · rw [h2]; exact nI_le (by omega) (by omega)
    | succ n ih =>
      intro i hi hj
      refine p_X13_isAsBase_30 _ _ ⟨fun q => absurd q (by rw [h2]; exact nI_ge (by omega) (by omega)), fun _ => ⟨(ki_vp (by omega)).2 (by omega), ?_⟩⟩
      rw [ki_mul, nI_add, nI_clamp (by omega), nI_clamp (by omega), h3 i (by omega), b3 i (by omega)]
      refine ⟨(ki_vp (by omega)).2 (by omega), fun q => ?_, fun q => ?_⟩
      · rw [nI_add]
        refine ih (i + 1) (by omega) (fun j hj2 => ?_)
        rcases Nat.lt_succ_iff_lt_or_eq.mp hj2 with c | c
        · exact hj j c
        · subst c; exact q
      · rw [if_neg (fun q2 => q (by rw [q2]))] at h; exact h
  · rw [if_neg (fun q => z2 (by rw [q]))] at h; exact h
/-- the first trial in which these lines do another thing than the row -/
def uo_ (P : ps_T) (ls : List ln_T) (r lo k : Nat) : Bool := decide (od2_ (en_of (ps_p P) (ps_t P) ls lo k none) r (ps_f P) ≠ od_ (ps_p P) (ps_t P) (ps_f P) r 0 k)
def uf_ (P : ps_T) (ls : List ln_T) (r lo : Nat) : Nat := fa_first (uo_ P ls r lo) (ps_t P).length
theorem uf_fo (P : ps_T) (r lo : Nat) : uf_ P (px_at (ps_p P) r) r lo = fo_ P r lo := rfl
theorem t_unlike {l : Launch} {κ : mm_K} {d : Nat} {G : mm_G} {K : Int32 → mm_G → Prop} {P : ps_T} {m r lo : Nat} {ls : List ln_T} {pl : Nat → Nat} (hP : ps_ok P) (hM : mB_ G P m) (hr : r < (ps_p P).length) (hb : mb_ G P r) (hp : mp_ G ls lo r pl) (hls : ls.length ≤ 16) (hx : ∀ x ∈ ls, ln_ok r x) (hlo : lo < 65536)
    (h : ∀ G', fr_ fm_ G G' → K (if uf_ P ls r lo < (ps_t P).length then nI (uf_ P ls r lo) else -2) G') : mC l κ true (d + 5) 0 0 m_X13_unlike [.ref 226] G (rI K) := by
  have ht := hP.2.1.1
  have hm := hM.1
  refine e_X13_unlike ?_
  suffices H : ∀ n i G1, i + n = (ps_t P).length → fr_ fm_ G G1 → (∀ k, k < i → uo_ P ls r lo k = false) → mV l κ true (d + 5) 0 0 m_X13_unlike 2 [some (.ref 226), some (.int (nI i))] [] G1 (rI K) from H _ 0 _ (Nat.zero_add _) fr_.rfl' (fun k hk => absurd hk (Nat.not_lt_zero k))
  intro n
  induction n with
  | zero =>
    intro i G1 hi hf hq
    have hM1 := hM.on (hf.on (fun c k q => fm_on q))
    refine p_X13_unlike_2 _ ?_
    rw [hM1.2.1, nI_clamp (by omega), hM1.2.2.2.1.1]
    refine ⟨(ki_vp (by omega)).2 (by omega), fun _ => ?_, fun z => absurd (nI_le (by omega) (by omega)) z⟩
    have h := h G1 hf
    rw [show uf_ P ls r lo = (ps_t P).length from ff_no (fun k hk => hq k (by omega)), if_neg (Nat.lt_irrefl _)] at h
    exact h
  | succ n ih =>
    intro i G1 hi hf hq
    have hM1 := hM.on (hf.on (fun c k q => fm_on q))
    refine p_X13_unlike_2 _ ?_
    rw [hM1.2.1, nI_clamp (by omega), hM1.2.2.2.1.1]
    have hen : en_ok (en_of (ps_p P) (ps_t P) ls lo i none) r := en_of_ok hP.1 hP.2.1 hr hls hx hlo
    obtain ⟨i1, i2, i3, i4⟩ := ru_run_ok (fu := ps_f P) hen
    obtain ⟨o8, -, o3, -⟩ := rr_ok (k := i) hP hr (by decide : 0 < 65536)
    refine ⟨(ki_vp (by omega)).2 (by omega), fun z => absurd z (nI_ge (by omega) (by omega)), fun _ => t_run1 hP hM1 (hp.fm hf) hr hls hx hlo (by omega) (fun G2 g1 g2 g3 => ?_)⟩
    refine t_isAsBase (o := od2_ (en_of (ps_p P) (ps_t P) ls lo i none) r (ps_f P)) (b := od_ (ps_p P) (ps_t P) (ps_f P) r 0 i) (by omega) g3 g1.1 g1.2.2.1 ((hb.fg (hf.trans g2).mg) i (by omega)) ⟨Nat.lt_of_le_of_lt i3 (by decide), i1.2.2.2.1⟩ ⟨Nat.lt_of_le_of_lt o3 (by decide), o8⟩ ⟨fun z => ?_, fun z => ?_⟩
    · rw [nI_add]
      refine ih (i + 1) G2 (by omega) (hf.trans g2) (fun k hk => ?_)
      rcases Nat.lt_succ_iff_lt_or_eq.mp hk with c | c
      · exact hq k c
      · subst c
        by_cases ce : od2_ (en_of (ps_p P) (ps_t P) ls lo k none) r (ps_f P) = od_ (ps_p P) (ps_t P) (ps_f P) r 0 k
        · exact decide_eq_false (fun q => q ce)
        · rw [if_neg ce] at z; exact absurd rfl z
    · have ce : ¬ od2_ (en_of (ps_p P) (ps_t P) ls lo i none) r (ps_f P) = od_ (ps_p P) (ps_t P) (ps_f P) r 0 i := fun ce => by rw [if_pos ce] at z; exact absurd z (by decide)
      have h := h G2 (hf.trans g2)
      rw [show uf_ P ls r lo = i from ff_at hq (decide_eq_true ce) (by omega), if_pos (by omega)] at h
      exact h
def sm_ (P : ps_T) (r lo : Nat) : Bool := decide (fo_ P r lo = (ps_t P).length)
theorem t_isSame {l : Launch} {κ : mm_K} {d : Nat} {G : mm_G} {K : Int32 → mm_G → Prop} {P : ps_T} {m r lo : Nat} (hP : ps_ok P) (hM : mB_ G P m) (hr : r < (ps_p P).length) (hb : mb_ G P r) (hlo : lo < 65536)
    (h : ∀ G', fr_ fg_ G G' → K (if sm_ P r lo then nI 1 else nI 0) G') : mC l κ true (d + 6) 0 0 m_X13_isSame [.ref 226, .int (nI r), .int (nI lo)] G (rI K) := by
  have ht := hP.2.1.1
  refine e_X13_isSame _ _ (t_takesRow lo hP hM hr (fun G1 p1 f1 => ?_))
  refine t_unlike hP (hM.on (f1.on (fun c k q => ft_on q))) hr (hb.fg f1.tg) p1 (hP.1.2.2 r) (px_ok hP hr) hlo (fun G2 f2 => ?_)
  have h := h G2 (f1.tg.trans f2.mg)
  rw [uf_fo]
  have hle := fo_le P r lo
  unfold sm_ at h
  split
  · rename_i c
    rw [decide_eq_false (by omega)] at h
    exact ⟨fun _ => h, fun q => absurd (nI_pos' (by omega)) q⟩
  · rename_i c
    rw [decide_eq_true (by omega)] at h
    exact ⟨fun q => absurd q (by decide), fun _ => h⟩
