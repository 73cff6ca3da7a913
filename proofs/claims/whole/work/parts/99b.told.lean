/-! reading: what was read becomes what is told -/
theorem s_rscopy8 {l : Launch} {κ : mm_K} {d : Nat} {G : mm_G} {K : mm_G → Prop} {x y : Nat} {p : px_T} {s : sx_T} (hx : x ∈ rs_L) (hy : y = 8) (hxy : x + 12 ≤ y ∨ y + 12 ≤ x) (hp : p.length ≤ 4) (hs : s.2.length ≤ 20) (h1 : cR_ G y p s) (hnx : ∀ j, j < 4 → mg_i G (x + 4 + 2 * j) 2 = nI j) (hny : ∀ j, j < 4 → mg_i G (y + 4 + 2 * j) 2 = nI j)
    (h : ∀ G', cR_ G' x p s → (∀ j, j < 4 → mg_i G' (x + 4 + 2 * j) 2 = nI j) → fr_ (fy_ x) G G' → K G') : mC l κ true (d + 1) 0 0 m_X7_copy [.ref x, .ref y] G (rV K) := by
  have hyA : RowsAt y := by rw [hy]; exact mm_rs8
  have hyR : ∀ j, j < 4 → RowAt (y + 4 + 2 * j) := fun j hj => by rw [hy]; exact rdr_row hj
  have hx2 : x + 12 ≤ 225 := by
    simp only [rs_L, List.mem_cons, List.not_mem_nil, or_false] at hx
    omega
  obtain ⟨a1, a2, a3, a4, a5⟩ := h1
  refine e_X7_copy x (rs_At hx) y hyA ?_
  rw [a1]
  suffices H : ∀ n i G1, i + n = p.length → fr_ (fy_ x) G G1 → mg_i G1 x 1 = nI p.length → (∀ j, j < i → ro_ G1 (x + 4 + 2 * j) (px_at p j)) → (∀ j, j < 4 → mg_i G1 (x + 4 + 2 * j) 2 = nI j) → mV l κ true (d + 1) 0 0 m_X7_copy 10 [some (.ref x), some (.ref y), some (.int (nI i))] [] G1 (rV K) from
    H _ 0 _ (Nat.zero_add _) (fr_.rfl'.si (fy_T (by omega))) (by simp [mg_i_i]) (fun j hj => absurd hj (Nat.not_lt_zero j)) (fun j hj => by rw [mg_i_i, if_neg (by omega)]; exact hnx j hj)
  intro n
  induction n with
  | zero =>
    intro i G1 hi hf q1 q2 q3
    refine p_X7_copy_10 x (rs_At hx) y hyA _ ⟨fun _ => ?_, fun z => absurd (by rw [q1]; exact nI_le (by omega) (by omega)) z⟩
    have e4 : mg_i G1 y 4 = nI s.2.length := by rw [hf.i _ _ (fy_F (by omega))]; exact a3
    rw [mg_i_i, if_neg (by omega), e4]
    suffices H2 : ∀ n2 j G2, j + n2 = s.2.length → fr_ (fun c k => (decide (c = x) && decide (4 ≤ k)) || decide (c = x + 2) || decide (c = x + 3)) G1 G2 → mg_i G2 x 4 = nI s.2.length → mg_i G2 x 5 = mg_i G1 y 5 → (∀ k, k < j → mg_i G2 (x + 2) k = nI (sx_at s k).1 ∧ mg_i G2 (x + 3) k = nI (sx_at s k).2) → mV l κ true (d + 1) 0 0 m_X7_copy 57 [some (.ref x), some (.ref y), some (.int (nI j))] [] G2 (rV K) from
      H2 _ 0 _ (Nat.zero_add _) ((fr_.rfl'.si (by simp)).si (by simp)) (by simp [mg_i_i]) (by simp [mg_i_i]) (fun k hk => absurd hk (Nat.not_lt_zero k))
    intro n2
    induction n2 with
    | zero =>
      intro j G2 hj hf2 b1 b2 b3
      refine p_X7_copy_57 x (rs_At hx) y hyA _ ⟨fun _ => ?_, fun z => absurd (by rw [b1]; exact nI_le (by omega) (by omega)) z⟩
      have hf3 : fr_ (fy_ x) G G2 := hf.trans (hf2.mono (fun c k q => by
        have : ¬ (x ≤ c ∧ c < x + 12) := fun y => by rw [fy_T y] at q; cases q
        simp
        omega))
      refine h G2 ⟨?_, fun w hw => ?_, b1, fun q => ?_, fun k hk => b3 k (by omega)⟩ (fun w hw => ?_) hf3
      · rw [hf2.i _ _ (by simp)]; exact q1
      · exact (q2 w (by omega)).fr hf2 (by simp; omega) (fun k => by simp; omega) (fun t k q => by simp; omega)
      · rw [b2, hf.i _ _ (fy_F (by omega))]; exact a4 q
      · rw [hf2.i _ _ (by simp; omega)]; exact q3 w hw
    | succ n2 ih2 =>
      intro j G2 hj hf2 b1 b2 b3
      have e2 : mg_i G2 (y + 2) j = nI (sx_at s j).1 := by rw [hf2.i _ _ (by simp; omega), hf.i _ _ (fy_F (by omega))]; exact (a5 j (by omega)).1
      have e3 : mg_i G2 (y + 3) j = nI (sx_at s j).2 := by rw [hf2.i _ _ (by simp; omega), hf.i _ _ (fy_F (by omega))]; exact (a5 j (by omega)).2
      refine p_X7_copy_57 x (rs_At hx) y hyA _ ⟨fun z => absurd z (by rw [b1]; exact nI_ge (by omega) (by omega)), fun _ => ⟨(ki_vp (by omega)).2 (by omega), (ki_vp (by omega)).2 (by omega), (ki_vp (by omega)).2 (by omega), (ki_vp (by omega)).2 (by omega), ?_⟩⟩
      rw [nI_add, nI_clamp (by omega), mg_i_i, if_neg (by omega), e2, e3]
      refine ih2 (j + 1) _ (by omega) ((hf2.si (by simp)).si (by simp)) (by simp [mg_i_i]; exact b1) (by simp [mg_i_i]; exact b2) (fun k hk => ?_)
      rw [mg_i_i, mg_i_i, mg_i_i, mg_i_i]
      by_cases c : k = j
      · subst c
        rw [if_neg (by omega), if_pos ⟨rfl, rfl⟩, if_pos ⟨rfl, rfl⟩]
        exact ⟨rfl, rfl⟩
      · rw [if_neg (by omega), if_neg (by omega), if_neg (by omega), if_neg (by omega)]
        exact b3 k (by omega)
  | succ n ih =>
    intro i G1 hi hf q1 q2 q3
    refine p_X7_copy_10 x (rs_At hx) y hyA _ ⟨fun z => absurd z (by rw [q1]; exact nI_ge (by omega) (by omega)), fun _ => ⟨(ki_vp (by omega)).2 (by omega), (ki_vp (by omega)).2 (by omega), ?_⟩⟩
    rw [nI_clamp (by omega), nI_add]
    have hro : ro_ G1 (y + 4 + 2 * i) (px_at p i) := (a2 i (by omega)).fr hf (fy_F (by omega)) (fun k => fy_F (by omega)) (fun t k q => fy_F (by omega))
    refine s_rcopy (rs_row hx (by omega)) (hyR _ (by omega)) (by omega) (by omega) hro (fun G2 o2 e2 f2 => ?_)
    refine ih (i + 1) G2 (by omega) (hf.trans (f2.mono (fun c k q => fx_F (by
      have : ¬ (x ≤ c ∧ c < x + 12) := fun y => by rw [fy_T y] at q; cases q
      omega)))) (by rw [f2.i _ _ (fx_F (by omega))]; exact q1) (fun j hj => ?_) (fun j hj => ?_)
    · rcases Nat.lt_succ_iff_lt_or_eq.mp hj with c | c
      · exact (q2 j c).fr f2 (fx_F (by omega)) (fun k => fx_F (by omega)) (fun t k q => fx_F (by omega))
      · subst c; exact o2
    · by_cases c : j = i
      · subst c
        rw [e2, hf.i _ _ (fy_F (by omega))]; exact hny j hj
      · rw [f2.i _ _ (fx_F (by omega))]; exact q3 j hj
theorem any_nI (v : Int32) : ∃ n, v = nI n := ⟨v.toBitVec.toNat, by
  apply Int32.toBitVec_inj.1
  show v.toBitVec = BitVec.ofNat 32 v.toBitVec.toNat
  simp⟩
def fTc_ (c _k : Nat) : Bool := decide (62 ≤ c) && decide (c ≤ 90)
theorem fTc_F {c k : Nat} (h : c < 62 ∨ 90 < c) : fTc_ c k = false := by
  unfold fTc_
  rcases h with z | z
  · rw [decide_eq_false (p := 62 ≤ c) (by omega)]; rfl
  · rw [decide_eq_false (p := c ≤ 90) (by omega), Bool.and_false]
theorem fTc_T {c k : Nat} (h : 62 ≤ c ∧ c ≤ 90) : fTc_ c k = true := by
  unfold fTc_
  rw [decide_eq_true h.1, decide_eq_true h.2]
  rfl
def trc_ (G : mm_G) (k : Nat) (x : List Int32 × Option (List Int32)) : Prop := mg_i G 72 k = nI x.1.length ∧ (∀ j, j < x.1.length → mg_i G (64 + k) j = x.1.getD j (nI 0)) ∧ (x.2 = none → mg_i G 74 k = nI 0) ∧ ∀ g, x.2 = some g → mg_i G 74 k = nI 1 ∧ cd_ G (75 + 2 * k) g ∧ mg_i G (75 + 2 * k) 2 = nI 0
theorem dd75 : ∀ k, k < 8 → mm_deedB (75 + 2 * k) = true := by decide +kernel
theorem s_tcopy {l : Launch} {κ : mm_K} {d : Nat} {G : mm_G} {K : mm_G → Prop} {tr : tx_T} {fu : Nat} (hT : cTr_ G tr) (hfu : mg_i G 20 5 = nI fu) (hgz : gz_ G) (h : ∀ G', cT_ G' 62 tr fu → fr_ fTc_ G G' → K G') : mC l κ true (d + 1) 0 0 m_X11_copy [.ref 62, .ref 20] G (rV K) := by
  obtain ⟨a1, a2, a3⟩ := hT
  refine e_X11_copy ?_
  rw [a1, hfu]
  suffices H : ∀ n k G1, k + n = tr.length → fr_ fTc_ G G1 → mg_i G1 62 4 = nI tr.length → mg_i G1 62 5 = nI fu → (∀ i, i < k → trc_ G1 i (tr.getD i ([], none))) → mV l κ true (d + 1) 0 0 m_X11_copy 18 [some (.ref 62), some (.ref 20), some (.int (nI k)), none] [] G1 (rV K) from
    H _ 0 _ (Nat.zero_add _) ((fr_.rfl'.si (fTc_T (by omega))).si (fTc_T (by omega))) (by simp only [mg_i_i, mg_i_l, mg_i_r, mg_i_b, mg_l_i, mg_l_l, mg_l_r, mg_l_b, mg_r_i, mg_r_l, mg_r_r, mg_r_b, false_and, and_false, true_and, and_true, reduceCtorEq, if_true, if_false, reduceIte, Nat.reduceEqDiff, Nat.reduceAdd, Nat.succ_ne_self, ne_eq, not_false_eq_true, not_true_eq_false]) (by simp only [mg_i_i, mg_i_l, mg_i_r, mg_i_b, mg_l_i, mg_l_l, mg_l_r, mg_l_b, mg_r_i, mg_r_l, mg_r_r, mg_r_b, false_and, and_false, true_and, and_true, reduceCtorEq, if_true, if_false, reduceIte, Nat.reduceEqDiff, Nat.reduceAdd, Nat.succ_ne_self, ne_eq, not_false_eq_true, not_true_eq_false]) (fun i hi => absurd hi (Nat.not_lt_zero i))
  intro n
  induction n with
  | zero =>
    intro k G1 hk f1 b4 b5 bt
    refine p_X11_copy_18 _ ⟨fun _ => h G1 ⟨b4, b5, fun i hi => ?_⟩ f1, fun y => absurd (by rw [b4]; exact nI_le (by omega) (by omega)) y⟩
    exact bt i (by omega)
  | succ n ih =>
    intro k G1 hk f1 b4 b5 bt
    have hkl : k < tr.length := by omega
    obtain ⟨⟨t1, t2, t3, t4⟩, t5⟩ := a3 k hkl
    have hv : vp_in (nI k) 8 := (ki_vp (by omega)).2 (by omega)
    have i30 : mg_i G1 30 k = nI (tr.getD k ([], none)).1.length := by rw [f1.i _ _ (fTc_F (by omega))]; exact t1
    have i32 : ∃ q, q < 2 ∧ mg_i G1 32 k = nI q ∧ ((tr.getD k ([], none)).2 = none → q = 0) ∧ ∀ g, (tr.getD k ([], none)).2 = some g → q = 1 := by
      rw [f1.i _ _ (fTc_F (by omega))]
      cases e : (tr.getD k ([], none)).2 with
      | none => exact ⟨0, by omega, t3 e, fun _ => rfl, fun g q => (by cases q)⟩
      | some g => exact ⟨1, by omega, (t4 g e).1, fun q => (by cases q), fun _ _ => rfl⟩
    obtain ⟨q, q2, q3, q4, q5⟩ := i32
    have nar : vp_nar .boolean (nI q) = nI q := by
      have : q = 0 ∨ q = 1 := by omega
      rcases this with rfl | rfl <;> decide +kernel
    refine p_X11_copy_18 _ ⟨fun y => absurd y (by rw [b4]; exact nI_ge (by omega) (by omega)), fun _ => ⟨hv, hv, hv, hv, ?_⟩⟩
    rw [nI_clamp (by omega), i30, q3, nar]
    have F2 : fr_ fTc_ G (ms_i (ms_i G1 72 k (nI (tr.getD k ([], none)).1.length)) 74 k (nI q)) := (f1.si (fTc_T (by omega))).si (fTc_T (by omega))
    suffices H : ∀ e j G2, j + e = (tr.getD k ([], none)).1.length → fr_ (fun c _ => decide (c = 64 + k)) (ms_i (ms_i G1 72 k (nI (tr.getD k ([], none)).1.length)) 74 k (nI q)) G2 → (∀ u, u < j → mg_i G2 (64 + k) u = (tr.getD k ([], none)).1.getD u (nI 0)) → mV l κ true (d + 1) 0 0 m_X11_copy 52 [some (.ref 62), some (.ref 20), some (.int (nI k)), some (.int (nI j))] [] G2 (rV K) from
      H _ 0 _ (Nat.zero_add _) fr_.rfl' (fun u hu => absurd hu (Nat.not_lt_zero u))
    intro e
    induction e with
    | zero =>
      intro j G2 hj g2 bn
      have F3 : fr_ fTc_ G G2 := F2.trans (g2.mono (fun c k' z => by
        by_cases y : c = 64 + k
        · rw [fTc_T (by omega)] at z; cases z
        · exact decide_eq_false y))
      have e72 : mg_i G2 72 k = nI (tr.getD k ([], none)).1.length := by rw [g2.i _ _ (decide_eq_false (by omega)), mg_i_i, if_neg (by omega), mg_i_i, if_pos ⟨rfl, rfl⟩]
      have e74 : mg_i G2 74 k = nI q := by rw [g2.i _ _ (decide_eq_false (by omega)), mg_i_i, if_pos ⟨rfl, rfl⟩]
      refine p_X11_copy_52 _ _ ?_
      rw [nI_clamp (by omega), e72]
      refine ⟨hv, fun _ => ⟨hv, hv, ?_⟩, fun y => absurd (nI_le (by omega) (by omega)) y⟩
      rw [nI_add]
      obtain ⟨gn, gn8, ge⟩ := hgz k (by omega)
      -- a Deed, whatever stands there
      have hdeed : ∃ (o : Nat × List Int32) (m : Nat), cd_ G2 (33 + 2 * k) o.2 ∧ mg_i G2 (33 + 2 * k) 2 = nI o.1 ∧ mg_i G2 (33 + 2 * k) 3 = nI m ∧ ∀ g, (tr.getD k ([], none)).2 = some g → o = (0, g) := by
        obtain ⟨m, em⟩ := any_nI (mg_i G2 (33 + 2 * k) 3)
        cases et : (tr.getD k ([], none)).2 with
        | some g =>
          obtain ⟨-, ⟨d1, d2, d3⟩, d4⟩ := t4 g et
          refine ⟨(0, g), m, ⟨by rw [F3.i _ _ (fTc_F (by omega))]; exact d1, d2, fun u hu => by rw [F3.i _ _ (fTc_F (by omega))]; exact d3 u hu⟩, by rw [F3.i _ _ (fTc_F (by omega))]; exact d4, em, fun g' q => ?_⟩
          cases q; rfl
        | none =>
          obtain ⟨m2, em2⟩ := any_nI (mg_i G2 (33 + 2 * k) 2)
          have el : ((List.range gn).map (fun u => mg_i G2 (33 + 2 * k + 1) u)).length = gn := by rw [List.length_map, List.length_range]
          refine ⟨(m2, (List.range gn).map (fun u => mg_i G2 (33 + 2 * k + 1) u)), m, ⟨by rw [F3.i _ _ (fTc_F (by omega)), ge, el], by rw [el]; exact gn8, fun u hu => ?_⟩, em2, em, fun g' q => (by cases q)⟩
          rw [el] at hu
          rw [List.getD_eq_getElem?_getD, List.getElem?_map, List.getElem?_range hu]
          rfl
      obtain ⟨o, m, o1, o2, o3, o4⟩ := hdeed
      refine s_copy (mm_deedP (dd75 k (by omega))) (mm_deedP (mm_deed0 k (by omega)).1) (by omega) o1 o2 o3 (fun G3 c3 s3 m3 f3 => ?_)
      have F4 : fr_ fTc_ G G3 := F3.trans (f3.mono (fun c k' z => fx_F (by
        by_cases y : 62 ≤ c ∧ c ≤ 90
        · rw [fTc_T y] at z; cases z
        · omega)))
      have keep : ∀ c u, c ≠ 75 + 2 * k → c ≠ 75 + 2 * k + 1 → c ≠ 64 + k → ¬ (c = 72 ∧ u = k) → ¬ (c = 74 ∧ u = k) → mg_i G3 c u = mg_i G1 c u := fun c u z1 z2 z3 z4 z5 => by
        rw [f3.i _ _ (fx_F (by omega)), g2.i _ _ (decide_eq_false z3), mg_i_i, if_neg (by omega), mg_i_i, if_neg (by omega)]
      refine ih (k + 1) G3 (by omega) F4 (by rw [keep 62 4 (by omega) (by omega) (by omega) (by omega) (by omega)]; exact b4) (by rw [keep 62 5 (by omega) (by omega) (by omega) (by omega) (by omega)]; exact b5) (fun i hi => ?_)
      rcases Nat.lt_succ_iff_lt_or_eq.mp hi with c | c
      · obtain ⟨w1, w2, w3, w4⟩ := bt i c
        refine ⟨by rw [keep _ _ (by omega) (by omega) (by omega) (by omega) (by omega)]; exact w1, fun j hj => by rw [keep _ _ (by omega) (by omega) (by omega) (by omega) (by omega)]; exact w2 j hj, fun q => by rw [keep _ _ (by omega) (by omega) (by omega) (by omega) (by omega)]; exact w3 q, fun g q => ?_⟩
        obtain ⟨v1, ⟨v2, v3, v4⟩, v5⟩ := w4 g q
        exact ⟨by rw [keep _ _ (by omega) (by omega) (by omega) (by omega) (by omega)]; exact v1, ⟨by rw [keep _ _ (by omega) (by omega) (by omega) (by omega) (by omega)]; exact v2, v3, fun j hj => by rw [keep _ _ (by omega) (by omega) (by omega) (by omega) (by omega)]; exact v4 j hj⟩, by rw [keep _ _ (by omega) (by omega) (by omega) (by omega) (by omega)]; exact v5⟩
      · subst c
        refine ⟨by rw [f3.i _ _ (fx_F (by omega))]; exact e72, fun j' hj' => by rw [f3.i _ _ (fx_F (by omega))]; exact bn j' (by omega), fun z => by rw [f3.i _ _ (fx_F (by omega)), e74, q4 z], fun g z => ?_⟩
        have eo := o4 g z
        subst eo
        exact ⟨by rw [f3.i _ _ (fx_F (by omega)), e74, q5 g z], c3, s3⟩
    | succ e ihe =>
      intro j G2 hj g2 bn
      have e72 : mg_i G2 72 k = nI (tr.getD k ([], none)).1.length := by rw [g2.i _ _ (decide_eq_false (by omega)), mg_i_i, if_neg (by omega), mg_i_i, if_pos ⟨rfl, rfl⟩]
      have e22 : mg_i G2 (22 + k) j = (tr.getD k ([], none)).1.getD j (nI 0) := by
        rw [g2.i _ _ (decide_eq_false (by omega)), mg_i_i, if_neg (by omega), mg_i_i, if_neg (by omega), f1.i _ _ (fTc_F (by omega))]
        exact t2 j (by omega)
      have hv6 : vp_in (nI j) 6 := (ki_vp (by omega)).2 (by omega)
      refine p_X11_copy_52 _ _ ?_
      rw [nI_clamp (n := k) (by omega), e72, nI_clamp (n := j) (by omega), e22, nI_add, nI_add]
      refine ⟨hv, fun y => absurd y (nI_ge (by omega) (by omega)), fun _ => ⟨hv, hv, hv6, hv6, ihe (j + 1) _ (by omega) (g2.si (decide_eq_true rfl)) (fun u hu => ?_)⟩⟩
      rw [mg_i_i]
      by_cases c : u = j
      · rw [if_pos ⟨rfl, c⟩, c]
      · rw [if_neg (fun z => c z.2)]; exact bn u (by omega)
/-! what a text without fault tells is in order -/
theorem pnm_ok {tb : tb_T} {N : Nat} : ∀ (m : Nat) (xs : List Int32) (t : Nat) (ys : List Int32) (t' : Nat), okt_ tb t → xs.length ≤ N → pnm_ tb N m xs t = .inr (ys, t') → okt_ tb t' ∧ ys.length ≤ N
  | 0, xs, t, ys, t', _, _, h => by cases h
  | m + 1, xs, t, ys, t', ho, hl, h => by
    unfold pnm_ at h
    by_cases c : tkk_ tb t = 3 ∨ tkk_ tb t = 8
    · rw [if_pos c] at h
      by_cases c2 : xs.length < N
      · rw [if_pos c2] at h
        obtain ⟨⟨x, t1⟩, e1, h⟩ := bd_inr h
        obtain ⟨-, -, n3, -⟩ := nu_ok ho e1
        have el : (xs ++ [x]).length = xs.length + 1 := List.length_append
        exact pnm_ok m (xs ++ [x]) t1 ys t' n3 (by omega) h
      · rw [if_neg c2] at h; cases h
    · rw [if_neg c] at h
      have h := Sum.inr.inj h
      simp only [Prod.mk.injEq] at h
      obtain ⟨rfl, rfl⟩ := h
      exact ⟨ho, hl⟩
theorem ptr_ok {tb : tb_T} {t t' : Nat} {x : List Int32 × Option (List Int32)} (ho : okt_ tb t) (h : ptr_ tb t = .inr (x, t')) : okt_ tb t' ∧ x.1.length ≤ 6 ∧ ∀ g, x.2 = some g → g.length ≤ 8 := by
  unfold ptr_ at h
  obtain ⟨t1, e1, h⟩ := bd_inr h
  obtain ⟨rfl, k1, l1⟩ := ac_inr e1
  obtain ⟨⟨xs, t2⟩, e2, h⟩ := bd_inr h
  obtain ⟨o2, l2⟩ := pnm_ok 7 [] _ xs t2 (okt_succ ho (by omega)) (Nat.zero_le _) e2
  obtain ⟨⟨g, t3⟩, e3, h⟩ := bd_inr h
  obtain ⟨t4, e4, h⟩ := bd_inr h
  obtain ⟨rfl, k4, l4⟩ := ac_inr e4
  have k4 : tkk_ tb t3 = 4 := k4
  have h := Sum.inr.inj h
  simp only [Prod.mk.injEq] at h
  obtain ⟨rfl, rfl⟩ := h
  have key : okt_ tb t3 ∧ ∀ g', g = some g' → g'.length ≤ 8 := by
    by_cases c : tkk_ tb t2 = 38
    · simp only [if_pos c] at e3
      obtain ⟨t5, e5, e3⟩ := bd_inr e3
      obtain ⟨rfl, k5, l5⟩ := ac_inr e5
      obtain ⟨⟨ys, t6⟩, e6, e3⟩ := bd_inr e3
      obtain ⟨o6, l6⟩ := pnm_ok 9 [] _ ys t6 (okt_succ o2 (by omega)) (Nat.zero_le _) e6
      have e3 := Sum.inr.inj e3
      simp only [Prod.mk.injEq] at e3
      obtain ⟨rfl, rfl⟩ := e3
      exact ⟨o6, fun g' q => by cases q; exact l6⟩
    · simp only [if_neg c] at e3
      have e3 := Sum.inr.inj e3
      simp only [Prod.mk.injEq] at e3
      obtain ⟨rfl, rfl⟩ := e3
      exact ⟨o2, fun g' q => (by cases q)⟩
  exact ⟨okt_succ key.1 (by omega), l2, key.2⟩
theorem pfu_ok {tb : tb_T} {nt nt' : Option Nat} {t t' fu : Nat} (ho : okt_ tb t) (h : pfu_ tb nt t = .inr (fu, nt', t')) : okt_ tb t' ∧ (nt' = none → nt = none ∧ fu ≤ 300) := by
  unfold pfu_ at h
  obtain ⟨t1, e1, h⟩ := bd_inr h
  obtain ⟨rfl, k1, l1⟩ := ac_inr e1
  obtain ⟨t2, e2, h⟩ := bd_inr h
  obtain ⟨rfl, k2, l2⟩ := ac_inr e2
  obtain ⟨t3, e3, h⟩ := bd_inr h
  obtain ⟨rfl, k3, l3⟩ := ac_inr e3
  have h := Sum.inr.inj h
  simp only [Prod.mk.injEq] at h
  obtain ⟨rfl, rfl, rfl⟩ := h
  refine ⟨okt_succ (okt_succ (okt_succ ho (by omega)) (by omega)) (show 2 ≤ tkk_ tb (t + 1 + 1) by rw [k3]; decide), fun q => ?_⟩
  by_cases c : 1 ≤ tkv_ tb (t + 1) ∧ tkv_ tb (t + 1) ≤ 300
  · rw [if_pos c] at q; exact ⟨q, c.2⟩
  · rw [if_neg c] at q; exact absurd q nn_none
