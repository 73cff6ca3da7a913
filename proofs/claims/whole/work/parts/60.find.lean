/-! rows sought: the component's search -/
theorem vl_lt {L : Nat} {f : Nat → Nat} : ∀ n, (∀ i, i < n → f i < L) → vl_ L f n < L ^ n
  | 0, _ => by show 0 < 1; decide
  | n + 1, h => by
    have h1 := vl_lt n (fun i hi => h i (by omega))
    have h2 := h n (by omega)
    show vl_ L f n * L + f n < L ^ n * L
    have h3 : (vl_ L f n + 1) * L ≤ L ^ n * L := Nat.mul_le_mul_right L h1
    rw [Nat.add_mul, Nat.one_mul] at h3
    omega
theorem vl_0 (L : Nat) : ∀ n, vl_ L (fun _ => 0) n = 0
  | 0 => rfl
  | n + 1 => by
    show vl_ L (fun _ => 0) n * L + 0 = 0
    rw [vl_0 L n]
    omega
theorem s_find {l : Launch} {κ : mm_K} {d : Nat} {G : mm_G} {K : Int32 → mm_G → Prop} {P : ps_T} {r m z : Nat} (hP : ps_ok P) (hC : cB_ G P) (hr : r < (ps_p P).length) (hm : m ≤ 1) (hz : z ≤ 5) (hL : z ≠ 0 → 0 < (px_at (ps_p P) r).length) (hpw : (px_at (ps_p P) r).length ^ z ≤ 30000)
    (h1 : ∀ G' f, fr_ fs_ G G' → fnd_ P (px_at (ps_p P) r) r m z f → (∀ i, i < z → mg_i G' 172 i = nI (f i)) → K (nI 1) G')
    (h0 : ∀ G', fr_ fs_ G G' → nof_ P (px_at (ps_p P) r) r m z → K (nI 0) G') : mC l κ true (d + 5) 0 0 m_X8_findOfSize [.ref 171, .ref (54 + 2 * r), .int (nI z), .int (nI m)] G (rI K) := by
  have hp := hP.1.1
  have hlen := hP.1.2.2 r
  have hR : RowAt (54 + 2 * r) := rc_row (rc_54 (by omega))
  refine e_X8_findOfSize _ hR _ _ ?_
  have hnum : mg_i G (54 + 2 * r) 2 = nI r := (hC.2.2.1 r (by omega)).2.1
  rw [hnum]
  -- the search
  have hsearch : ∀ w j G1 f, (px_at (ps_p P) r).length ^ z - vl_ (px_at (ps_p P) r).length f z ≤ w → j ≤ vl_ (px_at (ps_p P) r).length f z → fr_ fs_ G G1 → kc_ G1 (px_at (ps_p P) r) r z f → (∀ i, i < z → f i < (px_at (ps_p P) r).length) → (∀ g, (∀ i, i < z → g i < (px_at (ps_p P) r).length) → vl_ (px_at (ps_p P) r).length g z < vl_ (px_at (ps_p P) r).length f z → sk_ok P (cf_ (px_at (ps_p P) r) z g) r m z = false) → mV l κ true (d + 5) 0 0 m_X8_findOfSize 61 [some (.ref 171), some (.ref (54 + 2 * r)), some (.int (nI z)), some (.int (nI m)), some (.int (nI j))] [] G1 (rI K) := by
    intro w
    induction w with
    | zero =>
      intro j G1 f hw hj f1 k1 d1 hno
      have := vl_lt z d1
      omega
    | succ w ih =>
      intro j G1 f hw hj f1 k1 d1 hno
      have hvl := vl_lt z d1
      refine p_X8_findOfSize_61 _ hR _ _ _ ⟨fun y => ?_, fun _ => s_suffices hP (hC.fs hP f1) hr hm hz d1 k1 (fun G2 f2 e2 => ?_)⟩
      · rw [nI_leI (by omega) (by omega)] at y
        omega
      · cases cs : sk_ok P (cf_ (px_at (ps_p P) r) z f) r m z with
        | true =>
          refine ⟨fun y => absurd y (by decide), fun _ => h1 G2 f (f1.trans f2.cs) ⟨d1, cs, hno⟩ (fun i hi => (k1.fc f2).2.2 i hi)⟩
        | false =>
          refine ⟨fun _ => ?_, fun y => absurd rfl y⟩
          obtain ⟨e5, e6⟩ := e2 cs
          have f12 := f1.trans f2.cs
          refine s_passOn (q := sq_ P (cf_ (px_at (ps_p P) r) z f) r m z) hP (hC.fs hP f12) hr hz hL d1 (k1.fc f2) e5 e6 (fun G3 f3 k3 => ?_)
          have hLz : z = 0 ∨ 0 < (px_at (ps_p P) r).length := by
            rcases Nat.eq_zero_or_pos z with y | y
            · exact Or.inl y
            · exact Or.inr (hL (by omega))
          -- what fails alike
          have halike : ∀ g, (∀ i, i < z → g i < (px_at (ps_p P) r).length) → (∀ i, i < z → i < sq_ P (cf_ (px_at (ps_p P) r) z f) r m z → g i = f i) → sk_ok P (cf_ (px_at (ps_p P) r) z g) r m z = false := by
            intro g hg hs
            refine sk_same (by rw [cf_len, cf_len]) cs (fun i hi => ?_)
            rw [cf_at (by omega), cf_at (by omega), hs i (by omega) hi]
          rcases hLz with y0 | hLp
          · subst y0
            show (¬ nI 0 = 0 → _) ∧ _
            refine ⟨fun y => absurd (by decide) y, fun _ => h0 G3 (f12.trans f3) (fun g hg => halike g hg (fun i hi => absurd hi (Nat.not_lt_zero i)))⟩
          · obtain ⟨p1, p2⟩ := po_next (L := (px_at (ps_p P) r).length) (q := sq_ P (cf_ (px_at (ps_p P) r) z f) r m z) hLp z f d1
            -- all before the next fail
            have hbefore : ∀ g, (∀ i, i < z → g i < (px_at (ps_p P) r).length) → ((po_ (px_at (ps_p P) r).length (sq_ P (cf_ (px_at (ps_p P) r) z f) r m z) z f).1 = true → vl_ (px_at (ps_p P) r).length g z < vl_ (px_at (ps_p P) r).length (po_ (px_at (ps_p P) r).length (sq_ P (cf_ (px_at (ps_p P) r) z f) r m z) z f).2 z) → sk_ok P (cf_ (px_at (ps_p P) r) z g) r m z = false := by
              intro g hg hlt
              rcases Nat.lt_trichotomy (vl_ (px_at (ps_p P) r).length g z) (vl_ (px_at (ps_p P) r).length f z) with y | y | y
              · exact hno g hg y
              · have := vl_inj z hg d1 y
                exact halike g hg (fun i hi _ => this i hi)
              · exact halike g hg (p2 g hg y hlt)
            cases cp : (po_ (px_at (ps_p P) r).length (sq_ P (cf_ (px_at (ps_p P) r) z f) r m z) z f).1 with
            | true =>
              refine ⟨fun _ => ?_, fun y => absurd y (by decide)⟩
              rw [nI_add]
              have hp1 := p1 cp
              exact ih (j + 1) G3 _ (by omega) (by omega) (f12.trans f3) k3 (po_dig hLp z f d1) (fun g hg hlt => hbefore g hg (fun _ => hlt))
            | false =>
              refine ⟨fun y => absurd rfl y, fun _ => h0 G3 (f12.trans f3) (fun g hg => hbefore g hg (fun y => by rw [cp] at y; cases y))⟩
  -- the first candidate
  have f0 : fr_ fs_ G (ms_i (ms_i G 173 2 (nI r)) 173 1 (nI z)) := (fr_.rfl'.si (by unfold fs_; simp)).si (by unfold fs_; simp)
  suffices H : ∀ w i G1, i + w = z → fr_ fs_ G G1 → mg_i G1 173 1 = nI z → mg_i G1 173 2 = nI r → (∀ j, j < i → mg_i G1 172 j = nI 0 ∧ mg_r G1 174 j = mg_r G (54 + 2 * r + 1) 0) → mV l κ true (d + 5) 0 0 m_X8_findOfSize 22 [some (.ref 171), some (.ref (54 + 2 * r)), some (.int (nI z)), some (.int (nI m)), some (.int (nI i))] [] G1 (rI K) from
    H z 0 _ (Nat.zero_add _) f0 (by simp only [mg_i_i, mg_i_l, mg_i_r, mg_i_b, mg_l_i, mg_l_l, mg_l_r, mg_l_b, mg_r_i, mg_r_l, mg_r_r, mg_r_b, false_and, and_false, true_and, and_true, reduceCtorEq, if_true, if_false, reduceIte, Nat.reduceEqDiff, Nat.reduceAdd, Nat.succ_ne_self, ne_eq, not_false_eq_true, not_true_eq_false]) (by simp only [mg_i_i, mg_i_l, mg_i_r, mg_i_b, mg_l_i, mg_l_l, mg_l_r, mg_l_b, mg_r_i, mg_r_l, mg_r_r, mg_r_b, false_and, and_false, true_and, and_true, reduceCtorEq, if_true, if_false, reduceIte, Nat.reduceEqDiff, Nat.reduceAdd, Nat.succ_ne_self, ne_eq, not_false_eq_true, not_true_eq_false]) (fun j hj => absurd hj (Nat.not_lt_zero j))
  intro w
  induction w with
  | zero =>
    intro i G1 hi f1 b1 b2 b3
    refine p_X8_findOfSize_22 _ hR _ _ _ ⟨fun _ => ?_, fun y => absurd (nI_le (by omega) (by omega)) y⟩
    refine hsearch _ 0 G1 (fun _ => 0) (Nat.le_refl _) (Nat.zero_le _) f1 ⟨⟨by rw [cf_len]; exact b1, by rw [cf_len]; omega, fun j hj => ?_⟩, b2, fun j hj => (b3 j (by omega)).1⟩ (fun j hj => hL (by omega)) (fun g hg hlt => ?_)
    · rw [cf_len] at hj
      have hLp := hL (by omega)
      obtain ⟨t0, t1, t2, t3, t4⟩ := (show ro_ G (54 + 2 * r) (px_at (ps_p P) r) from hC.1.2.1 r hr).2.2 0 hLp
      refine ⟨t0, by rw [(b3 j (by omega)).2]; exact t1, t2, by rw [f1.1]; exact t3, ?_⟩
      rw [rd_c.fr f1 (fun k => fs_F (by omega)), cf_at hj]
      exact t4
    · rw [vl_0] at hlt
      omega
  | succ w ih =>
    intro i G1 hi f1 b1 b2 b3
    have hLp := hL (by omega)
    obtain ⟨t0, t1, t2, t3, t4⟩ := (show ro_ G (54 + 2 * r) (px_at (ps_p P) r) from hC.1.2.1 r hr).2.2 0 hLp
    have e0 : (nI 0).toNatClampNeg = 0 := nI_clamp (by omega)
    refine p_X8_findOfSize_22 _ hR _ _ _ ⟨fun y => absurd y (nI_ge (by omega) (by omega)), fun _ => ⟨(ki_vp (by omega)).2 (by omega), (ki_vp (by omega)).2 (by omega), t0, ?_, ln_At t2, (ki_vp (by omega)).2 (by omega), ?_⟩⟩
    · rw [e0, f1.r _ _ (fs_F (by omega))]; exact t1
    · rw [nI_add, nI_clamp (by omega)]
      refine ih (i + 1) _ (by omega) ((f1.si (by unfold fs_; simp)).sr (by unfold fs_; simp)) (by simp only [mg_i_i, mg_i_l, mg_i_r, mg_i_b, mg_l_i, mg_l_l, mg_l_r, mg_l_b, mg_r_i, mg_r_l, mg_r_r, mg_r_b, false_and, and_false, true_and, and_true, reduceCtorEq, if_true, if_false, reduceIte, Nat.reduceEqDiff, Nat.reduceAdd, Nat.succ_ne_self, ne_eq, not_false_eq_true, not_true_eq_false]; exact b1) (by simp only [mg_i_i, mg_i_l, mg_i_r, mg_i_b, mg_l_i, mg_l_l, mg_l_r, mg_l_b, mg_r_i, mg_r_l, mg_r_r, mg_r_b, false_and, and_false, true_and, and_true, reduceCtorEq, if_true, if_false, reduceIte, Nat.reduceEqDiff, Nat.reduceAdd, Nat.succ_ne_self, ne_eq, not_false_eq_true, not_true_eq_false]; exact b2) (fun j hj => ?_)
      simp only [mg_i_i, mg_i_l, mg_i_r, mg_i_b, mg_l_i, mg_l_l, mg_l_r, mg_l_b, mg_r_i, mg_r_l, mg_r_r, mg_r_b, false_and, and_false, true_and, and_true, reduceCtorEq, if_true, if_false, reduceIte, Nat.reduceEqDiff, Nat.reduceAdd, Nat.succ_ne_self, ne_eq, not_false_eq_true, not_true_eq_false]
      by_cases y : j = i
      · rw [if_pos y, if_pos y, t1]
        exact ⟨rfl, rfl⟩
      · rw [if_neg y, if_neg y]
        exact b3 j (by omega)
/-! the search by size, kept -/
def cK_ (G : mm_G) (P : ps_T) : Prop := mg_i G 171 5 = -1 ∨ ∃ r n m f, r < (ps_p P).length ∧ n ≤ 5 ∧ m ≤ 1 ∧ mg_i G 171 5 = nI r ∧ mg_i G 171 6 = nI n ∧ mg_i G 171 7 = nI m ∧ isA_ P r n m (mg_i G 171 8) f ∧ ∀ z, z ≤ n → mg_i G 171 8 = nI z → ∀ i, i < z → mg_i G 172 i = nI (f i)
def fS_ (c k : Nat) : Bool := fs_ c k || decide (c = 171)
theorem fS_F {c k : Nat} (h : (c < 91 ∨ 97 < c) ∧ (c < 171 ∨ 174 < c)) : fS_ c k = false := by
  unfold fS_
  rw [fs_F (by omega)]
  simp
  omega
theorem fr_.sS {G G1 : mm_G} (h : fr_ fs_ G G1) : fr_ fS_ G G1 := h.mono (fun c k q => by unfold fS_ at q; simp only [Bool.or_eq_false_iff] at q; exact q.1)
theorem fS_on {c k : Nat} (h : rgB c k = true) : fS_ c k = false := fS_F (by have := rgB_iff.1 h; omega)
theorem cB_.fS {G G1 : mm_G} {P : ps_T} (h : cB_ G P) (hP : ps_ok P) (hf : fr_ fS_ G G1) : cB_ G1 P := h.on hP (hf.on (fun c k q => fS_on q)) (by rw [hf.1]; exact Nat.le_refl _)
theorem fs_171 {k : Nat} : fs_ 171 k = false := fs_F (by omega)
theorem s_seek {l : Launch} {κ : mm_K} {d : Nat} {G : mm_G} {K : Int32 → mm_G → Prop} {P : ps_T} {r n m : Nat} (hP : ps_ok P) (hC : cB_ G P) (hK : cK_ G P) (hr : r < (ps_p P).length) (hn : n ≤ 5) (hm : m ≤ 1)
    (h : ∀ G' a f, fr_ fS_ G G' → cK_ G' P → isA_ P r n m a f → (∀ z, z ≤ n → a = nI z → ∀ i, i < z → mg_i G' 172 i = nI (f i)) → K a G') : mC l κ true (d + 6) 0 0 m_X8_seek [.ref 171, .int (nI r), .int (nI n), .int (nI m)] G (rI K) := by
  have hp := hP.1.1
  have hlen := hP.1.2.2 r
  -- the search
  have hgo : mV l κ true (d + 6) 0 0 m_X8_seek 56 [some (.ref 171), some (.int (nI r)), some (.int (nI n)), some (.int (nI m)), some (.int (nI 1)), some (.int (nI 0))] [] (ms_i (ms_i (ms_i (ms_i G 171 5 (nI r)) 171 6 (nI n)) 171 7 (nI m)) 171 8 (-2)) (rI K) := by
    have f0 : fr_ fS_ G (ms_i (ms_i (ms_i (ms_i G 171 5 (nI r)) 171 6 (nI n)) 171 7 (nI m)) 171 8 (-2)) := (((fr_.rfl'.si (by unfold fS_; simp)).si (by unfold fS_; simp)).si (by unfold fS_; simp)).si (by unfold fS_; simp)
    -- the end
    have hend : ∀ G1 a f, fr_ fS_ G G1 → mg_i G1 171 5 = nI r → mg_i G1 171 6 = nI n → mg_i G1 171 7 = nI m → mg_i G1 171 8 = a → isA_ P r n m a f → (∀ z, z ≤ n → a = nI z → ∀ i, i < z → mg_i G1 172 i = nI (f i)) → K (mg_i G1 171 8) G1 := by
      intro G1 a f f1 b5 b6 b7 b8 hA hD
      rw [b8]
      exact h G1 a f f1 (Or.inr ⟨r, n, m, f, hr, hn, hm, b5, b6, b7, by rw [b8]; exact hA, by rw [b8]; exact hD⟩) hA hD
    suffices H : ∀ w s G1, s + w = n + 1 → fr_ fS_ G G1 → mg_i G1 171 5 = nI r → mg_i G1 171 6 = nI n → mg_i G1 171 7 = nI m → mg_i G1 171 8 = -2 → (∀ y, y < s → (px_at (ps_p P) r).length ^ y ≤ 30000 ∧ nof_ P (px_at (ps_p P) r) r m y) → (px_at (ps_p P) r).length ^ s ≤ 480000 → mV l κ true (d + 6) 0 0 m_X8_seek 56 [some (.ref 171), some (.int (nI r)), some (.int (nI n)), some (.int (nI m)), some (.int (nI ((px_at (ps_p P) r).length ^ s))), some (.int (nI s))] [] G1 (rI K) from
      H (n + 1) 0 _ (Nat.zero_add _) f0 (by simp only [mg_i_i, mg_i_l, mg_i_r, mg_i_b, mg_l_i, mg_l_l, mg_l_r, mg_l_b, mg_r_i, mg_r_l, mg_r_r, mg_r_b, false_and, and_false, true_and, and_true, reduceCtorEq, if_true, if_false, reduceIte, Nat.reduceEqDiff, Nat.reduceAdd, Nat.succ_ne_self, ne_eq, not_false_eq_true, not_true_eq_false]) (by simp only [mg_i_i, mg_i_l, mg_i_r, mg_i_b, mg_l_i, mg_l_l, mg_l_r, mg_l_b, mg_r_i, mg_r_l, mg_r_r, mg_r_b, false_and, and_false, true_and, and_true, reduceCtorEq, if_true, if_false, reduceIte, Nat.reduceEqDiff, Nat.reduceAdd, Nat.succ_ne_self, ne_eq, not_false_eq_true, not_true_eq_false]) (by simp only [mg_i_i, mg_i_l, mg_i_r, mg_i_b, mg_l_i, mg_l_l, mg_l_r, mg_l_b, mg_r_i, mg_r_l, mg_r_r, mg_r_b, false_and, and_false, true_and, and_true, reduceCtorEq, if_true, if_false, reduceIte, Nat.reduceEqDiff, Nat.reduceAdd, Nat.succ_ne_self, ne_eq, not_false_eq_true, not_true_eq_false]) (by simp only [mg_i_i, mg_i_l, mg_i_r, mg_i_b, mg_l_i, mg_l_l, mg_l_r, mg_l_b, mg_r_i, mg_r_l, mg_r_r, mg_r_b, false_and, and_false, true_and, and_true, reduceCtorEq, if_true, if_false, reduceIte, Nat.reduceEqDiff, Nat.reduceAdd, Nat.succ_ne_self, ne_eq, not_false_eq_true, not_true_eq_false]) (fun y hy => absurd hy (Nat.not_lt_zero y)) (by show 1 ≤ 480000; decide)
    intro w
    induction w with
    | zero =>
      intro s G1 hs f1 b5 b6 b7 b8 hno hle
      refine p_X8_seek_56 _ _ _ _ _ ⟨fun _ => hend G1 (-2) (fun _ => 0) f1 b5 b6 b7 b8 (Or.inr (Or.inr ⟨rfl, fun y hy => hno y (by omega)⟩)) (fun z hz e => absurd e.symm (ki_m2 (by omega))), fun y => absurd (nI_lt (by omega) (by omega)) y⟩
    | succ w ih =>
      intro s G1 hs f1 b5 b6 b7 b8 hno hle
      have hC1 := hC.fS hP f1
      have hro : ro_ G1 (54 + 2 * r) (px_at (ps_p P) r) := hC1.1.2.1 r hr
      refine p_X8_seek_56 _ _ _ _ _ ⟨fun y => absurd y (nI_nlt (by omega) (by omega)), fun _ => ⟨fun y => ?_, fun y => ⟨fun z => absurd b8 z, fun _ => ⟨fun y2 => ⟨(ki_vp (by omega)).2 (by omega), ?_⟩, fun y2 => ⟨(ki_vp (by omega)).2 (by omega), ?_⟩⟩⟩⟩⟩
      · rw [ki_0, nI_leI (by omega) (by omega)] at y
        have hL0 : (px_at (ps_p P) r).length = 0 ∧ s ≠ 0 := by
          rcases Nat.eq_zero_or_pos (px_at (ps_p P) r).length with z | z
          · refine ⟨z, fun z2 => ?_⟩
            rw [z2] at y
            exact absurd y (by show ¬ 1 ≤ 0; decide)
          · have := Nat.pow_pos (n := s) z
            omega
        refine hend G1 (-2) (fun _ => 0) f1 b5 b6 b7 b8 (Or.inr (Or.inr ⟨rfl, fun v hv => ?_⟩)) (fun z hz e => absurd e.symm (ki_m2 (by omega)))
        rcases Nat.lt_or_ge v s with c | c
        · exact hno v c
        · refine ⟨?_, fun g hg => ?_⟩
          · rw [hL0.1, Nat.zero_pow (by omega)]
            decide
          · have := hg 0 (by omega)
            rw [hL0.1] at this
            omega
      · rw [nI_leI (by omega) (by omega)] at y2
        rw [ki_0, nI_leI (by omega) (by omega)] at y
        rw [nI_clamp (by omega)]
        have hL : s ≠ 0 → 0 < (px_at (ps_p P) r).length := by
          intro z
          rcases Nat.eq_zero_or_pos (px_at (ps_p P) r).length with c | c
          · rw [c, Nat.zero_pow (by omega)] at y
            exact absurd (Nat.le_refl 0) y
          · exact c
        refine s_find hP hC1 hr hm (by omega) hL y2 (fun G2 f f2 hf hd => ?_) (fun G2 f2 hn0 => ?_)
        · refine ⟨fun z => absurd z (by decide), fun _ => ⟨(ki_vp (by omega)).2 (by omega), ?_⟩⟩
          have b52 : mg_i G2 171 5 = nI r := by rw [f2.i _ _ fs_171]; exact b5
          have b62 : mg_i G2 171 6 = nI n := by rw [f2.i _ _ fs_171]; exact b6
          have b72 : mg_i G2 171 7 = nI m := by rw [f2.i _ _ fs_171]; exact b7
          have f3 : fr_ fS_ G (ms_i G2 171 8 (nI s)) := (f1.trans f2.sS).si (by unfold fS_; simp)
          have hA : isA_ P r n m (nI s) f := Or.inl ⟨s, by omega, rfl, hno, y2, hf⟩
          have hlast := hend (ms_i G2 171 8 (nI s)) (nI s) f f3 (by simp only [mg_i_i, mg_i_l, mg_i_r, mg_i_b, mg_l_i, mg_l_l, mg_l_r, mg_l_b, mg_r_i, mg_r_l, mg_r_r, mg_r_b, false_and, and_false, true_and, and_true, reduceCtorEq, if_true, if_false, reduceIte, Nat.reduceEqDiff, Nat.reduceAdd, Nat.succ_ne_self, ne_eq, not_false_eq_true, not_true_eq_false]; exact b52) (by simp only [mg_i_i, mg_i_l, mg_i_r, mg_i_b, mg_l_i, mg_l_l, mg_l_r, mg_l_b, mg_r_i, mg_r_l, mg_r_r, mg_r_b, false_and, and_false, true_and, and_true, reduceCtorEq, if_true, if_false, reduceIte, Nat.reduceEqDiff, Nat.reduceAdd, Nat.succ_ne_self, ne_eq, not_false_eq_true, not_true_eq_false]; exact b62) (by simp only [mg_i_i, mg_i_l, mg_i_r, mg_i_b, mg_l_i, mg_l_l, mg_l_r, mg_l_b, mg_r_i, mg_r_l, mg_r_r, mg_r_b, false_and, and_false, true_and, and_true, reduceCtorEq, if_true, if_false, reduceIte, Nat.reduceEqDiff, Nat.reduceAdd, Nat.succ_ne_self, ne_eq, not_false_eq_true, not_true_eq_false]; exact b72) (by simp only [mg_i_i, mg_i_l, mg_i_r, mg_i_b, mg_l_i, mg_l_l, mg_l_r, mg_l_b, mg_r_i, mg_r_l, mg_r_r, mg_r_b, false_and, and_false, true_and, and_true, reduceCtorEq, if_true, if_false, reduceIte, Nat.reduceEqDiff, Nat.reduceAdd, Nat.succ_ne_self, ne_eq, not_false_eq_true, not_true_eq_false]) hA (fun z hz e i hi => by
            have : s = z := (nI_eq (by omega) (by omega)).1 e
            subst this
            simp only [mg_i_i, mg_i_l, mg_i_r, mg_i_b, mg_l_i, mg_l_l, mg_l_r, mg_l_b, mg_r_i, mg_r_l, mg_r_r, mg_r_b, false_and, and_false, true_and, and_true, reduceCtorEq, if_true, if_false, reduceIte, Nat.reduceEqDiff, Nat.reduceAdd, Nat.succ_ne_self, ne_eq, not_false_eq_true, not_true_eq_false]
            exact hd i hi)
          refine p_X8_seek_56 _ _ _ _ _ ⟨fun _ => hlast, fun _ => ⟨fun _ => hlast, fun _ => ⟨fun _ => hlast, fun z => ?_⟩⟩⟩
          simp only [mg_i_i, mg_i_l, mg_i_r, mg_i_b, mg_l_i, mg_l_l, mg_l_r, mg_l_b, mg_r_i, mg_r_l, mg_r_r, mg_r_b, false_and, and_false, true_and, and_true, reduceCtorEq, if_true, if_false, reduceIte, Nat.reduceEqDiff, Nat.reduceAdd, Nat.succ_ne_self, ne_eq, not_false_eq_true, not_true_eq_false] at z
          exact absurd z (ki_m2 (by omega))
        · refine ⟨fun _ => ⟨(ki_vp (by omega)).2 (by omega), ?_⟩, fun z => absurd rfl z⟩
          have hC2 := hC1.fs hP f2
          rw [show mg_i G2 (54 + 2 * r) 1 = nI (px_at (ps_p P) r).length from (hC2.1.2.1 r hr).1, ki_mul, nI_add, ← Nat.pow_succ]
          refine ih (s + 1) G2 (by omega) (f1.trans f2.sS) (by rw [f2.i _ _ fs_171]; exact b5) (by rw [f2.i _ _ fs_171]; exact b6) (by rw [f2.i _ _ fs_171]; exact b7) (by rw [f2.i _ _ fs_171]; exact b8) (fun v hv => ?_) ?_
          · rcases Nat.lt_succ_iff_lt_or_eq.mp hv with c | c
            · exact hno v c
            · subst c; exact ⟨y2, hn0⟩
          · rw [Nat.pow_succ]
            have : (px_at (ps_p P) r).length ^ s * (px_at (ps_p P) r).length ≤ 30000 * 16 := Nat.mul_le_mul y2 hlen
            omega
      · rw [nI_leI (by omega) (by omega)] at y2
        have f3 : fr_ fS_ G (ms_i G1 171 8 (-3)) := f1.si (by unfold fS_; simp)
        have hlast := hend (ms_i G1 171 8 (-3)) (-3) (fun _ => 0) f3 (by simp only [mg_i_i, mg_i_l, mg_i_r, mg_i_b, mg_l_i, mg_l_l, mg_l_r, mg_l_b, mg_r_i, mg_r_l, mg_r_r, mg_r_b, false_and, and_false, true_and, and_true, reduceCtorEq, if_true, if_false, reduceIte, Nat.reduceEqDiff, Nat.reduceAdd, Nat.succ_ne_self, ne_eq, not_false_eq_true, not_true_eq_false]; exact b5) (by simp only [mg_i_i, mg_i_l, mg_i_r, mg_i_b, mg_l_i, mg_l_l, mg_l_r, mg_l_b, mg_r_i, mg_r_l, mg_r_r, mg_r_b, false_and, and_false, true_and, and_true, reduceCtorEq, if_true, if_false, reduceIte, Nat.reduceEqDiff, Nat.reduceAdd, Nat.succ_ne_self, ne_eq, not_false_eq_true, not_true_eq_false]; exact b6) (by simp only [mg_i_i, mg_i_l, mg_i_r, mg_i_b, mg_l_i, mg_l_l, mg_l_r, mg_l_b, mg_r_i, mg_r_l, mg_r_r, mg_r_b, false_and, and_false, true_and, and_true, reduceCtorEq, if_true, if_false, reduceIte, Nat.reduceEqDiff, Nat.reduceAdd, Nat.succ_ne_self, ne_eq, not_false_eq_true, not_true_eq_false]; exact b7) (by simp only [mg_i_i, mg_i_l, mg_i_r, mg_i_b, mg_l_i, mg_l_l, mg_l_r, mg_l_b, mg_r_i, mg_r_l, mg_r_r, mg_r_b, false_and, and_false, true_and, and_true, reduceCtorEq, if_true, if_false, reduceIte, Nat.reduceEqDiff, Nat.reduceAdd, Nat.succ_ne_self, ne_eq, not_false_eq_true, not_true_eq_false]) (Or.inr (Or.inl ⟨rfl, s, by omega, hno, by omega⟩)) (fun z hz e => by
          exfalso
          have := congrArg Int32.toInt e
          rw [nI_toInt (by omega)] at this
          have e3 : (-3 : Int32).toInt = -3 := by decide +kernel
          omega)
        refine p_X8_seek_56 _ _ _ _ _ ⟨fun _ => hlast, fun _ => ⟨fun _ => hlast, fun _ => ⟨fun _ => hlast, fun z => ?_⟩⟩⟩
        simp only [mg_i_i, mg_i_l, mg_i_r, mg_i_b, mg_l_i, mg_l_l, mg_l_r, mg_l_b, mg_r_i, mg_r_l, mg_r_r, mg_r_b, false_and, and_false, true_and, and_true, reduceCtorEq, if_true, if_false, reduceIte, Nat.reduceEqDiff, Nat.reduceAdd, Nat.succ_ne_self, ne_eq, not_false_eq_true, not_true_eq_false] at z
        exact absurd z (by decide)
  refine e_X8_seek _ _ _ ⟨fun _ => hgo, fun e5 => ⟨fun _ => hgo, fun e6 => ⟨fun _ => hgo, fun e7 => ?_⟩⟩⟩
  rcases hK with c | ⟨r', n', m', f, c1, c2, c3, c5, c6, c7, c8, c9⟩
  · rw [c, ki_m1' (by omega)] at e5
    exact e5.elim
  · have er : r' = r := (nI_eq (by omega) (by omega)).1 (c5.symm.trans e5)
    have en : n' = n := (nI_eq (by omega) (by omega)).1 (c6.symm.trans e6)
    have em : m' = m := (nI_eq (by omega) (by omega)).1 (c7.symm.trans e7)
    subst er en em
    exact h G _ f fr_.rfl' (Or.inr ⟨r', n', m', f, c1, c2, c3, c5, c6, c7, c8, c9⟩) c8 c9
