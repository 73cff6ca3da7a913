/-! suspects: the reference -/
theorem t_canSuspect {l : Launch} {κ : mm_K} {d : Nat} {G : mm_G} {K : Int32 → mm_G → Prop} {P : ps_T} {w : Nat} (a b c : Int32) (hP : ps_ok P) (hM : mB_ G P w) (h0 : cq_ P a b c = none → K (nI 0) G) (h1 : ∀ r n k, cq_ P a b c = some (r, n, k) → r < (ps_p P).length → a = nI r → n ≤ 2 → b = nI n → k ≤ (ps_n P).2.length → c = nI k → (k ≠ 0 → (ps_n P).1 = r) → K (nI 1) G) : mC l κ true (d + 2) 0 0 m_X13_canSuspect [.ref 226, .int a, .int b, .int c] G (rI K) := by
  have hp := hP.1.1
  have hsx := hP.2.2.2.1
  have h20 := hsx.1
  have e4 : mg_i G 226 65 = nI (ps_n P).2.length := hM.2.2.2.2.1.1
  have e5 : (ps_n P).2.length ≠ 0 → mg_i G 226 66 = nI (ps_n P).1 := hM.2.2.2.2.1.2.1
  unfold cq_ at h0 h1
  refine e_X13_canSuspect a b c (t_isRow a hP hM (fun e => ⟨fun _ => h0 (by rw [e]), fun q => absurd (by decide) q⟩) (fun r e hr ea => ⟨fun q => absurd q (by decide), fun _ => ?_⟩))
  rw [e] at h0 h1
  refine t_in (n := 3) b (by decide) (by decide) (fun e2 => ⟨fun _ => h0 (by simp only [e2]), fun q => absurd (by decide) q⟩) (fun n e2 hn en => ⟨fun q => absurd q (by decide), fun _ => ?_⟩)
  simp only [e2] at h0 h1
  rw [e4]
  refine t_in (n := (ps_n P).2.length + 1) c (nI_add _ _) (by omega) (fun e3 => ⟨fun _ => h0 (by simp only [e3]), fun q => absurd (by decide) q⟩) (fun k e3 hk ek => ⟨fun q => absurd q (by decide), fun _ => ?_⟩)
  simp only [e3] at h0 h1
  subst ea en ek
  refine ⟨fun y => ?_, fun y => ?_⟩
  · rw [ki_0, nI_eq (by omega) (by omega)] at y
    exact h1 r n k (by rw [if_pos (Or.inl y)]) hr rfl (by omega) rfl (by omega) rfl (fun q => absurd y q)
  · rw [ki_0, nI_eq (by omega) (by omega)] at y
    have hs1 := hsx.2.1 (by omega)
    rw [e5 (by omega), nI_eq (by omega) (by omega)]
    exact ⟨fun z => h0 (by rw [if_neg (by omega)]), fun z => h1 r n k (by rw [if_pos (Or.inr z.symm)]) hr rfl (by omega) rfl (by omega) rfl (fun _ => z.symm)⟩
theorem t_asSeen {l : Launch} {κ : mm_K} {d : Nat} {G : mm_G} {K : Int32 → mm_G → Prop} {k : Nat} {o q : Nat × List Int32} (hk : k < 20) (o1 : mg_i G 226 55 = nI o.1) (o2 : mg_i G 226 51 = nI o.2.length) (o3 : ∀ j, j < o.2.length → mg_i G 258 j = o.2.getD j (nI 0)) (ho : o.1 < 100) (ho8 : o.2.length ≤ 8) (hq : mD_ G 269 270 271 k q) (hq1 : q.1 < 100) (hq8 : q.2.length ≤ 8) (h : K (if o = q then nI 1 else nI 0) G) : mC l κ true d 0 0 m_X13_isAsSeen [.ref 226, .int (nI k)] G (rI K) := by
  obtain ⟨q1, q2, q3⟩ := hq
  refine e_X13_isAsSeen _ ?_
  rw [nI_clamp (by omega), o1, o2, q1, q2, nI_eq (by omega) (by omega), nI_eq (by omega) (by omega)]
  refine ⟨(ki_vp (by omega)).2 (by omega), fun z => ?_, fun z => ⟨(ki_vp (by omega)).2 (by omega), fun z2 => ?_, fun z2 => ?_⟩⟩
  · rw [if_neg (fun e => z (by rw [e]))] at h; exact h
  · suffices H : ∀ n i, i + n = o.2.length → (∀ j, j < i → o.2.getD j (nI 0) = q.2.getD j (nI 0)) → mV l κ true d 0 0 m_X13_isAsSeen 30 [some (.ref 226), some (.int (nI k)), some (.int (nI i))] [] G (rI K) from H _ 0 (Nat.zero_add _) (fun j hj => absurd hj (Nat.not_lt_zero j))
    intro n
    induction n with
    | zero =>
      intro i hi hj
      refine p_X13_isAsSeen_30 _ _ ⟨fun _ => ?_, fun y => absurd (by rw [o2]; exact nI_le (by omega) (by omega)) y⟩
      rw [if_pos (Prod.ext z (ls_ext z2 (fun j y => hj j (by omega))))] at h
      exact h
    | succ n ih =>
      intro i hi hj
      refine p_X13_isAsSeen_30 _ _ ⟨fun y => absurd y (by rw [o2]; exact nI_ge (by omega) (by omega)), fun _ => ?_⟩
      rw [ki_mul, nI_add, nI_add, nI_clamp (by omega), nI_clamp (by omega), o3 i (by omega), q3 i (by omega)]
      refine ⟨(ki_vp (by omega)).2 (by omega), (ki_vp (by omega)).2 (by omega), fun y => ih (i + 1) (by omega) (fun j hj2 => ?_), fun y => ?_⟩
      · rcases Nat.lt_succ_iff_lt_or_eq.mp hj2 with c | c
        · exact hj j c
        · subst c; exact y
      · rw [if_neg (fun e => y (by rw [e]))] at h; exact h
  · rw [if_neg (fun e => z2 (by rw [e]))] at h; exact h
def cb_ (P : ps_T) (r s : Nat) : Nat → Bool
  | 0 => true
  | j + 1 => cb_ P r s j && decide (od_ (ps_p P) (ps_t P) (ps_f P) r s (sx_at (ps_n P) j).1 = se_ P r j)
theorem cb_no {P : ps_T} {r s j : Nat} (h : cb_ P r s j = false) : ∀ m, cb_ P r s (j + m) = false
  | 0 => h
  | m + 1 => by
    show (cb_ P r s (j + m) && _) = false
    rw [cb_no h m]
    rfl
theorem t_canBe {l : Launch} {κ : mm_K} {d : Nat} {G : mm_G} {K : Int32 → mm_G → Prop} {P : ps_T} {w r s k : Nat} (hP : ps_ok P) (hM : mB_ G P w) (hr : r < (ps_p P).length) (hs : s < 2 ^ (px_at (ps_p P) r).length) (hk : k ≤ (ps_n P).2.length) (hsr : k ≠ 0 → (ps_n P).1 = r)
    (h : ∀ G', fr_ fg_ G G' → K (if cb_ P r s k then nI 1 else nI 0) G') : mC l κ true (d + 5) 0 0 m_X13_canBe [.ref 226, .int (nI r), .int (nI s), .int (nI k)] G (rI K) := by
  have hsx := hP.2.2.2.1
  have h20 := hsx.1
  have h16 := px_len_lt (hP.1.2.2 r)
  refine e_X13_canBe _ _ _ (t_takesRow (d := d + 3) s hP hM hr (fun G1 p1 f1 => ?_))
  suffices H : ∀ n j G2, j + n = k → fr_ fm_ G1 G2 → cb_ P r s j = true → mV l κ true (d + 5) 0 0 m_X13_canBe 9 [some (.ref 226), some (.int (nI r)), some (.int (nI s)), some (.int (nI k)), some (.int (nI j))] [] G2 (rI K) from H k 0 G1 (Nat.zero_add _) fr_.rfl' rfl
  intro n
  induction n with
  | zero =>
    intro j G2 hj f2 hc
    obtain rfl : j = k := by omega
    refine p_X13_canBe_9 _ _ _ _ ⟨fun _ => ?_, fun y => absurd (nI_le (by omega) (by omega)) y⟩
    have hh := h G2 (f1.tg.trans f2.mg)
    rw [hc] at hh
    exact hh
  | succ n ih =>
    intro j G2 hj f2 hc
    have hM2 := (hM.fg f1.tg).fm f2
    obtain ⟨v1, v2⟩ := hsx.2.2 j (by omega)
    rw [hsr (by omega)] at v2
    refine p_X13_canBe_9 _ _ _ _ ⟨fun y => absurd y (nI_ge (by omega) (by omega)), fun _ => ⟨(ki_vp (by omega)).2 (by omega), ?_⟩⟩
    have e268 : mg_i G2 268 j = nI (sx_at (ps_n P) j).1 := (hM2.2.2.2.2.1.2.2 j (by omega)).1
    rw [nI_clamp (by omega), e268]
    refine t_run1 (d := d) hP hM2 (p1.fm f2) hr (hP.1.2.2 r) (px_ok hP hr) (by omega) v1 (fun G3 k1 k2 k3 => ?_)
    have hM3 := hM2.fm k2
    obtain ⟨o1, o2, o3, o4⟩ := rr_ok (k := (sx_at (ps_n P) j).1) (lo := s) hP hr (by omega)
    obtain ⟨u1, u2, u3, u4⟩ := rr_ok (k := (sx_at (ps_n P) j).1) (lo := (sx_at (ps_n P) j).2) hP hr (by omega)
    have hmd : mD_ G3 269 270 271 j (se_ P r j) := by
      have := (hM3.2.2.2.2.1.2.2 j (by omega)).2
      rw [hsr (by omega)] at this
      exact this
    refine t_asSeen (o := od_ (ps_p P) (ps_t P) (ps_f P) r s (sx_at (ps_n P) j).1) (q := se_ P r j) (by omega) k3 k1.1 (fun i hi => k1.2.2.1 i hi) (Nat.lt_of_le_of_lt o3 (by decide)) o1 hmd (Nat.lt_of_le_of_lt u3 (by decide)) u1 ?_
    by_cases e : od_ (ps_p P) (ps_t P) (ps_f P) r s (sx_at (ps_n P) j).1 = se_ P r j
    · rw [if_pos e]
      refine ⟨fun _ => ?_, fun y => absurd y (by decide)⟩
      rw [nI_add]
      refine ih (j + 1) G3 (by omega) (f2.trans k2) ?_
      show (cb_ P r s j && _) = true
      rw [hc, decide_eq_true e]
      rfl
    · rw [if_neg e]
      refine ⟨fun y => absurd rfl y, fun _ => ?_⟩
      have hF : cb_ P r s (j + 1) = false := by
        show (cb_ P r s j && _) = false
        rw [decide_eq_false e, Bool.and_false]
      have hF2 := cb_no hF n
      rw [show j + 1 + n = k by omega] at hF2
      have hh := h G3 (f1.tg.trans (f2.trans k2).mg)
      rw [hF2] at hh
      exact hh
