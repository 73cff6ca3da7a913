/-! ways, mean: both sides -/
theorem s_small {l : Launch} {κ : mm_K} {d : Nat} {G : mm_G} {K : Int32 → mm_G → Prop} {P : ps_T} {r : Nat} (hP : ps_ok P) (hC : cB_ G P) (hr : r < (ps_p P).length) (h : K (if (px_at (ps_p P) r).length ≤ 12 then nI 1 else nI 0) G) : mC l κ true d 0 0 m_X12_isSmall [.ref 0, .int (nI r)] G (rI K) := by
  have hp := hP.1.1
  have hlen := hP.1.2.2 r
  refine e_X12_isSmall _ ?_
  rw [nI_clamp (by omega), (hC.1.2.1 r hr).1, nI_ltI (by omega) (by omega)]
  refine ⟨(ki_vp (by omega)).2 (by omega), fun z => ?_, fun z => ?_⟩
  · rw [if_neg (by omega)] at h; exact h
  · rw [if_pos (by omega)] at h; exact h
theorem t_short {l : Launch} {κ : mm_K} {d : Nat} {G : mm_G} {K : Int32 → mm_G → Prop} {P : ps_T} {a r : Nat} (hP : ps_ok P) (hM : mB_ G P a) (hr : r < (ps_p P).length) (h : K (if (px_at (ps_p P) r).length ≤ 12 then nI 1 else nI 0) G) : mC l κ true (d + 1) 0 0 m_X13_isShort [.ref 226, .int (nI r)] G (rI K) := by
  have hlen := hP.1.2.2 r
  refine e_X13_isShort _ (t_lines hP hM hr ?_)
  rw [nI_ltI (by omega) (by omega)]
  refine ⟨fun z => ?_, fun z => ?_⟩
  · rw [if_neg (by omega)] at h; exact h
  · rw [if_pos (by omega)] at h; exact h
theorem t_waysOf {l : Launch} {κ : mm_K} {d : Nat} {G : mm_G} {K : Int64 → mm_G → Prop} {P : ps_T} {a r k : Nat} (hP : ps_ok P) (hM : mB_ G P a) (hr : r < (ps_p P).length) (h12 : (px_at (ps_p P) r).length ≤ 12) (hs : ks_ G P r) (hk : k ≤ 16) (h : K (lN (wz_ (sm_ P r) (px_at (ps_p P) r).length k (2 ^ (px_at (ps_p P) r).length))) G) : mC l κ true (d + 1) 0 0 m_X13_waysOf [.ref 226, .int (nI r), .int (nI k)] G (rL K) := by
  have hpow : 2 ^ (px_at (ps_p P) r).length ≤ 4096 := Nat.pow_le_pow_right (n := 2) (by decide) h12
  refine e_X13_waysOf _ _ ?_
  suffices H : ∀ w s, s + w = 2 ^ (px_at (ps_p P) r).length → mV l κ true (d + 1) 0 0 m_X13_waysOf 5 [some (.ref 226), some (.int (nI r)), some (.int (nI k)), some (.long (lN (wz_ (sm_ P r) (px_at (ps_p P) r).length k s))), none, some (.int (nI s))] [] G (rL K) from H _ 0 (Nat.zero_add _)
  intro w
  induction w with
  | zero =>
    intro s hw
    obtain rfl : s = 2 ^ (px_at (ps_p P) r).length := by omega
    refine p_X13_waysOf_5 _ _ _ _ (t_lines hP hM hr ?_)
    rw [ki_shl _ (by omega)]
    exact ⟨fun _ => h, fun z => absurd (nI_le (by omega) (by omega)) z⟩
  | succ w ih =>
    intro s hw
    have hsl : s < 2 ^ (px_at (ps_p P) r).length := by omega
    have hpc := pc_le hsl (by omega)
    refine p_X13_waysOf_5 _ _ _ _ (t_lines hP hM hr ?_)
    rw [ki_shl _ (by omega)]
    refine ⟨fun z => absurd z (nI_ge (by omega) (by omega)), fun _ => t_bits (by omega) ?_⟩
    rw [nI_eq (by omega) (by omega), nI_add, nI_clamp (by omega), (hs s hsl).2, lN_add]
    have e : wz_ (sm_ P r) (px_at (ps_p P) r).length k (s + 1) = wz_ (sm_ P r) (px_at (ps_p P) r).length k s + (if pc_ s = k then wy_ (sm_ P r) (px_at (ps_p P) r).length s else 0) := rfl
    refine ⟨fun z => ?_, fun z => ⟨(ki_vp (by omega)).2 (by omega), ?_⟩⟩
    · have := ih (s + 1) (by omega)
      rw [e, if_neg z, Nat.add_zero] at this
      exact this
    · have := ih (s + 1) (by omega)
      rw [e, if_pos z] at this
      exact this
def an_ways (P : ps_T) (a b : Int32) : Int64 := match ix_ (ps_p P).length a with
  | none => -1
  | some r => match ix_ ((px_at (ps_p P) r).length + 1) b with
    | none => -1
    | some k => if (px_at (ps_p P) r).length ≤ 12 then lN (wz_ (sm_ P r) (px_at (ps_p P) r).length k (2 ^ (px_at (ps_p P) r).length)) else -2
theorem c_ways {l : Launch} {κ : mm_K} {d : Nat} {G : mm_G} {K : Int64 → mm_G → Prop} {P : ps_T} (a b : Int32) (hP : ps_ok P) (hC : cB_ G P) (hL : cL_ G P) (hO : cO_ G P) (h : ∀ G', cL_ G' P → cO_ G' P → fr_ fO_ G G' → K (an_ways P a b) G') : mC l κ true (d + 7) 0 0 m_X12_ways [.ref 0, .int a, .int b] G (rL K) := by
  have hp := hP.1.1
  unfold an_ways at h
  refine e_X12_ways a b (s_hasRow a hC.1.1 hp (fun e => ⟨fun _ => ?_, fun q => absurd (by decide) q⟩) (fun r e hr ea => ⟨fun q => absurd q (by decide), fun _ => ?_⟩))
  · rw [e] at h; exact h G hL hO fr_.rfl'
  · rw [e] at h
    subst ea
    have hlen := hP.1.2.2 r
    rw [nI_clamp (by omega), (hC.1.2.1 r hr).1]
    simp only [] at h
    cases e2 : ix_ ((px_at (ps_p P) r).length + 1) b with
    | none =>
      rw [e2] at h
      have hh := h G hL hO fr_.rfl'
      rcases ix_q (n := (px_at (ps_p P) r).length) (by omega) e2 with z | ⟨z, z2⟩
      · exact ⟨fun _ => hh, fun y => absurd z y⟩
      · refine ⟨fun y => absurd y z, fun _ => ⟨(ki_vp (by omega)).2 (by omega), fun y => ?_, fun _ => hh⟩⟩
        rw [fa_lt] at z2
        rw [fa_le] at y
        omega
    | some k =>
      rw [e2] at h
      obtain ⟨k1, k2⟩ := ix_some (by omega) e2
      subst k2
      simp only [] at h
      refine ⟨fun y => ?_, fun _ => ⟨(ki_vp (by omega)).2 (by omega), fun _ => s_small hP hC hr ?_, fun y => absurd (nI_le (by omega) (by omega)) y⟩⟩
      · rw [ki_0, nI_ltI (by omega) (by omega)] at y; omega
      · by_cases c : (px_at (ps_p P) r).length ≤ 12
        · rw [if_pos c] at h ⊢
          refine ⟨fun y => absurd y (by decide), fun _ => e_X4_waysOf _ _ (s_reckon hP hC hL hO hr c (fun G2 l2 o2 k2 f2 => ?_))⟩
          refine ⟨fun y => ?_, fun _ => ⟨fun y => ?_, fun _ => ⟨(ki_vp (by omega)).2 (by omega), ?_⟩⟩⟩
          · rw [ki_0, nI_ltI (by omega) (by omega)] at y; omega
          · rw [nI_ltI (by omega) (by omega)] at y; omega
          · rw [nI_clamp (by omega), k2 k (by omega)]
            exact h G2 l2 o2 f2
        · rw [if_neg c] at h ⊢
          exact ⟨fun _ => h G hL hO fr_.rfl', fun y => absurd rfl y⟩
theorem m_ways {l : Launch} {κ : mm_K} {d : Nat} {G : mm_G} {K : Int64 → mm_G → Prop} {P : ps_T} {m : Nat} (a b : Int32) (hP : ps_ok P) (hM : mB_ G P m) (h : ∀ G', fr_ fB_ G G' → K (an_ways P a b) G') : mC l κ true (d + 8) 0 0 m_X13_ways [.ref 226, .int a, .int b] G (rL K) := by
  unfold an_ways at h
  refine e_X13_ways a b (t_isRow a hP hM (fun e => ⟨fun q => absurd (by decide) q, fun _ => ?_⟩) (fun r e hr ea => ⟨fun _ => ?_, fun q => absurd q (by decide)⟩))
  · rw [e] at h; exact h G fr_.rfl'
  · rw [e] at h
    subst ea
    have hlen := hP.1.2.2 r
    simp only [] at h
    refine t_short hP hM hr ?_
    by_cases c : (px_at (ps_p P) r).length ≤ 12
    · rw [if_pos c]
      refine ⟨fun _ => t_lines hP hM hr (t_in (n := (px_at (ps_p P) r).length + 1) b (nI_add _ _) (by omega) (fun e2 => ⟨fun q => absurd (by decide) q, fun _ => ?_⟩) (fun k e2 hk ek => ⟨fun _ => ?_, fun q => absurd q (by decide)⟩)), fun q => absurd q (by decide)⟩
      · rw [e2] at h; exact h G fr_.rfl'
      · rw [e2] at h
        subst ek
        simp only [if_pos c] at h
        exact t_fillSets hP hM hr c (fun G2 k2 f2 => t_waysOf hP (hM.fB f2) hr c k2 (by omega) (h G2 f2))
    · rw [if_neg c]
      refine ⟨fun q => absurd (by decide) q, fun _ => t_lines hP hM hr (t_in (n := (px_at (ps_p P) r).length + 1) b (nI_add _ _) (by omega) (fun e2 => ⟨fun _ => ?_, fun q => absurd (by decide) q⟩) (fun k e2 hk ek => ⟨fun q => absurd q (by decide), fun _ => ?_⟩))⟩
      · rw [e2] at h; exact h G fr_.rfl'
      · rw [e2] at h
        simp only [if_neg c] at h
        exact h G fr_.rfl'
def an_mean (P : ps_T) (a b : Int32) : Int64 := match ix_ (ps_p P).length a with
  | none => -1
  | some r => if (px_at (ps_p P) r).length ≤ 12 then me_a (sm_ P r) (px_at (ps_p P) r).length b else -2
theorem c_mean {l : Launch} {κ : mm_K} {d : Nat} {G : mm_G} {K : Int64 → mm_G → Prop} {P : ps_T} (a b : Int32) (hP : ps_ok P) (hC : cB_ G P) (hL : cL_ G P) (hO : cO_ G P) (h : ∀ G', cL_ G' P → cO_ G' P → fr_ fO_ G G' → K (an_mean P a b) G') : mC l κ true (d + 7) 0 0 m_X12_mean [.ref 0, .int a, .int b] G (rL K) := by
  have hp := hP.1.1
  unfold an_mean at h
  refine e_X12_mean a b (s_hasRow a hC.1.1 hp (fun e => ⟨fun q => absurd (by decide) q, fun _ => ?_⟩) (fun r e hr ea => ⟨fun _ => ?_, fun q => absurd q (by decide)⟩))
  · rw [e] at h; exact h G hL hO fr_.rfl'
  · rw [e] at h
    subst ea
    simp only [] at h
    refine s_small hP hC hr ?_
    by_cases c : (px_at (ps_p P) r).length ≤ 12
    · rw [if_pos c] at h ⊢
      exact ⟨fun y => absurd y (by decide), fun _ => s_meanOf b hP hC hL hO hr c h⟩
    · rw [if_neg c] at h ⊢
      exact ⟨fun _ => h G hL hO fr_.rfl', fun y => absurd rfl y⟩
theorem m_mean {l : Launch} {κ : mm_K} {d : Nat} {G : mm_G} {K : Int64 → mm_G → Prop} {P : ps_T} {m : Nat} (a b : Int32) (hP : ps_ok P) (hM : mB_ G P m) (h : ∀ G', fr_ fB_ G G' → K (an_mean P a b) G') : mC l κ true (d + 8) 0 0 m_X13_mean [.ref 226, .int a, .int b] G (rL K) := by
  unfold an_mean at h
  refine e_X13_mean a b (t_isRow a hP hM (fun e => ⟨fun q => absurd (by decide) q, fun _ => ?_⟩) (fun r e hr ea => ⟨fun _ => ?_, fun q => absurd q (by decide)⟩))
  · rw [e] at h; exact h G fr_.rfl'
  · rw [e] at h
    subst ea
    have hlen := hP.1.2.2 r
    simp only [] at h
    refine t_short hP hM hr ?_
    by_cases c : (px_at (ps_p P) r).length ≤ 12
    · rw [if_pos c] at h ⊢
      refine ⟨fun _ => t_fillSets hP hM hr c (fun G2 k2 f2 => t_lines hP (hM.fB f2) hr ?_), fun q => absurd q (by decide)⟩
      have hh := h G2 f2
      have hM2 := hM.fB f2
      suffices H : ∀ n k, k + n = (px_at (ps_p P) r).length + 1 → mV l κ true (d + 8) 0 0 m_X13_mean 41 [some (.ref 226), some (.int (nI r)), some (.int b), some (.int (nI (px_at (ps_p P) r).length)), some (.long (lN (fb_sm (mt_f (sm_ P r) (px_at (ps_p P) r).length) k))), none, some (.int (nI k)), none, none, none] [] G2 (rL K) from H _ 0 (Nat.zero_add _)
      intro n
      induction n with
      | zero =>
        intro k hk
        obtain rfl : k = (px_at (ps_p P) r).length + 1 := by omega
        have hu := mt_u_lt (S := sm_ P r) c
        have hf := fxx_le c
        obtain ⟨g1, g2⟩ := gcd_ok (S := sm_ P r) c
        refine p_X13_mean_41 _ _ _ _ _ ⟨fun _ => t_orders (by omega) (t_common hu (by omega) ?_), fun z => absurd (nI_lt (by omega) (by omega)) z⟩
        unfold me_a at hh
        refine ⟨fun z => ⟨lN_z' (by unfold mt_u at g2; omega) (by unfold mt_u at g1; omega), ?_⟩, fun z => ⟨lN_z' (by unfold mt_u at g2; omega) (by unfold mt_u at g1; omega), ?_⟩⟩
        · rw [if_pos z] at hh; exact hh
        · rw [if_neg z] at hh; exact hh
      | succ n ih =>
        intro k hk
        refine p_X13_mean_41 _ _ _ _ _ ⟨fun z => absurd z (nI_nlt (by omega) (by omega)), fun _ => t_waysOf (d := d + 6) hP hM2 hr c k2 (by omega) ?_⟩
        rw [ki_sub (by omega)]
        refine t_orders (by omega) ?_
        rw [nI_add, lN_mul, lN_add]
        exact ih (k + 1) (by omega)
    · rw [if_neg c] at h ⊢
      exact ⟨fun q => absurd (by decide) q, fun _ => h G fr_.rfl'⟩
