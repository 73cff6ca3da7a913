/-! losses: the reference -/
theorem mB_.fb {G G1 : mm_G} {P : ps_T} {m : Nat} (h : mB_ G P m) (hf : fr_ fb_ G G1) : mB_ G1 P m := h.on (hf.on (fun c k q => fb_on q))
theorem mB_.fg {G G1 : mm_G} {P : ps_T} {m : Nat} (h : mB_ G P m) (hf : fr_ fg_ G G1) : mB_ G1 P m := h.on (hf.on (fun c k q => fg_on q))
theorem mB_.fm {G G1 : mm_G} {P : ps_T} {m : Nat} (h : mB_ G P m) (hf : fr_ fm_ G G1) : mB_ G1 P m := h.on (hf.on (fun c k q => fm_on q))
theorem t_breaksOf {l : Launch} {κ : mm_K} {d : Nat} {G : mm_G} {K : Int32 → mm_G → Prop} {P : ps_T} {m r n : Nat} (hP : ps_ok P) (hM : mB_ G P m) (hr : r < (ps_p P).length) (hn : n ≤ 20)
    (h : ∀ G', fr_ fb_ G G' → K (br_a P r n) G') : mC l κ true (d + 7) 0 0 m_X13_breaksOf [.ref 226, .int (nI r), .int (nI n)] G (rI K) := by
  have hlen := hP.1.2.2 r
  have h16 := px_len_lt hlen
  refine e_X13_breaksOf _ _ (t_fillBase hP hM hr (fun G1 b1 _ f1 => ?_))
  suffices H : ∀ q s G2, s + q = 2 ^ (px_at (ps_p P) r).length → fr_ fg_ G1 G2 → (∀ x, x < s → br_p P r n x = false) → mV l κ true (d + 7) 0 0 m_X13_breaksOf 7 [some (.ref 226), some (.int (nI r)), some (.int (nI n)), some (.int (nI s))] [] G2 (rI K) from H _ 0 G1 (Nat.zero_add _) fr_.rfl' (fun x hx => absurd hx (Nat.not_lt_zero x))
  intro q
  induction q with
  | zero =>
    intro s G2 hs hf hno
    have hM2 := (hM.fb f1).fg hf
    refine p_X13_breaksOf_7 _ _ _ (t_lines hP hM2 hr ?_)
    rw [ki_shl _ (by omega)]
    refine ⟨fun _ => ?_, fun z => absurd (nI_le (by omega) (by omega)) z⟩
    have h := h G2 (f1.trans hf.gb)
    unfold br_a at h
    rw [show br_ P r n = 2 ^ (px_at (ps_p P) r).length from ff_no (fun x hx => hno x (by omega)), if_neg (Nat.lt_irrefl _)] at h
    exact h
  | succ q ih =>
    intro s G2 hs hf hno
    have hM2 := (hM.fb f1).fg hf
    have hpc := pc_le (n := s) (m := 16) (by omega) (by decide)
    refine p_X13_breaksOf_7 _ _ _ (t_lines hP hM2 hr ?_)
    rw [ki_shl _ (by omega)]
    refine ⟨fun z => absurd z (nI_ge (by omega) (by omega)), fun _ => t_bits (by omega) ?_⟩
    rw [nI_eq (by omega) (by omega)]
    have hstep : ∀ G3, fr_ fg_ G1 G3 → br_p P r n s = false → mV l κ true (d + 7) 0 0 m_X13_breaksOf 7 [some (.ref 226), some (.int (nI r)), some (.int (nI n)), some (.int (nI s + nI 1))] [] G3 (rI K) := by
      intro G3 g3 hb
      rw [nI_add]
      refine ih (s + 1) G3 (by omega) g3 (fun x hx => ?_)
      rcases Nat.lt_succ_iff_lt_or_eq.mp hx with c | c
      · exact hno x c
      · subst c; exact hb
    refine ⟨fun z => hstep G2 hf ?_, fun z => t_isSame hP hM2 hr (b1.fg hf) (by omega) (fun G3 g3 => ⟨fun z2 => hstep G3 (hf.trans g3) ?_, fun z2 => ?_⟩)⟩
    · unfold br_p; rw [decide_eq_false z]; rfl
    · have : sm_ P r s = true := by
        by_cases c : sm_ P r s = true
        · exact c
        · rw [if_neg c] at z2; exact absurd rfl z2
      unfold br_p; rw [this]; simp
    · have hs2 : sm_ P r s = false := by
        cases c : sm_ P r s with
        | false => rfl
        | true => rw [c] at z2; exact absurd z2 (by decide)
      have h := h G3 (f1.trans (hf.trans g3).gb)
      unfold br_a at h
      rw [show br_ P r n = s from ff_at hno (by unfold br_p; rw [decide_eq_true z, hs2]; rfl) (by omega), if_pos (by omega)] at h
      exact h
theorem t_idleOf {l : Launch} {κ : mm_K} {d : Nat} {G : mm_G} {K : Int32 → mm_G → Prop} {P : ps_T} {m r : Nat} (hP : ps_ok P) (hM : mB_ G P m) (hr : r < (ps_p P).length)
    (h : ∀ G', mb_ G' P r → fr_ fb_ G G' → K (nI (il_ P r (px_at (ps_p P) r).length)) G') : mC l κ true (d + 7) 0 0 m_X13_idleOf [.ref 226, .int (nI r)] G (rI K) := by
  have hlen := hP.1.2.2 r
  refine e_X13_idleOf _ (t_fillBase hP hM hr (fun G1 b1 _ f1 => ?_))
  suffices H : ∀ n i G2, i + n = (px_at (ps_p P) r).length → fr_ fg_ G1 G2 → mV l κ true (d + 7) 0 0 m_X13_idleOf 9 [some (.ref 226), some (.int (nI r)), some (.int (nI (il_ P r i))), some (.int (nI i))] [] G2 (rI K) from H _ 0 G1 (Nat.zero_add _) fr_.rfl'
  intro n
  induction n with
  | zero =>
    intro i G2 hi hf
    refine p_X13_idleOf_9 _ _ _ (t_lines hP ((hM.fb f1).fg hf) hr ⟨fun _ => ?_, fun z => absurd (nI_le (by omega) (by omega)) z⟩)
    have h := h G2 (b1.fg hf) (f1.trans hf.gb)
    rw [show (px_at (ps_p P) r).length = i by omega] at h
    exact h
  | succ n ih =>
    intro i G2 hi hf
    have hM2 := (hM.fb f1).fg hf
    refine p_X13_idleOf_9 _ _ _ (t_lines hP hM2 hr ⟨fun z => absurd z (nI_ge (by omega) (by omega)), fun _ => ?_⟩)
    rw [ki_shl _ (by omega)]
    refine t_isSame hP hM2 hr (b1.fg hf) (tp_lt (by omega)) (fun G3 g3 => ⟨fun z => ?_, fun z => ?_⟩)
    · rw [nI_add]
      have hI := ih (i + 1) G3 (by omega) (hf.trans g3)
      have hs2 : ¬ sm_ P r (2 ^ i) = true := fun c => by rw [if_pos c] at z; exact absurd z (by decide)
      rw [show il_ P r (i + 1) = il_ P r i from if_neg hs2] at hI
      exact hI
    · rw [nI_add, fa_or]
      have hI := ih (i + 1) G3 (by omega) (hf.trans g3)
      have hs2 : sm_ P r (2 ^ i) = true := by
        by_cases c : sm_ P r (2 ^ i) = true
        · exact c
        · rw [if_neg c] at z; exact absurd rfl z
      rw [show il_ P r (i + 1) = il_ P r i ||| 2 ^ i from if_pos hs2] at hI
      exact hI
theorem t_harmOf {l : Launch} {κ : mm_K} {d : Nat} {G : mm_G} {K : Int32 → mm_G → Prop} {P : ps_T} {m r i : Nat} (hP : ps_ok P) (hM : mB_ G P m) (hr : r < (ps_p P).length) (hb : mb_ G P r) (hi : i < 16)
    (h : ∀ G', fr_ fg_ G G' → K (nI (hm_ P r i)) G') : mC l κ true (d + 5) 0 0 m_X13_harmOf [.ref 226, .int (nI r), .int (nI i)] G (rI K) := by
  have ht := hP.2.1.1
  have hm := hM.1
  refine e_X13_harmOf _ _ ?_
  rw [ki_shl _ (by omega)]
  refine t_takesRow _ hP hM hr (fun G1 p1 f1 => ?_)
  suffices H : ∀ n k G2, k + n = (ps_t P).length → fr_ fm_ G1 G2 → mV l κ true (d + 5) 0 0 m_X13_harmOf 13 [some (.ref 226), some (.int (nI r)), some (.int (nI i)), some (.int (nI (fb_ct (ot_ P r (2 ^ i)) k))), some (.int (nI k))] [] G2 (rI K) from H _ 0 G1 (Nat.zero_add _) fr_.rfl'
  intro n
  induction n with
  | zero =>
    intro k G2 hk hf
    have hM2 := (hM.fg f1.tg).fm hf
    refine p_X13_harmOf_13 _ _ _ _ ?_
    rw [hM2.2.1, nI_clamp (by omega), hM2.2.2.2.1.1]
    refine ⟨(ki_vp (by omega)).2 (by omega), fun _ => ?_, fun z => absurd (nI_le (by omega) (by omega)) z⟩
    have h := h G2 (f1.tg.trans hf.mg)
    unfold hm_ at h
    rw [show (ps_t P).length = k by omega] at h
    exact h
  | succ n ih =>
    intro k G2 hk hf
    have hM2 := (hM.fg f1.tg).fm hf
    refine p_X13_harmOf_13 _ _ _ _ ?_
    rw [hM2.2.1, nI_clamp (by omega), hM2.2.2.2.1.1]
    obtain ⟨o8, -, o3, -⟩ := rr_ok (k := k) hP hr (tp_lt hi)
    obtain ⟨o8', -, o3', -⟩ := rr_ok (k := k) hP hr (by decide : 0 < 65536)
    refine ⟨(ki_vp (by omega)).2 (by omega), fun z => absurd z (nI_ge (by omega) (by omega)), fun _ => t_run1 hP hM2 (p1.fm hf) hr (hP.1.2.2 r) (px_ok hP hr) (tp_lt hi) (by omega) (fun G3 g1 g2 g3 => ?_)⟩
    refine t_isAsBase (o := od_ (ps_p P) (ps_t P) (ps_f P) r (2 ^ i) k) (b := od_ (ps_p P) (ps_t P) (ps_f P) r 0 k) (by omega) g3 g1.1 g1.2.2.1 ((hb.fg (f1.tg.trans (hf.trans g2).mg)) k (by omega)) ⟨Nat.lt_of_le_of_lt o3 (by decide), o8⟩ ⟨Nat.lt_of_le_of_lt o3' (by decide), o8'⟩ ⟨fun z => ?_, fun z => ?_⟩
    · rw [nI_add]
      have hI := ih (k + 1) G3 (by omega) (hf.trans g2)
      rw [ct_F (p := ot_ P r (2 ^ i)) (n := k) (by
        by_cases ce : od_ (ps_p P) (ps_t P) (ps_f P) r (2 ^ i) k = od_ (ps_p P) (ps_t P) (ps_f P) r 0 k
        · exact decide_eq_false (fun q => q ce)
        · rw [if_neg ce] at z; exact absurd rfl z)] at hI
      exact hI
    · rw [nI_add, nI_add]
      have hI := ih (k + 1) G3 (by omega) (hf.trans g2)
      rw [ct_T (p := ot_ P r (2 ^ i)) (n := k) (by
        by_cases ce : od_ (ps_p P) (ps_t P) (ps_f P) r (2 ^ i) k = od_ (ps_p P) (ps_t P) (ps_f P) r 0 k
        · rw [if_pos ce] at z; exact absurd z (by decide)
        · exact decide_eq_true ce)] at hI
      exact hI
/-! the answers, on both sides -/
def an_same (P : ps_T) (a b : Int32) : Int32 := match ix2_ P two_ a b with
  | none => -1
  | some (r, lo) => if sm_ P r lo then nI 1 else nI 0
def an_differs (P : ps_T) (a b : Int32) : Int32 := match ix2_ P two_ a b with
  | none => -1
  | some (r, lo) => fo_a P r lo
def ixn_ (P : ps_T) (n : Nat) (a b : Int32) : Option (Nat × Nat) := match ix_ (ps_p P).length a, ix_ n b with
  | some r, some i => some (r, i)
  | _, _ => none
def an_breaks (P : ps_T) (a b : Int32) : Int32 := match ixn_ P 4 a b with
  | none => -1
  | some (r, n) => br_a P r n
def an_bears (P : ps_T) (a b : Int32) : Int32 := match ixn_ P 4 a b with
  | none => -1
  | some (r, n) => if br_ P r n < 2 ^ (px_at (ps_p P) r).length then nI 0 else nI 1
def an_row (P : ps_T) (f : Nat → Int32) (a : Int32) : Int32 := match ix_ (ps_p P).length a with
  | none => -1
  | some r => f r
def an_harm (P : ps_T) (a b : Int32) : Int32 := match ix2_ P id a b with
  | none => -1
  | some (r, i) => nI (hm_ P r i)
theorem c_same {l : Launch} {κ : mm_K} {d : Nat} {G : mm_G} {K : Int32 → mm_G → Prop} {P : ps_T} (a b : Int32) (hP : ps_ok P) (hC : cB_ G P) (hL : cL_ G P) (h : ∀ G', cL_ G' P → fr_ fl_ G G' → K (an_same P a b) G') : mC l κ true (d + 5) 0 0 m_X12_same [.ref 0, .int a, .int b] G (rI K) := by
  unfold an_same at h
  refine e_X12_same a b (s_hasLost a b hP hC (fun e => ⟨fun q => absurd (by decide) q, fun _ => ?_⟩) (fun r lo e hr ea hlo eb => ⟨fun _ => ?_, fun q => absurd q (by decide)⟩))
  · rw [e] at h; exact h G hL fr_.rfl'
  · rw [e] at h
    subst ea eb
    refine s_firstOther hP hC hL hr (lo_lt hP hlo) (fun G2 l2 f2 => ⟨fun z => ?_, fun z => ?_⟩)
    · have hh := h G2 l2 f2
      simp only [fo_F z] at hh
      exact hh
    · have hh := h G2 l2 f2
      simp only [fo_T hP z] at hh
      exact hh
theorem m_same {l : Launch} {κ : mm_K} {d : Nat} {G : mm_G} {K : Int32 → mm_G → Prop} {P : ps_T} {m : Nat} (a b : Int32) (hP : ps_ok P) (hM : mB_ G P m) (h : ∀ G', fr_ fb_ G G' → K (an_same P a b) G') : mC l κ true (d + 7) 0 0 m_X13_same [.ref 226, .int a, .int b] G (rI K) := by
  unfold an_same at h
  refine e_X13_same a b (t_isLost a b hP hM (fun e => ⟨fun q => absurd (by decide) q, fun _ => ?_⟩) (fun r lo e hr ea hlo eb => ⟨fun _ => ?_, fun q => absurd q (by decide)⟩))
  · rw [e] at h; exact h G fr_.rfl'
  · rw [e] at h
    subst ea eb
    refine t_fillBase hP hM hr (fun G1 b1 _ f1 => t_isSame hP (hM.fb f1) hr b1 (lo_lt hP hlo) (fun G2 f2 => ?_))
    have hh := h G2 (f1.trans f2.gb)
    simp only [] at hh
    cases c : sm_ P r lo with
    | true => rw [c] at hh; exact ⟨fun z => absurd z (by decide), fun _ => hh⟩
    | false => rw [c] at hh; exact ⟨fun _ => hh, fun z => absurd rfl z⟩
theorem c_differs {l : Launch} {κ : mm_K} {d : Nat} {G : mm_G} {K : Int32 → mm_G → Prop} {P : ps_T} (a b : Int32) (hP : ps_ok P) (hC : cB_ G P) (hL : cL_ G P) (h : ∀ G', cL_ G' P → fr_ fl_ G G' → K (an_differs P a b) G') : mC l κ true (d + 5) 0 0 m_X12_differs [.ref 0, .int a, .int b] G (rI K) := by
  unfold an_differs at h
  refine e_X12_differs a b (s_hasLost a b hP hC (fun e => ⟨fun _ => ?_, fun q => absurd (by decide) q⟩) (fun r lo e hr ea hlo eb => ⟨fun q => absurd q (by decide), fun _ => ?_⟩))
  · rw [e] at h; exact h G hL fr_.rfl'
  · rw [e] at h
    subst ea eb
    exact s_firstOther hP hC hL hr (lo_lt hP hlo) (fun G2 l2 f2 => h G2 l2 f2)
theorem m_differs {l : Launch} {κ : mm_K} {d : Nat} {G : mm_G} {K : Int32 → mm_G → Prop} {P : ps_T} {m : Nat} (a b : Int32) (hP : ps_ok P) (hM : mB_ G P m) (h : ∀ G', fr_ fb_ G G' → K (an_differs P a b) G') : mC l κ true (d + 6) 0 0 m_X13_differs [.ref 226, .int a, .int b] G (rI K) := by
  unfold an_differs at h
  refine e_X13_differs a b (t_isLost a b hP hM (fun e => ⟨fun q => absurd (by decide) q, fun _ => ?_⟩) (fun r lo e hr ea hlo eb => ⟨fun _ => ?_, fun q => absurd q (by decide)⟩))
  · rw [e] at h; exact h G fr_.rfl'
  · rw [e] at h
    subst ea eb
    refine t_fillBase hP hM hr (fun G1 b1 _ f1 => t_takesRow lo hP (hM.fb f1) hr (fun G2 p2 f2 => ?_))
    exact t_unlike hP ((hM.fb f1).fg f2.tg) hr (b1.fg f2.tg) p2 (hP.1.2.2 r) (px_ok hP hr) (lo_lt hP hlo) (fun G3 f3 => h G3 (f1.trans (f2.tg.trans f3.mg).gb))
theorem ix_3 {w : Int32} (h : ix_ 4 w = none) : w < 0 ∨ ¬ w ≤ nI 3 := by
  rcases ix_none (by decide) h with z | z
  · exact Or.inl z
  · right
    have z2 := z.2
    rw [fa_le, nI_toInt (by decide)] at z2
    rw [fa_le, nI_toInt (by decide)]
    omega
theorem c_breaks {l : Launch} {κ : mm_K} {d : Nat} {G : mm_G} {K : Int32 → mm_G → Prop} {P : ps_T} (a b : Int32) (hP : ps_ok P) (hC : cB_ G P) (hL : cL_ G P) (h : ∀ G', cL_ G' P → fr_ fl_ G G' → K (an_breaks P a b) G') : mC l κ true (d + 6) 0 0 m_X12_breaks [.ref 0, .int a, .int b] G (rI K) := by
  unfold an_breaks ixn_ at h
  refine e_X12_breaks a b (s_hasRow a hC.1.1 hP.1.1 (fun e => ⟨fun _ => ?_, fun q => absurd (by decide) q⟩) (fun r e hr ea => ⟨fun q => absurd q (by decide), fun _ => ?_⟩))
  · rw [e] at h; exact h G hL fr_.rfl'
  · rw [e] at h
    subst ea
    cases e4 : ix_ 4 b with
    | none =>
      rw [e4] at h
      have h := h G hL fr_.rfl'
      exact ⟨fun _ => h, fun z => ⟨fun z2 => (ix_3 e4).elim (fun y => absurd y z) (fun y => absurd z2 y), fun _ => h⟩⟩
    | some n =>
      rw [e4] at h
      obtain ⟨hn, en⟩ := ix_some (by decide) e4
      subst en
      exact ⟨fun z => absurd z (nI_pos (by omega)), fun _ => ⟨fun _ => s_firstBroken hP hC hL hr (by omega) (fun G2 l2 f2 => h G2 l2 f2), fun z => absurd (nI_le (by omega) (by omega)) z⟩⟩
theorem c_bears {l : Launch} {κ : mm_K} {d : Nat} {G : mm_G} {K : Int32 → mm_G → Prop} {P : ps_T} (a b : Int32) (hP : ps_ok P) (hC : cB_ G P) (hL : cL_ G P) (h : ∀ G', cL_ G' P → fr_ fl_ G G' → K (an_bears P a b) G') : mC l κ true (d + 6) 0 0 m_X12_bears [.ref 0, .int a, .int b] G (rI K) := by
  unfold an_bears ixn_ at h
  refine e_X12_bears a b (s_hasRow a hC.1.1 hP.1.1 (fun e => ⟨fun _ => ?_, fun q => absurd (by decide) q⟩) (fun r e hr ea => ⟨fun q => absurd q (by decide), fun _ => ?_⟩))
  · rw [e] at h; exact h G hL fr_.rfl'
  · rw [e] at h
    subst ea
    cases e4 : ix_ 4 b with
    | none =>
      rw [e4] at h
      have h := h G hL fr_.rfl'
      exact ⟨fun _ => h, fun z => ⟨fun z2 => (ix_3 e4).elim (fun y => absurd y z) (fun y => absurd z2 y), fun _ => h⟩⟩
    | some n =>
      rw [e4] at h
      obtain ⟨hn, en⟩ := ix_some (by decide) e4
      subst en
      refine ⟨fun z => absurd z (nI_pos (by omega)), fun _ => ⟨fun _ => s_firstBroken hP hC hL hr (by omega) (fun G2 l2 f2 => ?_), fun z => absurd (nI_le (by omega) (by omega)) z⟩⟩
      have hh := h G2 l2 f2
      have h16 := px_len_lt (hP.1.2.2 r)
      simp only [] at hh
      unfold br_a
      by_cases c : br_ P r n < 2 ^ (px_at (ps_p P) r).length
      · rw [if_pos c] at hh ⊢
        exact ⟨fun _ => hh, fun z => absurd z (ki_m2 (by omega))⟩
      · rw [if_neg c] at hh ⊢
        exact ⟨fun z => absurd rfl z, fun _ => hh⟩
theorem m_breaks {l : Launch} {κ : mm_K} {d : Nat} {G : mm_G} {K : Int32 → mm_G → Prop} {P : ps_T} {m : Nat} (a b : Int32) (hP : ps_ok P) (hM : mB_ G P m) (h : ∀ G', fr_ fb_ G G' → K (an_breaks P a b) G') : mC l κ true (d + 8) 0 0 m_X13_breaks [.ref 226, .int a, .int b] G (rI K) := by
  unfold an_breaks ixn_ at h
  refine e_X13_breaks a b (t_isRow a hP hM (fun e => ⟨fun _ => ?_, fun q => absurd (by decide) q⟩) (fun r e hr ea => ⟨fun q => absurd q (by decide), fun _ => ?_⟩))
  · rw [e] at h; exact h G fr_.rfl'
  · rw [e] at h
    subst ea
    refine t_in (n := 4) b (by decide) (by decide) (fun e4 => ⟨fun _ => ?_, fun q => absurd (by decide) q⟩) (fun n e4 hn en => ⟨fun q => absurd q (by decide), fun _ => ?_⟩)
    · rw [e4] at h; exact h G fr_.rfl'
    · rw [e4] at h
      subst en
      exact t_breaksOf hP hM hr (by omega) (fun G2 f2 => h G2 f2)
theorem m_bears {l : Launch} {κ : mm_K} {d : Nat} {G : mm_G} {K : Int32 → mm_G → Prop} {P : ps_T} {m : Nat} (a b : Int32) (hP : ps_ok P) (hM : mB_ G P m) (h : ∀ G', fr_ fb_ G G' → K (an_bears P a b) G') : mC l κ true (d + 8) 0 0 m_X13_bears [.ref 226, .int a, .int b] G (rI K) := by
  unfold an_bears ixn_ at h
  refine e_X13_bears a b (t_isRow a hP hM (fun e => ⟨fun _ => ?_, fun q => absurd (by decide) q⟩) (fun r e hr ea => ⟨fun q => absurd q (by decide), fun _ => ?_⟩))
  · rw [e] at h; exact h G fr_.rfl'
  · rw [e] at h
    subst ea
    refine t_in (n := 4) b (by decide) (by decide) (fun e4 => ⟨fun _ => ?_, fun q => absurd (by decide) q⟩) (fun n e4 hn en => ⟨fun q => absurd q (by decide), fun _ => ?_⟩)
    · rw [e4] at h; exact h G fr_.rfl'
    · rw [e4] at h
      subst en
      refine t_breaksOf hP hM hr (by omega) (fun G2 f2 => ?_)
      have hh := h G2 f2
      have h16 := px_len_lt (hP.1.2.2 r)
      simp only [] at hh
      unfold br_a
      by_cases c : br_ P r n < 2 ^ (px_at (ps_p P) r).length
      · rw [if_pos c] at hh ⊢
        exact ⟨fun _ => hh, fun z => absurd (nI_pos' (by omega)) z⟩
      · rw [if_neg c] at hh ⊢
        exact ⟨fun z => absurd z (by decide), fun _ => hh⟩
