/-! line, run, after, out, step -/
theorem m_line {l : Launch} {κ : mm_K} {d : Nat} {G : mm_G} {K : Int32 → mm_G → Prop} {P : ps_T} {m : Nat} (a b w : Int32) (hP : ps_ok P) (hM : mB_ G P m) (h : K (an_line P a b w) G) : mC l κ true (d + 3) 0 0 m_X13_line [.ref 226, .int a, .int b, .int w] G (rI K) := by
  have hp := hP.1.1
  have hm := hM.1
  refine e_X13_line a b w (t_isLine a b hP hM (fun e => ⟨fun _ => ?_, fun q => absurd (by decide) q⟩) (fun r i e hr ea hi ei => ⟨fun q => absurd q (by decide), fun _ => ?_⟩))
  · unfold an_line at h; rw [e] at h; exact h
  · unfold an_line at h
    rw [e] at h
    simp only [] at h
    have hlen := hP.1.2.2 r
    have hA := hM.2.2.1.2 r hr
    have t4 := hA.2 i hi
    subst ea ei
    refine t_in (n := 3) w (by decide) (by decide) (fun e3 => ⟨fun q => absurd rfl q, fun _ => ?_⟩) (fun j e3 hj ej => ⟨fun _ => ?_, fun q => absurd q (by decide)⟩)
    · have hn : ∀ j, j < 3 → ¬ w = nI j := by
        intro j hj y
        rw [y, ix_of (by omega) hj] at e3
        cases e3
      rw [if_neg (hn 0 (by omega)), if_neg (hn 1 (by omega)), if_neg (fun y => hn 2 (by omega) y.1)] at h
      exact h
    · subst ej
      refine t_lineAt hM.2.1 ?_
      rw [nI_clamp (by omega), rm_or t4, hM.2.1]
      have et : mg_i G 245 (64 * m + 16 * r + i) = ln_tk (ln_at (px_at (ps_p P) r) i) := by rw [← t4]; rfl
      rw [et, ki_0]
      have hvp : vp_in (nI (64 * m + 16 * r + i)) 320 := (ki_vp (by omega)).2 (by omega)
      simp only [nI_eq (show j < 2 ^ 31 by omega) (show 0 < 2 ^ 31 by omega), nI_eq (show j < 2 ^ 31 by omega) (show 1 < 2 ^ 31 by omega), nI_eq (show j < 2 ^ 31 by omega) (show 2 < 2 ^ 31 by omega)] at h ⊢
      have hwh : j = 2 → (ln_or (ln_at (px_at (ps_p P) r) i) = nI 6 ∨ ln_or (ln_at (px_at (ps_p P) r) i) = nI 7) → mC l κ true (d + 2) 0 0 m_X13_firstWith [.ref 226, .int (nI m), .int (nI r), .long (mg_l G 247 (64 * m + 16 * r + i))] G (rI (fun r7 G8 => ((¬ r7 = (-1) → K r7 G8) ∧ (r7 = (-1) → K (-2) G8)))) := by
        intro c1 c2
        have eL : mg_l G 247 (64 * m + 16 * r + i) = ln_lb (ln_at (px_at (ps_p P) r) i) := by
          rcases c2 with z | z
          · exact (rm_6 t4 z).symm
          · exact (rm_7 t4 z).2.2.symm
        rw [eL]
        rw [if_neg (by omega), if_neg (by omega), if_pos ⟨c1, c2⟩] at h
        refine t_firstWith _ (by omega) (by omega) hA.1 hlen (fun i2 hi2 => by rw [← hA.2 i2 hi2]; rfl) ?_
        split
        · rename_i c3
          rw [if_pos c3] at h
          exact ⟨fun _ => h, fun q => by rw [ki_m1 (by omega)] at q; exact q.elim⟩
        · rename_i c3
          rw [if_neg c3] at h
          exact ⟨fun q => absurd rfl q, fun _ => h⟩
      refine ⟨fun z0 => ⟨fun z1 => ⟨hvp, fun z3 => ⟨hvp, hwh (by omega) (Or.inl z3)⟩, fun z3 => ⟨hvp, fun z4 => ⟨hvp, hwh (by omega) (Or.inr z4)⟩, fun z4 => ?_⟩⟩, fun z1 => ⟨hvp, ?_⟩⟩, fun z0 => ⟨hvp, ?_⟩⟩
      · rw [if_neg z0, if_neg z1, if_neg (fun y => y.2.elim z3 z4)] at h; exact h
      · rw [if_neg z0, if_pos z1] at h; exact h
      · rw [if_pos z0] at h; exact h
theorem c_run {l : Launch} {κ : mm_K} {d : Nat} {G : mm_G} {K : Int32 → mm_G → Prop} {P : ps_T} (a b c : Int32) (hP : ps_ok P) (hC : cB_ G P) (h : ∀ G', fr_ fc_ G G' → K (an_run P a b c) G') : mC l κ true (d + 3) 0 0 m_X12_run [.ref 0, .int a, .int b, .int c] G (rI K) := by
  have hp := hP.1.1
  unfold an_run at h
  refine e_X12_run a b c (s_hasRun a b c hP hC (fun e => ⟨fun q => absurd (by decide) q, fun _ => ?_⟩) (fun r lo k e hr ea hlo eb hk ec => ⟨fun _ => ?_, fun q => absurd q (by decide)⟩))
  · rw [e] at h; exact h G fr_.rfl'
  · rw [e] at h
    subst ea eb ec
    rw [nI_clamp (by omega)]
    refine ⟨(ki_vp (by omega)).2 (by omega), s_run0 hP hC hr hlo hk (fun G' g1 g2 g3 => ?_)⟩
    rw [g3]
    exact h G' g2
theorem m_run {l : Launch} {κ : mm_K} {d : Nat} {G : mm_G} {K : Int32 → mm_G → Prop} {P : ps_T} {m : Nat} (a b c : Int32) (hP : ps_ok P) (hM : mB_ G P m) (h : ∀ G', fr_ fg_ G G' → K (an_run P a b c) G') : mC l κ true (d + 6) 0 0 m_X13_run [.ref 226, .int a, .int b, .int c] G (rI K) := by
  unfold an_run at h
  refine e_X13_run a b c (t_goes a b c hP hM (fun e => ⟨fun _ => ?_, fun q => absurd (by decide) q⟩) (fun G' r lo k e hr ea hlo eb hk ec g1 g2 g3 => ⟨fun q => absurd q (by decide), fun _ => ?_⟩))
  · rw [e] at h; exact h G fr_.rfl'
  · rw [e] at h
    rw [g3]
    exact h G' g1
theorem c_after {l : Launch} {κ : mm_K} {d : Nat} {G : mm_G} {K : Int32 → mm_G → Prop} {P : ps_T} (a b c w : Int32) (hP : ps_ok P) (hC : cB_ G P) (h : ∀ G', fr_ fc_ G G' → K (an_after P a b c w) G') : mC l κ true (d + 3) 0 0 m_X12_after [.ref 0, .int a, .int b, .int c, .int w] G (rI K) := by
  have hp := hP.1.1
  unfold an_after at h
  refine e_X12_after a b c w (s_hasRun a b c hP hC (fun e => ⟨fun _ => ?_, fun q => absurd (by decide) q⟩) (fun r lo k e hr ea hlo eb hk ec => ⟨fun q => absurd q (by decide), fun _ => ?_⟩))
  · rw [e] at h; exact h G fr_.rfl'
  · rw [e] at h
    subst ea eb ec
    rw [nI_clamp (by omega)]
    cases e6 : ix_ 6 w with
    | none =>
      rw [e6] at h
      have h := h G fr_.rfl'
      refine ⟨fun _ => h, fun q => ⟨fun q2 => ?_, fun _ => h⟩⟩
      rcases ix_none (by decide) e6 with z | z
      · exact absurd z q
      · exfalso
        have z2 := z.2
        rw [fa_le] at z2 q2
        rw [nI_toInt (by decide)] at z2 q2
        omega
    | some i =>
      obtain ⟨hi, ei⟩ := ix_some (by decide) e6
      rw [e6] at h
      subst ei
      refine ⟨fun q => absurd q (nI_pos (by omega)), fun _ => ⟨fun _ => ⟨(ki_vp (by omega)).2 (by omega), s_run0 hP hC hr hlo hk (fun G' g1 g2 g3 => ?_)⟩, fun q => absurd (nI_le (by omega) (by omega)) q⟩⟩
      have h := h G' g2
      simp only [] at h
      rw [ki_0, nI_eq (by omega) (by omega), nI_eq (by omega) (by omega)]
      refine ⟨fun z0 => ⟨fun z1 => ?_, fun z1 => ?_⟩, fun z0 => ?_⟩
      · rw [ki_sub (by omega), nI_clamp (by omega), g1.2.2.2.2.2.2.2.2.2.2.2.1 _ (by omega)]
        rw [if_neg z0, if_neg z1] at h
        exact ⟨(ki_vp (by omega)).2 (by omega), h⟩
      · rw [g1.1]
        rw [if_neg z0, if_pos z1] at h; exact h
      · rw [g1.2.2.2.2.2.2.2.2.1]
        rw [if_pos z0] at h; exact h
theorem m_after {l : Launch} {κ : mm_K} {d : Nat} {G : mm_G} {K : Int32 → mm_G → Prop} {P : ps_T} {m : Nat} (a b c w : Int32) (hP : ps_ok P) (hM : mB_ G P m) (h : ∀ G', fr_ fg_ G G' → K (an_after P a b c w) G') : mC l κ true (d + 6) 0 0 m_X13_after [.ref 226, .int a, .int b, .int c, .int w] G (rI K) := by
  unfold an_after at h
  refine e_X13_after a b c w (t_in (n := 6) w (by decide) (by decide) (fun e6 => ⟨fun _ => ?_, fun q => absurd (by decide) q⟩) (fun i e6 hi ei => ⟨fun q => absurd q (by decide), fun _ => ?_⟩))
  · rw [e6] at h
    cases e : ix3_ P a b c with
    | none => rw [e] at h; exact h G fr_.rfl'
    | some x => rw [e] at h; exact h G fr_.rfl'
  · rw [e6] at h
    subst ei
    refine t_goes a b c hP hM (fun e => ⟨fun q => absurd (by decide) q, fun _ => ?_⟩) (fun G' r lo k e hr ea hlo eb hk ec g1 g2 g3 => ⟨fun _ => ?_, fun q => absurd q (by decide)⟩)
    · rw [e] at h; exact h G fr_.rfl'
    · rw [e] at h
      have h := h G' g1
      simp only [] at h
      rw [ki_0, nI_eq (by omega) (by omega), nI_eq (by omega) (by omega)]
      refine ⟨fun z0 => ⟨fun z1 => ?_, fun z1 => ?_⟩, fun z0 => ?_⟩
      · rw [ki_sub (by omega), nI_clamp (by omega), g2.2.2.2.1 _ (by omega)]
        rw [if_neg z0, if_neg z1] at h
        exact ⟨(ki_vp (by omega)).2 (by omega), h⟩
      · rw [g2.2.1]
        rw [if_neg z0, if_pos z1] at h; exact h
      · rw [g2.1]
        rw [if_pos z0] at h; exact h
theorem c_out {l : Launch} {κ : mm_K} {d : Nat} {G : mm_G} {K : Int32 → mm_G → Prop} {P : ps_T} (a b c w : Int32) (hP : ps_ok P) (hC : cB_ G P) (h : ∀ G', fr_ fc_ G G' → K (an_out P a b c w) G') : mC l κ true (d + 3) 0 0 m_X12_out [.ref 0, .int a, .int b, .int c, .int w] G (rI K) := by
  have hp := hP.1.1
  unfold an_out at h
  refine e_X12_out a b c w (s_hasRun a b c hP hC (fun e => ⟨fun q => absurd (by decide) q, fun _ => ?_⟩) (fun r lo k e hr ea hlo eb hk ec => ⟨fun _ => ?_, fun q => absurd q (by decide)⟩))
  · rw [e] at h; exact h G fr_.rfl'
  · rw [e] at h
    subst ea eb ec
    rw [nI_clamp (by omega)]
    refine ⟨(ki_vp (by omega)).2 (by omega), s_run0 hP hC hr hlo hk (fun G' g1 g2 g3 => ?_)⟩
    have hh := h G' g2
    obtain ⟨o8, -⟩ := rr_ok (k := k) hP hr (lo_lt hP hlo)
    simp only [] at hh
    rw [g1.2.2.2.2.2.2.2.2.1]
    cases e6 : ix_ (rs_o (rr_ (ps_p P) (ps_t P) (ps_f P) r lo k).1).length w with
    | none =>
      rw [e6] at hh
      exact ⟨fun _ => hh, fun q => ⟨fun _ => hh, fun q2 => (ix_none (by omega) e6).elim (fun z => absurd z q) (fun z => absurd z.2 q2)⟩⟩
    | some i =>
      obtain ⟨hi, ei⟩ := ix_some (by omega) e6
      rw [e6] at hh
      subst ei
      refine ⟨fun q => absurd q (nI_pos (by omega)), fun _ => ⟨fun q => absurd q (nI_ge (by omega) (by omega)), fun _ => ⟨(ki_vp (by omega)).2 (by omega), ?_⟩⟩⟩
      rw [nI_clamp (by omega), g1.2.2.2.2.2.2.2.2.2.2.1 i hi]
      exact hh
theorem m_out {l : Launch} {κ : mm_K} {d : Nat} {G : mm_G} {K : Int32 → mm_G → Prop} {P : ps_T} {m : Nat} (a b c w : Int32) (hP : ps_ok P) (hM : mB_ G P m) (h : ∀ G', fr_ fg_ G G' → K (an_out P a b c w) G') : mC l κ true (d + 6) 0 0 m_X13_out [.ref 226, .int a, .int b, .int c, .int w] G (rI K) := by
  unfold an_out at h
  refine e_X13_out a b c w (t_goes a b c hP hM (fun e => ⟨fun _ => ?_, fun q => absurd (by decide) q⟩) (fun G' r lo k e hr ea hlo eb hk ec g1 g2 g3 => ⟨fun q => absurd q (by decide), fun _ => ?_⟩))
  · rw [e] at h; exact h G fr_.rfl'
  · rw [e] at h
    have hh := h G' g1
    obtain ⟨o8, -⟩ := rr_ok (k := k) hP hr (lo_lt hP hlo)
    simp only [] at hh
    refine t_in w (by rw [g2.1]; exact Int32.sub_add_cancel _ _) (by omega) (fun e6 => ⟨fun _ => ?_, fun q => absurd (by decide) q⟩) (fun i e6 hi ei => ⟨fun q => absurd q (by decide), fun _ => ?_⟩)
    · rw [e6] at hh; exact hh
    · rw [e6] at hh
      subst ei
      rw [nI_clamp (by omega), g2.2.2.1 i hi]
      exact ⟨(ki_vp (by omega)).2 (by omega), hh⟩
theorem c_step {l : Launch} {κ : mm_K} {d : Nat} {G : mm_G} {K : Int32 → mm_G → Prop} {P : ps_T} (a b c w : Int32) (hP : ps_ok P) (hC : cB_ G P) (h : ∀ G', fr_ fc_ G G' → K (an_step P a b c w) G') : mC l κ true (d + 3) 0 0 m_X12_step [.ref 0, .int a, .int b, .int c, .int w] G (rI K) := by
  have hp := hP.1.1
  unfold an_step at h
  refine e_X12_step a b c w (s_hasRun a b c hP hC (fun e => ⟨fun q => absurd (by decide) q, fun _ => ?_⟩) (fun r lo k e hr ea hlo eb hk ec => ⟨fun _ => ?_, fun q => absurd q (by decide)⟩))
  · rw [e] at h; exact h G fr_.rfl'
  · rw [e] at h
    subst ea eb ec
    rw [nI_clamp (by omega)]
    refine ⟨(ki_vp (by omega)).2 (by omega), s_run0 hP hC hr hlo hk (fun G' g1 g2 g3 => ?_)⟩
    have hh := h G' g2
    obtain ⟨-, o8, -⟩ := rr_ok (k := k) hP hr (lo_lt hP hlo)
    simp only [] at hh
    rw [g1.1]
    cases e6 : ix_ (rs_t (rr_ (ps_p P) (ps_t P) (ps_f P) r lo k).1).length w with
    | none =>
      rw [e6] at hh
      exact ⟨fun _ => hh, fun q => ⟨fun _ => hh, fun q2 => (ix_none (by omega) e6).elim (fun z => absurd z q) (fun z => absurd z.2 q2)⟩⟩
    | some i =>
      obtain ⟨hi, ei⟩ := ix_some (by omega) e6
      rw [e6] at hh
      subst ei
      refine ⟨fun q => absurd q (nI_pos (by omega)), fun _ => ⟨fun q => absurd q (nI_ge (by omega) (by omega)), fun _ => ⟨(ki_vp (by omega)).2 (by omega), ?_⟩⟩⟩
      rw [nI_clamp (by omega), g1.2.2.2.2.2.2.2.2.2.2.2.2.1 i hi]
      exact hh
theorem m_step {l : Launch} {κ : mm_K} {d : Nat} {G : mm_G} {K : Int32 → mm_G → Prop} {P : ps_T} {m : Nat} (a b c w : Int32) (hP : ps_ok P) (hM : mB_ G P m) (h : ∀ G', fr_ fg_ G G' → K (an_step P a b c w) G') : mC l κ true (d + 6) 0 0 m_X13_step [.ref 226, .int a, .int b, .int c, .int w] G (rI K) := by
  unfold an_step at h
  refine e_X13_step a b c w (t_goes a b c hP hM (fun e => ⟨fun _ => ?_, fun q => absurd (by decide) q⟩) (fun G' r lo k e hr ea hlo eb hk ec g1 g2 g3 => ⟨fun q => absurd q (by decide), fun _ => ?_⟩))
  · rw [e] at h; exact h G fr_.rfl'
  · rw [e] at h
    have hh := h G' g1
    obtain ⟨-, o8, -⟩ := rr_ok (k := k) hP hr (lo_lt hP hlo)
    simp only [] at hh
    refine t_in w (by rw [g2.2.1]; exact Int32.sub_add_cancel _ _) (by omega) (fun e6 => ⟨fun _ => ?_, fun q => absurd (by decide) q⟩) (fun i e6 hi ei => ⟨fun q => absurd q (by decide), fun _ => ?_⟩)
    · rw [e6] at hh; exact hh
    · rw [e6] at hh
      subst ei
      rw [nI_clamp (by omega), g2.2.2.2.2 i hi]
      exact ⟨(ki_vp (by omega)).2 (by omega), hh⟩
