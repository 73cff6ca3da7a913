/-! soonest -/
def isS_ (P : ps_T) (r x : Nat) : Prop := (x = 0 ∧ ∀ s, s < 2 ^ (px_at (ps_p P) r).length → sm_ P r s = true) ∨ (x ≠ 0 ∧ x ≤ (px_at (ps_p P) r).length ∧ (∃ s, s < 2 ^ (px_at (ps_p P) r).length ∧ pc_ s = x ∧ sm_ P r s = false) ∧ ∀ s, s < 2 ^ (px_at (ps_p P) r).length → pc_ s < x → sm_ P r s = true)
theorem isS_one {P : ps_T} {r x y : Nat} (h1 : isS_ P r x) (h2 : isS_ P r y) : x = y := by
  rcases h1 with ⟨a1, a2⟩ | ⟨a0, a1, ⟨s, a2, a3, a4⟩, a5⟩
  · rcases h2 with ⟨b1, b2⟩ | ⟨b0, b1, ⟨t, b2, b3, b4⟩, b5⟩
    · omega
    · rw [a2 t b2] at b4; cases b4
  · rcases h2 with ⟨b1, b2⟩ | ⟨b0, b1, ⟨t, b2, b3, b4⟩, b5⟩
    · rw [b2 s a2] at a4; cases a4
    · rcases Nat.lt_trichotomy x y with c | c | c
      · rw [b5 s a2 (by omega)] at a4; cases a4
      · exact c
      · rw [a5 t b2 (by omega)] at b4; cases b4
def sgs_ (P : ps_T) (a x : Int32) : Prop := match ix_ (ps_p P).length a with
  | none => x = -1
  | some r => if (px_at (ps_p P) r).length ≤ 12 then ∃ y, isS_ P r y ∧ x = nI y else x = -2
theorem sgs_one {P : ps_T} {a x y : Int32} (h1 : sgs_ P a x) (h2 : sgs_ P a y) : x = y := by
  unfold sgs_ at h1 h2
  cases e : ix_ (ps_p P).length a with
  | none => rw [e] at h1 h2; exact h1.trans h2.symm
  | some r =>
    rw [e] at h1 h2
    simp only [] at h1 h2
    by_cases c : (px_at (ps_p P) r).length ≤ 12
    · rw [if_pos c] at h1 h2
      obtain ⟨u, u1, u2⟩ := h1
      obtain ⟨v, v1, v2⟩ := h2
      have := isS_one u1 v1
      rw [u2, v2, this]
    · rw [if_neg c] at h1 h2
      exact h1.trans h2.symm
theorem br_yes {P : ps_T} {r n : Nat} (h : ¬ br_a P r n = -2) : ∃ s, s < 2 ^ (px_at (ps_p P) r).length ∧ pc_ s = n ∧ sm_ P r s = false := by
  unfold br_a at h
  split at h
  · rename_i c
    have hy : br_p P r n (br_ P r n) = true := fa_first_yes (br_p P r n) _ c
    unfold br_p at hy
    simp only [Bool.and_eq_true, decide_eq_true_eq, Bool.not_eq_true'] at hy
    exact ⟨_, c, hy.1, hy.2⟩
  · exact absurd rfl h
theorem br_no {P : ps_T} {r n : Nat} (hP : ps_ok P) (h : br_a P r n = -2) : ∀ s, s < 2 ^ (px_at (ps_p P) r).length → pc_ s = n → sm_ P r s = true := by
  have h16 := px_len_lt (hP.1.2.2 r)
  unfold br_a at h
  split at h
  · exact absurd h (ki_m2 (by omega))
  · rename_i c
    intro s hs hn
    have hle : br_ P r n ≤ _ := fa_first_le (br_p P r n) (2 ^ (px_at (ps_p P) r).length)
    have hf : br_p P r n s = false := fa_first_no (br_p P r n) (2 ^ (px_at (ps_p P) r).length) s (by show s < br_ P r n; omega)
    unfold br_p at hf
    rw [decide_eq_true hn] at hf
    cases c2 : sm_ P r s with
    | true => rfl
    | false => rw [c2] at hf; cases hf
theorem c_soonest {l : Launch} {κ : mm_K} {d : Nat} {G : mm_G} {K : Int32 → mm_G → Prop} {P : ps_T} (a : Int32) (hP : ps_ok P) (hC : cB_ G P) (hL : cL_ G P) (h : ∀ x G', cL_ G' P → fr_ fl_ G G' → sgs_ P a x → K x G') : mC l κ true (d + 7) 0 0 m_X12_soonest [.ref 0, .int a] G (rI K) := by
  have hp := hP.1.1
  unfold sgs_ at h
  refine e_X12_soonest a (s_hasRow a hC.1.1 hp (fun e => ⟨fun q => absurd (by decide) q, fun _ => ?_⟩) (fun r e hr ea => ⟨fun _ => ?_, fun q => absurd q (by decide)⟩))
  · rw [e] at h; exact h _ G hL fr_.rfl' rfl
  · rw [e] at h
    subst ea
    simp only [] at h
    refine s_small hP hC hr ?_
    by_cases c : (px_at (ps_p P) r).length ≤ 12
    · simp only [if_pos c] at h ⊢
      refine ⟨fun y => absurd y (by decide), fun _ => e_X4_fewestThatBreak _ ?_⟩
      suffices H : ∀ w n G1, n + w = (px_at (ps_p P) r).length → cL_ G1 P → fr_ fl_ G G1 → (∀ s, s < 2 ^ (px_at (ps_p P) r).length → pc_ s < n + 1 → sm_ P r s = true) → mV l κ true (d + 6) 0 0 m_X4_fewestThatBreak 2 [some (.ref 168), some (.int (nI r)), some (.int (nI (n + 1)))] [] G1 (rI K) by
        refine H _ 0 G (Nat.zero_add _) hL fr_.rfl' (fun s hs h0 => ?_)
        have : s = 0 := by
          rcases Nat.eq_zero_or_pos s with q | q
          · exact q
          · have := pc_pos hs (by omega) (by omega)
            omega
        rw [this]
        exact sm_0 P r
      intro w
      induction w with
      | zero =>
        intro n G1 hn l1 f1 hno
        have hC1 := hC.fl hP f1
        refine p_X4_fewestThatBreak_2 _ _ ?_
        rw [nI_clamp (by omega), (hC1.1.2.1 r hr).1]
        refine ⟨(ki_vp (by omega)).2 (by omega), fun _ => h _ G1 l1 f1 ⟨0, Or.inl ⟨rfl, fun s hs => hno s hs ?_⟩, rfl⟩, fun z => absurd (nI_lt (by omega) (by omega)) z⟩
        have := pc_le hs (by omega)
        omega
      | succ w ih =>
        intro n G1 hn l1 f1 hno
        have hC1 := hC.fl hP f1
        refine p_X4_fewestThatBreak_2 _ _ ?_
        rw [nI_clamp (by omega), (hC1.1.2.1 r hr).1]
        refine ⟨(ki_vp (by omega)).2 (by omega), fun z => absurd z (nI_nlt (by omega) (by omega)), fun _ => s_firstBroken hP hC1 l1 hr (by omega) (fun G2 l2 f2 => ⟨fun z => ?_, fun z => ?_⟩)⟩
        · rw [nI_add]
          refine ih (n + 1) G2 (by omega) l2 (f1.trans f2) (fun s hs hc => ?_)
          rcases Nat.lt_succ_iff_lt_or_eq.mp hc with q | q
          · exact hno s hs q
          · exact br_no hP z s hs q
        · exact h _ G2 l2 (f1.trans f2) ⟨n + 1, Or.inr ⟨by omega, by omega, br_yes z, hno⟩, rfl⟩
    · simp only [if_neg c] at h ⊢
      exact ⟨fun _ => h _ G hL fr_.rfl' rfl, fun y => absurd rfl y⟩
/-- while nothing breaks all ways go on -/
theorem wy_up {S : Nat → Bool} {L x : Nat} (h0 : S 0 = true) (hb : ∀ s i, s < 2 ^ L → i < L → 0 < wy_ S L s → S (s ||| 2 ^ i) = false → x ≤ pc_ s + 1) (hL : L ≤ 16) : ∀ m s, s < m → s < 2 ^ L → pc_ s < x → S s = true ∧ 0 < wy_ S L s
  | 0, s, h, _, _ => absurd h (Nat.not_lt_zero s)
  | m + 1, s, h, hs, hx => by
    by_cases c : s = 0
    · subst c
      refine ⟨h0, ?_⟩
      rw [wy_eq]
      exact Nat.one_pos
    · -- a line of the set
      have hp := pc_pos hs (by omega) c
      have : ∃ i, i < L ∧ s.testBit i = true := by
        rw [pc_of hs (by omega)] at hp
        obtain ⟨i, i1, i2, -⟩ := fb_ct_kth hp
        exact ⟨i, i1, i2⟩
      obtain ⟨i, i1, i2⟩ := this
      have hlt := xb_lt i2
      have hpc := xb_pc i2 (by omega)
      obtain ⟨k1, k2⟩ := wy_up h0 hb hL m (s ^^^ 2 ^ i) (by omega) (by omega) (by omega)
      have hS : S s = true := by
        cases c2 : S s with
        | true => rfl
        | false =>
          have := hb (s ^^^ 2 ^ i) i (by omega) i1 k2 (by rw [xb_or i2]; exact c2)
          omega
      refine ⟨hS, ?_⟩
      rw [wy_eq]
      unfold wv_
      rw [if_neg c, hS, if_pos rfl, bs_drop i2 i1]
      omega
theorem wy_same {S : Nat → Bool} {L s : Nat} (h0 : S 0 = true) (h : 0 < wy_ S L s) : S s = true := by
  rw [wy_eq] at h
  unfold wv_ at h
  by_cases c : s = 0
  · rw [c]; exact h0
  · rw [if_neg c] at h
    cases c2 : S s with
    | true => rfl
    | false => rw [c2] at h; simp at h
theorem m_soonest {l : Launch} {κ : mm_K} {d : Nat} {G : mm_G} {K : Int32 → mm_G → Prop} {P : ps_T} {m : Nat} (a : Int32) (hP : ps_ok P) (hM : mB_ G P m) (h : ∀ x G', fr_ fB_ G G' → sgs_ P a x → K x G') : mC l κ true (d + 8) 0 0 m_X13_soonest [.ref 226, .int a] G (rI K) := by
  unfold sgs_ at h
  refine e_X13_soonest a (t_isRow a hP hM (fun e => ⟨fun q => absurd (by decide) q, fun _ => ?_⟩) (fun r e hr ea => ⟨fun _ => ?_, fun q => absurd q (by decide)⟩))
  · rw [e] at h; exact h _ G fr_.rfl' rfl
  · rw [e] at h
    subst ea
    simp only [] at h
    refine t_short hP hM hr ?_
    by_cases c : (px_at (ps_p P) r).length ≤ 12
    · simp only [if_pos c] at h ⊢
      have hpow : 2 ^ (px_at (ps_p P) r).length ≤ 4096 := Nat.pow_le_pow_right (n := 2) (by decide) c
      refine ⟨fun _ => t_fillSets hP hM hr c (fun G2 k2 f2 => ?_), fun q => absurd q (by decide)⟩
      have hM2 := hM.fB f2
      have hs0 := sm_0 P r
      suffices H : ∀ w s best, s + w = 2 ^ (px_at (ps_p P) r).length → (best ≠ 0 → best ≤ (px_at (ps_p P) r).length ∧ ∃ t, t < 2 ^ (px_at (ps_p P) r).length ∧ pc_ t = best ∧ sm_ P r t = false) → (∀ s' i, s' < s → i < (px_at (ps_p P) r).length → 0 < wy_ (sm_ P r) (px_at (ps_p P) r).length s' → sm_ P r (s' ||| 2 ^ i) = false → best ≠ 0 ∧ best ≤ pc_ s' + 1) → mV l κ true (d + 8) 0 0 m_X13_soonest 30 [some (.ref 226), some (.int (nI r)), some (.int (nI best)), some (.int (nI s)), none] [] G2 (rI K) from
        H _ 0 0 (Nat.zero_add _) (fun q => absurd rfl q) (fun s' i hs => absurd hs (Nat.not_lt_zero s'))
      intro w
      induction w with
      | zero =>
        intro s best hw hgot hlow
        refine p_X13_soonest_30 _ _ _ (t_lines hP hM2 hr ?_)
        rw [ki_shl _ (by omega)]
        refine ⟨fun _ => h _ G2 f2 ⟨best, ?_, rfl⟩, fun z => absurd (nI_le (by omega) (by omega)) z⟩
        by_cases b0 : best = 0
        · refine Or.inl ⟨b0, fun t ht => ?_⟩
          have hpc := pc_le ht (by omega)
          exact (wy_up (S := sm_ P r) (x := (px_at (ps_p P) r).length + 1) hs0 (fun s' i q1 q2 q3 q4 => absurd b0 (hlow s' i (by omega) q2 q3 q4).1) (by omega) (t + 1) t (by omega) ht (by omega)).1
        · obtain ⟨g1, g2⟩ := hgot b0
          refine Or.inr ⟨b0, g1, g2, fun t ht hx => ?_⟩
          exact (wy_up (S := sm_ P r) (x := best) hs0 (fun s' i q1 q2 q3 q4 => (hlow s' i (by omega) q2 q3 q4).2) (by omega) (t + 1) t (by omega) ht hx).1
      | succ w ih =>
        intro s best hw hgot hlow
        have hsl : s < 2 ^ (px_at (ps_p P) r).length := by omega
        have hpcs := pc_le hsl (by omega)
        have hwl := wy_lt (S := sm_ P r) c hsl
        refine p_X13_soonest_30 _ _ _ (t_lines hP hM2 hr ?_)
        rw [ki_shl _ (by omega), nI_clamp (by omega), (k2 s hsl).2]
        refine ⟨fun z => absurd z (nI_ge (by omega) (by omega)), fun _ => ⟨(ki_vp (by omega)).2 (by omega), fun z => ?_, fun z => ?_⟩⟩
        · rw [lN_z (by omega)] at z
          suffices H : ∀ v i best, i + v = (px_at (ps_p P) r).length → (best ≠ 0 → best ≤ (px_at (ps_p P) r).length ∧ ∃ t, t < 2 ^ (px_at (ps_p P) r).length ∧ pc_ t = best ∧ sm_ P r t = false) → (∀ s' i, s' < s → i < (px_at (ps_p P) r).length → 0 < wy_ (sm_ P r) (px_at (ps_p P) r).length s' → sm_ P r (s' ||| 2 ^ i) = false → best ≠ 0 ∧ best ≤ pc_ s' + 1) → (∀ j, j < i → sm_ P r (s ||| 2 ^ j) = false → best ≠ 0 ∧ best ≤ pc_ s + 1) → mV l κ true (d + 8) 0 0 m_X13_soonest 58 [some (.ref 226), some (.int (nI r)), some (.int (nI best)), some (.int (nI s)), some (.int (nI i))] [] G2 (rI K) from
            H _ 0 best (Nat.zero_add _) hgot hlow (fun j hj => absurd hj (Nat.not_lt_zero j))
          intro v
          induction v with
          | zero =>
            intro i best hi hgot hlow hrow
            refine p_X13_soonest_58 _ _ _ _ (t_lines hP hM2 hr ⟨fun _ => ?_, fun q => absurd (nI_le (by omega) (by omega)) q⟩)
            rw [nI_add]
            refine ih (s + 1) best (by omega) hgot (fun s' j q1 q2 q3 q4 => ?_)
            rcases Nat.lt_succ_iff_lt_or_eq.mp q1 with y | y
            · exact hlow s' j y q2 q3 q4
            · subst y; exact hrow j (by omega) q4
          | succ v ih2 =>
            intro i best hi hgot hlow hrow
            have hto := ob_lt (n := s) (i := i) (L := (px_at (ps_p P) r).length) hsl (by omega)
            have hbest : best ≤ (px_at (ps_p P) r).length := by
              by_cases b0 : best = 0
              · omega
              · exact (hgot b0).1
            refine p_X13_soonest_58 _ _ _ _ (t_lines hP hM2 hr ⟨fun q => absurd q (nI_ge (by omega) (by omega)), fun _ => ?_⟩)
            rw [ki_shl _ (by omega), fa_or, nI_clamp (by omega), (k2 _ hto).1, nI_add]
            refine ⟨(ki_vp (by omega)).2 (by omega), fun y => ?_, fun y => ?_⟩
            · refine ih2 (i + 1) best (by omega) hgot hlow (fun j hj hF => ?_)
              rcases Nat.lt_succ_iff_lt_or_eq.mp hj with q | q
              · exact hrow j q hF
              · rw [q] at hF
                rw [hF] at y
                exact absurd rfl y
            · have hF : sm_ P r (s ||| 2 ^ i) = false := by
                cases c2 : sm_ P r (s ||| 2 ^ i) with
                | false => rfl
                | true => rw [c2] at y; exact absurd y (by decide)
              have hbit : s.testBit i = false := by
                cases c2 : s.testBit i with
                | false => rfl
                | true =>
                  rw [ob_same.2 c2, wy_same (L := (px_at (ps_p P) r).length) hs0 (by omega)] at hF
                  cases hF
              have hpc := pc_or hbit (by omega)
              have hple := pc_le hto (by omega)
              have hnew : (best = 0 ∨ pc_ s + 1 < best) → mV l κ true (d + 8) 0 0 m_X13_soonest 58 [some (.ref 226), some (.int (nI r)), some (.int (nI (pc_ s + 1))), some (.int (nI s)), some (.int (nI (i + 1)))] [] G2 (rI K) := by
                intro hb
                refine ih2 (i + 1) (pc_ s + 1) (by omega) (fun _ => ⟨by omega, _, hto, hpc, hF⟩) (fun s' j q1 q2 q3 q4 => ?_) (fun j hj _ => ⟨by omega, Nat.le_refl _⟩)
                have := hlow s' j q1 q2 q3 q4
                exact ⟨by omega, by omega⟩
              rw [ki_0, nI_eq (by omega) (by omega)]
              refine ⟨fun b0 => t_bits (by omega) ?_, fun b0 => t_bits (by omega) ?_⟩
              · rw [nI_add]
                exact hnew (Or.inl b0)
              · rw [nI_add, nI_leI (by omega) (by omega)]
                refine ⟨fun q => ih2 (i + 1) best (by omega) hgot hlow (fun j hj hF2 => ?_), fun q => t_bits (by omega) ?_⟩
                · rcases Nat.lt_succ_iff_lt_or_eq.mp hj with q2 | q2
                  · exact hrow j q2 hF2
                  · exact ⟨b0, q⟩
                · rw [nI_add]
                  exact hnew (Or.inr (by omega))
        · rw [lN_z (by omega)] at z
          rw [nI_add]
          refine ih (s + 1) best (by omega) hgot (fun s' j q1 q2 q3 q4 => ?_)
          rcases Nat.lt_succ_iff_lt_or_eq.mp q1 with y | y
          · exact hlow s' j y q2 q3 q4
          · subst y; omega
    · simp only [if_neg c] at h ⊢
      exact ⟨fun q => absurd (by decide) q, fun _ => h _ G fr_.rfl' rfl⟩
