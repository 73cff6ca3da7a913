/-! sought, soughtAt: the answers -/
def ck_ (P : ps_T) (a b c : Int32) : Option (Nat × Nat × Nat) := match ix_ (ps_p P).length a with
  | none => none
  | some r => match ix_ 6 b with
    | none => none
    | some n => match ix_ 2 c with
      | none => none
      | some m => some (r, n, m)
theorem ix_q {n : Nat} {a : Int32} (hn : n + 1 < 2 ^ 31) (h : ix_ (n + 1) a = none) : a < 0 ∨ (¬ a < 0 ∧ nI n < a) := by
  unfold ix_ at h
  split at h
  · cases h
  · rename_i q
    rw [fa_lt, fa_lt, nI_toInt (by omega)]
    have e0 : (0 : Int32).toInt = 0 := by decide
    omega
def sgt_ (P : ps_T) (a b c x : Int32) : Prop := match ck_ P a b c with
  | none => x = -1
  | some (r, n, m) => ∃ f, isA_ P r n m x f
def sga_ (P : ps_T) (a b c i x : Int32) : Prop := match ck_ P a b c with
  | none => x = -1
  | some (r, n, m) => if i < 0 then x = -1 else ∃ v f, isA_ P r n m v f ∧ x = if v ≤ i then -1 else nI (f i.toNatClampNeg)
theorem ck_le {P : ps_T} {a b c : Int32} {r n m : Nat} (h : ck_ P a b c = some (r, n, m)) : n ≤ 5 ∧ m ≤ 1 := by
  unfold ck_ at h
  cases e1 : ix_ (ps_p P).length a with
  | none => rw [e1] at h; cases h
  | some r' =>
    rw [e1] at h
    cases e2 : ix_ 6 b with
    | none => rw [e2] at h; cases h
    | some n' =>
      rw [e2] at h
      cases e3 : ix_ 2 c with
      | none => rw [e3] at h; cases h
      | some m' =>
        rw [e3] at h
        have := ix_some (by decide) e2
        have := ix_some (by decide) e3
        have h : some (r', n', m') = some (r, n, m) := h
        cases h
        omega
theorem sgt_one {P : ps_T} {a b c x y : Int32} (h1 : sgt_ P a b c x) (h2 : sgt_ P a b c y) : x = y := by
  unfold sgt_ at h1 h2
  cases e : ck_ P a b c with
  | none => rw [e] at h1 h2; exact h1.trans h2.symm
  | some q =>
    obtain ⟨r, n, m⟩ := q
    rw [e] at h1 h2
    obtain ⟨f, hf⟩ := h1
    obtain ⟨g, hg⟩ := h2
    exact (isA_one hf hg).1
theorem isA_num {P : ps_T} {r n m : Nat} {v i : Int32} {f : Nat → Nat} (h : isA_ P r n m v f) (hn : n ≤ 5) (h0 : ¬ i < 0) (hi : ¬ v ≤ i) : ∃ z, z ≤ n ∧ v = nI z ∧ i.toNatClampNeg < z ∧ i = nI i.toNatClampNeg := by
  rw [fa_lt] at h0
  rw [fa_le] at hi
  have e0 : (0 : Int32).toInt = 0 := by decide
  rcases h with ⟨z, z1, z2, -⟩ | ⟨z2, -⟩ | ⟨z2, -⟩
  · subst z2
    rw [nI_toInt (by omega)] at hi
    have e : i = nI i.toInt.toNat := mm_eqI (by omega) (by omega)
    have e2 : i.toNatClampNeg = i.toInt.toNat := rfl
    refine ⟨z, z1, rfl, by omega, by rw [e2]; exact e⟩
  · subst z2
    have e3 : (-3 : Int32).toInt = -3 := by decide +kernel
    omega
  · subst z2
    have e3 : (-2 : Int32).toInt = -2 := by decide +kernel
    omega
theorem sga_one {P : ps_T} {a b c i x y : Int32} (h1 : sga_ P a b c i x) (h2 : sga_ P a b c i y) : x = y := by
  unfold sga_ at h1 h2
  cases e : ck_ P a b c with
  | none => rw [e] at h1 h2; exact h1.trans h2.symm
  | some q =>
    obtain ⟨r, n, m⟩ := q
    rw [e] at h1 h2
    have hn := ck_le e
    simp only [] at h1 h2
    by_cases c0 : i < 0
    · rw [if_pos c0] at h1 h2
      exact h1.trans h2.symm
    · rw [if_neg c0] at h1 h2
      obtain ⟨v, f, hf, ex⟩ := h1
      obtain ⟨w, g, hg, ey⟩ := h2
      obtain ⟨k1, k2⟩ := isA_one hf hg
      subst k1
      by_cases c1 : v ≤ i
      · rw [if_pos c1] at ex ey
        exact ex.trans ey.symm
      · rw [if_neg c1] at ex ey
        obtain ⟨z, z1, z2, z3, -⟩ := isA_num hf hn.1 c0 c1
        rcases k2 z z1 z2 _ z3 with q | q
        · rw [ex, ey, q]
        · omega
theorem s_canSeek {l : Launch} {κ : mm_K} {d : Nat} {G : mm_G} {K : Int32 → mm_G → Prop} {P : ps_T} (a b c : Int32) (hP : ps_ok P) (hC : cB_ G P) (h0 : ck_ P a b c = none → K (nI 0) G) (h1 : ∀ r n m, ck_ P a b c = some (r, n, m) → r < (ps_p P).length → a = nI r → n ≤ 5 → b = nI n → m ≤ 1 → c = nI m → K (nI 1) G) : mC l κ true (d + 1) 0 0 m_X12_canSeek [.ref 0, .int a, .int b, .int c] G (rI K) := by
  have hp := hP.1.1
  refine e_X12_canSeek a b c (s_hasRow a hC.1.1 hp (fun e => ⟨fun _ => h0 (by unfold ck_; rw [e]), fun q => absurd (by decide) q⟩) (fun r e hr ea => ⟨fun q => absurd q (by decide), fun _ => ?_⟩))
  cases e2 : ix_ 6 b with
  | none =>
    have hh := h0 (by unfold ck_; rw [e]; simp only [e2])
    rcases ix_q (n := 5) (by decide) e2 with z | ⟨z, z2⟩
    · exact ⟨fun _ => hh, fun y => absurd z y⟩
    · exact ⟨fun y => absurd y z, fun _ => ⟨fun _ => hh, fun y => absurd z2 y⟩⟩
  | some n =>
    obtain ⟨n1, n2⟩ := ix_some (by decide) e2
    subst n2
    refine ⟨fun y => ?_, fun _ => ⟨fun y => ?_, fun _ => ?_⟩⟩
    · rw [ki_0, nI_ltI (by omega) (by omega)] at y; omega
    · rw [nI_ltI (by omega) (by omega)] at y; omega
    · cases e3 : ix_ 2 c with
      | none =>
        have hh := h0 (by unfold ck_; rw [e]; simp only [e2, e3])
        rcases ix_q (n := 1) (by decide) e3 with z | ⟨z, z2⟩
        · exact ⟨fun _ => hh, fun y => absurd z y⟩
        · exact ⟨fun y => absurd y z, fun _ => ⟨fun _ => hh, fun y => absurd z2 y⟩⟩
      | some m =>
        obtain ⟨m1, m2⟩ := ix_some (by decide) e3
        subst m2
        refine ⟨fun y => ?_, fun _ => ⟨fun y => ?_, fun _ => h1 r n m (by unfold ck_; rw [e]; simp only [e2, e3]) hr ea (by omega) rfl (by omega) rfl⟩⟩
        · rw [ki_0, nI_ltI (by omega) (by omega)] at y; omega
        · rw [nI_ltI (by omega) (by omega)] at y; omega
theorem t_canSeek {l : Launch} {κ : mm_K} {d : Nat} {G : mm_G} {K : Int32 → mm_G → Prop} {P : ps_T} {w : Nat} (a b c : Int32) (hP : ps_ok P) (hM : mB_ G P w) (h0 : ck_ P a b c = none → K (nI 0) G) (h1 : ∀ r n m, ck_ P a b c = some (r, n, m) → r < (ps_p P).length → a = nI r → n ≤ 5 → b = nI n → m ≤ 1 → c = nI m → K (nI 1) G) : mC l κ true (d + 2) 0 0 m_X13_canSeek [.ref 226, .int a, .int b, .int c] G (rI K) := by
  refine e_X13_canSeek a b c (t_isRow a hP hM (fun e => ⟨fun _ => h0 (by unfold ck_; rw [e]), fun q => absurd (by decide) q⟩) (fun r e hr ea => ⟨fun q => absurd q (by decide), fun _ => ?_⟩))
  refine t_in (n := 6) b (by decide) (by decide) (fun e2 => ⟨fun _ => h0 (by unfold ck_; rw [e]; simp only [e2]), fun q => absurd (by decide) q⟩) (fun n e2 hn en => ⟨fun q => absurd q (by decide), fun _ => ?_⟩)
  refine t_in (n := 2) c (by decide) (by decide) (fun e3 => ⟨fun _ => h0 (by unfold ck_; rw [e]; simp only [e2, e3]), fun q => absurd (by decide) q⟩) (fun m e3 hm em => ⟨fun q => absurd q (by decide), fun _ => ?_⟩)
  exact h1 r n m (by unfold ck_; rw [e]; simp only [e2, e3]) hr ea (by omega) en (by omega) em
theorem c_sought {l : Launch} {κ : mm_K} {d : Nat} {G : mm_G} {K : Int32 → mm_G → Prop} {P : ps_T} (a b c : Int32) (hP : ps_ok P) (hC : cB_ G P) (hK : cK_ G P) (h : ∀ x G', fr_ fS_ G G' → cK_ G' P → sgt_ P a b c x → K x G') : mC l κ true (d + 7) 0 0 m_X12_sought [.ref 0, .int a, .int b, .int c] G (rI K) := by
  refine e_X12_sought a b c (s_canSeek a b c hP hC (fun e => ⟨fun _ => h _ _ fr_.rfl' hK (by unfold sgt_; rw [e]), fun y => absurd (by decide) y⟩) (fun r n m e hr ea hn eb hm ec => ⟨fun y => absurd y (by decide), fun _ => ?_⟩))
  subst ea eb ec
  exact s_seek hP hC hK hr hn hm (fun G2 v f f2 k2 hA hD => h v G2 f2 k2 (by unfold sgt_; rw [e]; exact ⟨f, hA⟩))
theorem c_soughtAt {l : Launch} {κ : mm_K} {d : Nat} {G : mm_G} {K : Int32 → mm_G → Prop} {P : ps_T} (a b c i : Int32) (hP : ps_ok P) (hC : cB_ G P) (hK : cK_ G P) (h : ∀ x G', fr_ fS_ G G' → cK_ G' P → sga_ P a b c i x → K x G') : mC l κ true (d + 7) 0 0 m_X12_soughtAt [.ref 0, .int a, .int b, .int c, .int i] G (rI K) := by
  refine e_X12_soughtAt a b c i (s_canSeek a b c hP hC (fun e => ⟨fun y => absurd (by decide) y, fun _ => h _ _ fr_.rfl' hK (by unfold sga_; rw [e])⟩) (fun r n m e hr ea hn eb hm ec => ⟨fun _ => ?_, fun y => absurd y (by decide)⟩))
  subst ea eb ec
  refine s_seek hP hC hK hr hn hm (fun G2 v f f2 k2 hA hD => ⟨fun y => h _ G2 f2 k2 ?_, fun y => ⟨fun y2 => h _ G2 f2 k2 ?_, fun y2 => ?_⟩⟩)
  · unfold sga_; rw [e]; simp only [if_pos y]
  · unfold sga_; rw [e]; simp only []; rw [if_neg y]; exact ⟨v, f, hA, by rw [if_pos y2]⟩
  · obtain ⟨z, z1, z2, z3, z4⟩ := isA_num hA hn y y2
    have hh := h (nI (f i.toNatClampNeg)) G2 f2 k2 (by unfold sga_; rw [e]; simp only []; rw [if_neg y]; exact ⟨v, f, hA, by rw [if_neg y2]⟩)
    refine ⟨fun y3 => ?_, fun _ => ⟨?_, ?_⟩⟩
    · rw [z4, nI_leI (by omega) (by omega)] at y3; omega
    · rw [z4]; exact (ki_vp (by omega)).2 (by omega)
    · rw [hD z z1 z2 _ z3]; exact hh
theorem m_sought {l : Launch} {κ : mm_K} {d : Nat} {G : mm_G} {K : Int32 → mm_G → Prop} {P : ps_T} {w : Nat} (a b c : Int32) (hP : ps_ok P) (hM : mB_ G P w) (h : ∀ x G', fr_ fh_ G G' → sgt_ P a b c x → K x G') : mC l κ true (d + 8) 0 0 m_X13_sought [.ref 226, .int a, .int b, .int c] G (rI K) := by
  refine e_X13_sought a b c (t_canSeek a b c hP hM (fun e => ⟨fun _ => h _ _ fr_.rfl' (by unfold sgt_; rw [e]), fun y => absurd (by decide) y⟩) (fun r n m e hr ea hn eb hm ec => ⟨fun y => absurd y (by decide), fun _ => ?_⟩))
  subst ea eb ec
  exact t_seeks hP hM hr hn hm (fun G2 v f f2 hA hD => h v G2 f2 (by unfold sgt_; rw [e]; exact ⟨f, hA⟩))
theorem m_soughtAt {l : Launch} {κ : mm_K} {d : Nat} {G : mm_G} {K : Int32 → mm_G → Prop} {P : ps_T} {w : Nat} (a b c i : Int32) (hP : ps_ok P) (hM : mB_ G P w) (h : ∀ x G', fr_ fh_ G G' → sga_ P a b c i x → K x G') : mC l κ true (d + 8) 0 0 m_X13_soughtAt [.ref 226, .int a, .int b, .int c, .int i] G (rI K) := by
  refine e_X13_soughtAt a b c i (t_canSeek a b c hP hM (fun e => ⟨fun _ => h _ _ fr_.rfl' (by unfold sga_; rw [e]), fun y => absurd (by decide) y⟩) (fun r n m e hr ea hn eb hm ec => ⟨fun y => absurd y (by decide), fun _ => ?_⟩))
  subst ea eb ec
  have h00 : (0 ≤ i) ↔ ¬ i < 0 := by rw [fa_lt, fa_le]; omega
  refine ⟨fun y => ?_, fun y => h _ _ fr_.rfl' ?_⟩
  · have y := h00.1 y
    refine t_seeks hP hM hr hn hm (fun G2 v f f2 hA hD => ⟨fun y2 => h _ G2 f2 ?_, fun y2 => ?_⟩)
    · unfold sga_; rw [e]; simp only []; rw [if_neg y]; exact ⟨v, f, hA, by rw [if_pos y2]⟩
    · obtain ⟨z, z1, z2, z3, z4⟩ := isA_num hA hn y y2
      have hh := h (nI (f i.toNatClampNeg)) G2 f2 (by unfold sga_; rw [e]; simp only []; rw [if_neg y]; exact ⟨v, f, hA, by rw [if_neg y2]⟩)
      refine ⟨?_, ?_⟩
      · rw [z4]; exact (ki_vp (by omega)).2 (by omega)
      · rw [hD z z1 z2 _ z3]; exact hh
  · unfold sga_; rw [e]; simp only [if_pos (show i < 0 by rw [fa_lt]; rw [fa_le] at y; omega)]
