/-! losses: the component -/
theorem ki_m2 {a : Nat} (h : a < 2 ^ 31) : ¬ nI a = -2 := by
  intro e
  have := congrArg Int32.toInt e
  rw [nI_toInt h] at this
  have e2 : (-2 : Int32).toInt = -2 := by decide +kernel
  omega
theorem fo_T {P : ps_T} {r lo : Nat} (hP : ps_ok P) (h : fo_a P r lo = -2) : sm_ P r lo = true := by
  have ht := hP.2.1.1
  have hle := fo_le P r lo
  unfold fo_a at h
  split at h
  · exact absurd h (ki_m2 (by omega))
  · exact decide_eq_true (by omega)
theorem fo_F {P : ps_T} {r lo : Nat} (h : ¬ fo_a P r lo = -2) : sm_ P r lo = false := by
  unfold fo_a at h
  split at h
  · exact decide_eq_false (by omega)
  · exact absurd rfl h
def br_p (P : ps_T) (r n s : Nat) : Bool := decide (pc_ s = n) && !sm_ P r s
def br_ (P : ps_T) (r n : Nat) : Nat := fa_first (br_p P r n) (2 ^ (px_at (ps_p P) r).length)
def br_a (P : ps_T) (r n : Nat) : Int32 := if br_ P r n < 2 ^ (px_at (ps_p P) r).length then nI (br_ P r n) else -2
theorem s_setBehind {l : Launch} {κ : mm_K} {d : Nat} {G : mm_G} {K : Int32 → mm_G → Prop} {s : Nat} (hs : s < 65536) (h : ∀ nx, s < nx → nx < 2 ^ 20 → (s = 0 → nx = 65536) → (s ≠ 0 → ∀ x, s < x → x < nx → pc_ x ≠ pc_ s) → (s ≠ 0 → pc_ nx = pc_ s) → K (nI nx) G) : mC l κ true d 0 0 m_X12_setBehind [.int (nI s)] G (rI K) := by
  by_cases h0 : s = 0
  · subst h0
    have hK := h 65536 (by omega) (by omega) (fun _ => rfl) (fun z => absurd rfl z) (fun z => absurd rfl z)
    exact e_X12_setBehind _ ⟨fun z => absurd (by decide) z, fun _ => hK⟩
  · obtain ⟨nx, e, h1, h2, h3, h4⟩ := gb_next h0 hs
    have hK := h nx h1 h2 (fun z => absurd z h0) (fun _ => h4) (fun _ => h3)
    rw [← e] at hK
    unfold gb_ at hK
    refine e_X12_setBehind _ ⟨fun z => ⟨z, ?_⟩, fun z => ?_⟩
    · rw [if_neg z] at hK; exact hK
    · rw [if_pos z] at hK; exact hK
theorem s_firstBroken {l : Launch} {κ : mm_K} {d : Nat} {G : mm_G} {K : Int32 → mm_G → Prop} {P : ps_T} {r n : Nat} (hP : ps_ok P) (hC : cB_ G P) (hL : cL_ G P) (hr : r < (ps_p P).length) (hn : n ≤ 16)
    (h : ∀ G', cL_ G' P → fr_ fl_ G G' → K (br_a P r n) G') : mC l κ true (d + 5) 0 0 m_X2_firstBroken [.ref 98, .int (nI r), .int (nI n)] G (rI K) := by
  have hp := hP.1.1
  have hlen := hP.1.2.2 r
  have h16 := px_len_lt hlen
  have hn16 := px_len_lt hn
  have hn1 := Nat.two_pow_pos n
  refine e_X2_firstBroken _ _ ?_
  rw [nI_clamp (by omega), (hC.1.2.1 r hr).1, ki_shl _ (by omega), ki_shl _ (by omega), ki_sub (by omega)]
  refine ⟨(ki_vp (by omega)).2 (by omega), ?_⟩
  have hdone : ∀ s G1, 2 ^ (px_at (ps_p P) r).length ≤ s → cL_ G1 P → fr_ fl_ G G1 → (∀ x, x < s → x < 2 ^ (px_at (ps_p P) r).length → br_p P r n x = false) → K (-2) G1 := by
    intro s G1 hge hL1 hf hno
    have h := h G1 hL1 hf
    unfold br_a at h
    rw [show br_ P r n = 2 ^ (px_at (ps_p P) r).length from ff_no (fun x hx => hno x (by omega) hx), if_neg (Nat.lt_irrefl _)] at h
    exact h
  suffices H : ∀ m s i G1, 2 ^ (px_at (ps_p P) r).length - s ≤ m → s < 2 ^ 20 → i ≤ s → cL_ G1 P → fr_ fl_ G G1 → (∀ x, x < s → x < 2 ^ (px_at (ps_p P) r).length → br_p P r n x = false) → (s < 2 ^ (px_at (ps_p P) r).length → pc_ s = n) → mV l κ true (d + 5) 0 0 m_X2_firstBroken 25 [some (.ref 98), some (.int (nI r)), some (.int (nI n)), some (.int (nI (2 ^ (px_at (ps_p P) r).length))), some (.int (nI s)), some (.int (nI i))] [] G1 (rI K) by
    refine H _ (2 ^ n - 1) 0 G (Nat.le_refl _) (by omega) (Nat.zero_le _) hL fr_.rfl' (fun x hx _ => ?_) (fun _ => pc_ones (by omega))
    have := pc_lt hx (by omega)
    unfold br_p
    rw [decide_eq_false (by omega)]
    rfl
  intro m
  induction m with
  | zero =>
    intro s i G1 hm hs hi hL1 hf hno _
    exact p_X2_firstBroken_25 _ _ _ _ _ ⟨fun _ => hdone s G1 (by omega) hL1 hf hno, fun _ => ⟨fun _ => hdone s G1 (by omega) hL1 hf hno, fun z => absurd (nI_le (by omega) (by omega)) z⟩⟩
  | succ m ih =>
    intro s i G1 hm hs hi hL1 hf hno hpc
    have hC1 := hC.on hP (hf.on (fun c k q => fl_on q)) (by rw [hf.1]; exact Nat.le_refl _)
    refine p_X2_firstBroken_25 _ _ _ _ _ ⟨fun z => ?_, fun _ => ⟨fun z => ?_, fun z => ?_⟩⟩
    · rw [nI_leI (by omega) (by omega)] at z
      exact hdone s G1 (by omega) hL1 hf hno
    · rw [nI_leI (by omega) (by omega)] at z
      exact hdone s G1 z hL1 hf hno
    · rw [nI_leI (by omega) (by omega)] at z
      refine s_firstOther hP hC1 hL1 hr (by omega) (fun G2 l2 f2 => ⟨fun z2 => ?_, fun z2 => ?_⟩)
      · refine s_setBehind (by omega) (fun nx n1 n2 n3 n4 n5 => ?_)
        rw [nI_add]
        refine ih nx (i + 1) G2 (by omega) n2 (by omega) l2 (hf.trans f2) (fun x hx hx2 => ?_) (fun hlt => ?_)
        · rcases Nat.lt_trichotomy x s with c | c | c
          · exact hno x c hx2
          · subst c
            unfold br_p
            rw [fo_T hP z2]
            simp
          · unfold br_p
            by_cases s0 : s = 0
            · have hp0 : n = 0 := by
                have := hpc (by omega)
                rw [s0, pc_0] at this
                exact this.symm
              have := pc_pos (n := x) (m := 16) (by omega) (by decide) (by omega)
              rw [decide_eq_false (by omega)]
              rfl
            · have := n4 s0 x c hx
              rw [hpc (by omega)] at this
              rw [decide_eq_false this]
              rfl
        · by_cases s0 : s = 0
          · have := n3 s0
            omega
          · rw [n5 s0]
            exact hpc (by omega)
      · have h := h G2 l2 (hf.trans f2)
        unfold br_a at h
        have hy : br_p P r n s = true := by
          unfold br_p
          rw [decide_eq_true (hpc (by omega)), fo_F z2]
          rfl
        rw [show br_ P r n = s from ff_at (fun x hx => hno x hx (by omega)) hy (by omega), if_pos (by omega)] at h
        exact h
/-- lines that may be lost one by one -/
def il_ (P : ps_T) (r : Nat) : Nat → Nat
  | 0 => 0
  | i + 1 => if sm_ P r (2 ^ i) then il_ P r i ||| 2 ^ i else il_ P r i
theorem il_lt (P : ps_T) (r : Nat) : ∀ n, il_ P r n < 2 ^ n
  | 0 => by show 0 < 1; decide
  | n + 1 => by
    have h := il_lt P r n
    have h2 : 2 ^ n < 2 ^ (n + 1) := Nat.pow_lt_pow_right (by decide) (Nat.lt_succ_self n)
    unfold il_
    split
    · exact Nat.or_lt_two_pow (Nat.lt_trans h h2) h2
    · exact Nat.lt_trans h h2
theorem il_bit (P : ps_T) (r i : Nat) : ∀ n, (il_ P r n).testBit i = (decide (i < n) && sm_ P r (2 ^ i))
  | 0 => by rw [decide_eq_false (Nat.not_lt_zero i)]; exact Nat.zero_testBit i
  | n + 1 => by
    have ih := il_bit P r i n
    unfold il_
    by_cases c : i = n
    · subst c
      rw [decide_eq_true (Nat.lt_succ_self i)]
      rw [decide_eq_false (Nat.lt_irrefl i)] at ih
      by_cases s : sm_ P r (2 ^ i) = true
      · rw [if_pos s, Nat.testBit_or, Nat.testBit_two_pow_self, s]
        simp
      · rw [if_neg s, ih]
        simp at s
        rw [s]
        rfl
    · have e1 : decide (i < n + 1) = decide (i < n) := decide_eq_decide.2 (by omega)
      rw [e1, ← ih]
      split
      · rw [Nat.testBit_or, Nat.testBit_two_pow, decide_eq_false (fun q => c q.symm), Bool.or_false]
      · rfl
theorem tp_lt {i : Nat} (h : i < 16) : 2 ^ i < 65536 := by
  have : 2 ^ i < 2 ^ 16 := Nat.pow_lt_pow_right (by decide) h
  exact this
theorem s_idle {l : Launch} {κ : mm_K} {d : Nat} {G : mm_G} {K : Int32 → mm_G → Prop} {P : ps_T} {r : Nat} (hP : ps_ok P) (hC : cB_ G P) (hL : cL_ G P) (hr : r < (ps_p P).length)
    (h : ∀ G', cL_ G' P → fr_ fl_ G G' → K (nI (il_ P r (px_at (ps_p P) r).length)) G') : mC l κ true (d + 5) 0 0 m_X2_idleLines [.ref 98, .int (nI r)] G (rI K) := by
  have hp := hP.1.1
  have hlen := hP.1.2.2 r
  refine e_X2_idleLines _ ?_
  suffices H : ∀ n i G1, i + n = (px_at (ps_p P) r).length → cL_ G1 P → fr_ fl_ G G1 → mV l κ true (d + 5) 0 0 m_X2_idleLines 4 [some (.ref 98), some (.int (nI r)), some (.int (nI (il_ P r i))), some (.int (nI i))] [] G1 (rI K) from H _ 0 G (Nat.zero_add _) hL fr_.rfl'
  intro n
  induction n with
  | zero =>
    intro i G1 hi hL1 hf
    have hC1 := hC.on hP (hf.on (fun c k q => fl_on q)) (by rw [hf.1]; exact Nat.le_refl _)
    refine p_X2_idleLines_4 _ _ _ ?_
    rw [nI_clamp (by omega), (hC1.1.2.1 r hr).1]
    refine ⟨(ki_vp (by omega)).2 (by omega), fun _ => ?_, fun z => absurd (nI_le (by omega) (by omega)) z⟩
    have h := h G1 hL1 hf
    rw [show (px_at (ps_p P) r).length = i by omega] at h
    exact h
  | succ n ih =>
    intro i G1 hi hL1 hf
    have hC1 := hC.on hP (hf.on (fun c k q => fl_on q)) (by rw [hf.1]; exact Nat.le_refl _)
    refine p_X2_idleLines_4 _ _ _ ?_
    rw [nI_clamp (by omega), (hC1.1.2.1 r hr).1, ki_shl _ (by omega)]
    refine ⟨(ki_vp (by omega)).2 (by omega), fun z => absurd z (nI_ge (by omega) (by omega)), fun _ => s_firstOther hP hC1 hL1 hr (tp_lt (by omega)) (fun G2 l2 f2 => ⟨fun z => ?_, fun z => ?_⟩)⟩
    · rw [nI_add]
      have hI := ih (i + 1) G2 (by omega) l2 (hf.trans f2)
      rw [show il_ P r (i + 1) = il_ P r i from if_neg (by rw [fo_F z]; decide)] at hI
      exact hI
    · rw [nI_add, fa_or]
      have hI := ih (i + 1) G2 (by omega) l2 (hf.trans f2)
      rw [show il_ P r (i + 1) = il_ P r i ||| 2 ^ i from if_pos (fo_T hP z)] at hI
      exact hI
/-- how many trials a line's loss changes -/
def hm_ (P : ps_T) (r i : Nat) : Nat := fb_ct (ot_ P r (2 ^ i)) (ps_t P).length
theorem hm_le (P : ps_T) (r i : Nat) : hm_ P r i ≤ (ps_t P).length := fb_ct_le _ _
theorem ct_T {p : Nat → Bool} {n : Nat} (h : p n = true) : fb_ct p (n + 1) = fb_ct p n + 1 := by rw [fb_ct_succ, if_pos h]
theorem ct_F {p : Nat → Bool} {n : Nat} (h : p n = false) : fb_ct p (n + 1) = fb_ct p n := by rw [fb_ct_succ, h]; rfl
theorem s_harm {l : Launch} {κ : mm_K} {d : Nat} {G : mm_G} {K : Int32 → mm_G → Prop} {P : ps_T} {r i : Nat} (hP : ps_ok P) (hC : cB_ G P) (hL : cL_ G P) (hr : r < (ps_p P).length) (hi : i < 16)
    (h : ∀ G', cL_ G' P → fr_ fl_ G G' → K (nI (hm_ P r i)) G') : mC l κ true (d + 4) 0 0 m_X2_harmOf [.ref 98, .int (nI r), .int (nI i)] G (rI K) := by
  have ht := hP.2.1.1
  refine e_X2_harmOf _ _ (s_know hP hC hL hr (fun G1 l1 n1 f1 => ?_))
  have hC1 := hC.on hP (f1.on (fun c k q => fl_on q)) (by rw [f1.1]; exact Nat.le_refl _)
  suffices H : ∀ n k G2, k + n = (ps_t P).length → fr_ fc_ G1 G2 → mV l κ true (d + 4) 0 0 m_X2_harmOf 10 [some (.ref 98), some (.int (nI r)), some (.int (nI i)), some (.int (nI (fb_ct (ot_ P r (2 ^ i)) k))), some (.int (nI k))] [] G2 (rI K) from H _ 0 G1 (Nat.zero_add _) fr_.rfl'
  intro n
  induction n with
  | zero =>
    intro k G2 hk hf
    have hC2 := hC1.on hP (hf.on (fun c k q => fc_on q)) (by rw [hf.1]; exact Nat.le_refl _)
    refine p_X2_harmOf_10 _ _ _ _ ⟨fun _ => ?_, fun z => absurd (by rw [hC2.2.1.1]; exact nI_le (by omega) (by omega)) z⟩
    have h := h G2 (l1.fc hf) (f1.trans hf.cl)
    unfold hm_ at h
    rw [show (ps_t P).length = k by omega] at h
    exact h
  | succ n ih =>
    intro k G2 hk hf
    have hC2 := hC1.on hP (hf.on (fun c k q => fc_on q)) (by rw [hf.1]; exact Nat.le_refl _)
    refine p_X2_harmOf_10 _ _ _ _ ⟨fun z => absurd z (by rw [hC2.2.1.1]; exact nI_ge (by omega) (by omega)), fun _ => ?_⟩
    rw [ki_shl _ (by omega)]
    refine s_isOther hP hC2 (n1.fc hf) hr (tp_lt hi) (by omega) (fun G3 g3 => ⟨fun z => ?_, fun z => ?_⟩)
    · rw [nI_add]
      have hI := ih (k + 1) G3 (by omega) (hf.trans g3)
      rw [ct_F (p := ot_ P r (2 ^ i)) (n := k) (by
        by_cases ce : od_ (ps_p P) (ps_t P) (ps_f P) r (2 ^ i) k = od_ (ps_p P) (ps_t P) (ps_f P) r 0 k
        · exact decide_eq_false (fun q => q ce)
        · rw [if_neg ce] at z; exact absurd z (by decide))] at hI
      exact hI
    · rw [nI_add, nI_add]
      have hI := ih (k + 1) G3 (by omega) (hf.trans g3)
      rw [ct_T (p := ot_ P r (2 ^ i)) (n := k) (by
        by_cases ce : od_ (ps_p P) (ps_t P) (ps_f P) r (2 ^ i) k = od_ (ps_p P) (ps_t P) (ps_f P) r 0 k
        · rw [if_pos ce] at z; exact absurd rfl z
        · exact decide_eq_true ce)] at hI
      exact hI
def wl_ (P : ps_T) (r : Nat) : Nat → Int32 × Int32
  | 0 => (-2, -1)
  | i + 1 => if (wl_ P r i).2 < nI (hm_ P r i) then (nI i, nI (hm_ P r i)) else wl_ P r i
theorem s_worst {l : Launch} {κ : mm_K} {d : Nat} {G : mm_G} {K : Int32 → mm_G → Prop} {P : ps_T} {r : Nat} (hP : ps_ok P) (hC : cB_ G P) (hL : cL_ G P) (hr : r < (ps_p P).length)
    (h : ∀ G', cL_ G' P → fr_ fl_ G G' → K (wl_ P r (px_at (ps_p P) r).length).1 G') : mC l κ true (d + 5) 0 0 m_X2_worstLine [.ref 98, .int (nI r)] G (rI K) := by
  have hp := hP.1.1
  have hlen := hP.1.2.2 r
  refine e_X2_worstLine _ ?_
  suffices H : ∀ n i G1, i + n = (px_at (ps_p P) r).length → cL_ G1 P → fr_ fl_ G G1 → mV l κ true (d + 5) 0 0 m_X2_worstLine 8 [some (.ref 98), some (.int (nI r)), some (.int (wl_ P r i).1), some (.int (wl_ P r i).2), some (.int (nI i)), none] [] G1 (rI K) from H _ 0 G (Nat.zero_add _) hL fr_.rfl'
  intro n
  induction n with
  | zero =>
    intro i G1 hi hL1 hf
    have hC1 := hC.on hP (hf.on (fun c k q => fl_on q)) (by rw [hf.1]; exact Nat.le_refl _)
    refine p_X2_worstLine_8 _ _ _ _ ?_
    rw [nI_clamp (by omega), (hC1.1.2.1 r hr).1]
    refine ⟨(ki_vp (by omega)).2 (by omega), fun _ => ?_, fun z => absurd (nI_le (by omega) (by omega)) z⟩
    have h := h G1 hL1 hf
    rw [show (px_at (ps_p P) r).length = i by omega] at h
    exact h
  | succ n ih =>
    intro i G1 hi hL1 hf
    have hC1 := hC.on hP (hf.on (fun c k q => fl_on q)) (by rw [hf.1]; exact Nat.le_refl _)
    refine p_X2_worstLine_8 _ _ _ _ ?_
    rw [nI_clamp (by omega), (hC1.1.2.1 r hr).1]
    refine ⟨(ki_vp (by omega)).2 (by omega), fun z => absurd z (nI_ge (by omega) (by omega)), fun _ => s_harm hP hC1 hL1 hr (by omega) (fun G2 l2 f2 => ⟨fun z => ?_, fun z => ?_⟩)⟩
    · rw [nI_add]
      have hI := ih (i + 1) G2 (by omega) l2 (hf.trans f2)
      rw [show wl_ P r (i + 1) = wl_ P r i from if_neg (by rw [fa_lt]; rw [fa_le] at z; omega)] at hI
      exact hI
    · rw [nI_add]
      have hI := ih (i + 1) G2 (by omega) l2 (hf.trans f2)
      rw [show wl_ P r (i + 1) = (nI i, nI (hm_ P r i)) from if_pos (by rw [fa_lt]; rw [fa_le] at z; omega)] at hI
      exact hI
/-- two lines that harm only together -/
def pp_ (P : ps_T) (r m : Nat) : Bool := decide (m / 16 < m % 16) && (il_ P r (px_at (ps_p P) r).length).testBit (m / 16) && (il_ P r (px_at (ps_p P) r).length).testBit (m % 16) && !sm_ P r (2 ^ (m / 16) ||| 2 ^ (m % 16))
def pr_a (P : ps_T) (r : Nat) : Int32 := if fa_first (pp_ P r) 256 < 256 then nI (100 * (fa_first (pp_ P r) 256 / 16) + fa_first (pp_ P r) 256 % 16) else -2
theorem or_sub {m i j : Nat} : m &&& (2 ^ i ||| 2 ^ j) = 2 ^ i ||| 2 ^ j ↔ m.testBit i = true ∧ m.testBit j = true := by
  constructor
  · intro h
    have h1 := congrArg (fun x => Nat.testBit x i) h
    have h2 := congrArg (fun x => Nat.testBit x j) h
    simp only [Nat.testBit_and, Nat.testBit_or, Nat.testBit_two_pow_self, Bool.true_or, Bool.or_true, Bool.and_true] at h1 h2
    exact ⟨h1, h2⟩
  · intro ⟨h1, h2⟩
    apply Nat.eq_of_testBit_eq
    intro k
    rw [Nat.testBit_and, Nat.testBit_or, Nat.testBit_two_pow, Nat.testBit_two_pow]
    by_cases c1 : i = k
    · subst c1; rw [h1]; rfl
    · by_cases c2 : j = k
      · subst c2; rw [h2]; rfl
      · rw [decide_eq_false c1, decide_eq_false c2]; simp
theorem pp_16 {P : ps_T} {r i j : Nat} (hj : j < 16) : pp_ P r (16 * i + j) = (decide (i < j) && (il_ P r (px_at (ps_p P) r).length).testBit i && (il_ P r (px_at (ps_p P) r).length).testBit j && !sm_ P r (2 ^ i ||| 2 ^ j)) := by
  unfold pp_
  rw [show (16 * i + j) / 16 = i by omega, show (16 * i + j) % 16 = j by omega]
theorem s_pair {l : Launch} {κ : mm_K} {d : Nat} {G : mm_G} {K : Int32 → mm_G → Prop} {P : ps_T} {r : Nat} (hP : ps_ok P) (hC : cB_ G P) (hL : cL_ G P) (hr : r < (ps_p P).length)
    (h : ∀ G', cL_ G' P → fr_ fl_ G G' → K (pr_a P r) G') : mC l κ true (d + 6) 0 0 m_X2_firstPair [.ref 98, .int (nI r)] G (rI K) := by
  have hp := hP.1.1
  have hlen := hP.1.2.2 r
  have hil := il_lt P r (px_at (ps_p P) r).length
  have h16 := px_len_lt hlen
  refine e_X2_firstPair _ (s_idle hP hC hL hr (fun G1 l1 f1 => ?_))
  suffices H : ∀ n i G2, i + n = 16 → cL_ G2 P → fr_ fl_ G G2 → (∀ m, m < 16 * i → pp_ P r m = false) → mV l κ true (d + 6) 0 0 m_X2_firstPair 8 [some (.ref 98), some (.int (nI r)), some (.int (nI (il_ P r (px_at (ps_p P) r).length))), some (.int (nI i)), none, none] [] G2 (rI K) from H 16 0 G1 rfl l1 f1 (fun m hm => absurd hm (Nat.not_lt_zero m))
  intro n
  induction n with
  | zero =>
    intro i G2 hi hL2 hf hno
    refine p_X2_firstPair_8 _ _ _ ⟨fun _ => ?_, fun z => absurd (nI_le (by omega) (by omega)) z⟩
    have h := h G2 hL2 hf
    unfold pr_a at h
    rw [ff_no (p := pp_ P r) (n := 256) (fun m hm => hno m (by omega)), if_neg (Nat.lt_irrefl _)] at h
    exact h
  | succ n ih =>
    intro i G2 hi hL2 hf hno
    refine p_X2_firstPair_8 _ _ _ ⟨fun z => absurd z (nI_ge (by omega) (by omega)), fun _ => ?_⟩
    rw [nI_add]
    suffices H2 : ∀ n2 j G3, j + n2 = 16 → i < j → cL_ G3 P → fr_ fl_ G G3 → (∀ m, m < 16 * i + j → pp_ P r m = false) → mV l κ true (d + 6) 0 0 m_X2_firstPair 19 [some (.ref 98), some (.int (nI r)), some (.int (nI (il_ P r (px_at (ps_p P) r).length))), some (.int (nI i)), some (.int (nI j)), none] [] G3 (rI K) by
      refine H2 (16 - (i + 1)) (i + 1) G2 (by omega) (Nat.lt_succ_self i) hL2 hf (fun m hm => ?_)
      rcases Nat.lt_or_ge m (16 * i) with c | c
      · exact hno m c
      · have := pp_16 (P := P) (r := r) (i := i) (j := m - 16 * i) (by omega)
        rw [show 16 * i + (m - 16 * i) = m by omega] at this
        rw [this, decide_eq_false (by omega)]
        rfl
    intro n2
    induction n2 with
    | zero =>
      intro j G3 hj hij hL3 hf3 hno3
      refine p_X2_firstPair_19 _ _ _ _ ⟨fun _ => ?_, fun z => absurd (nI_le (by omega) (by omega)) z⟩
      rw [nI_add]
      exact ih (i + 1) G3 (by omega) hL3 hf3 (fun m hm => hno3 m (by omega))
    | succ n2 ih2 =>
      intro j G3 hj hij hL3 hf3 hno3
      have hC3 := hC.on hP (hf3.on (fun c k q => fl_on q)) (by rw [hf3.1]; exact Nat.le_refl _)
      have hb : 2 ^ i ||| 2 ^ j < 65536 := Nat.or_lt_two_pow (n := 16) (tp_lt (by omega)) (tp_lt (by omega))
      have hb2 : il_ P r (px_at (ps_p P) r).length &&& (2 ^ i ||| 2 ^ j) < 65536 := Nat.lt_of_le_of_lt Nat.and_le_right hb
      refine p_X2_firstPair_19 _ _ _ _ ⟨fun z => absurd z (nI_ge (by omega) (by omega)), fun _ => ?_⟩
      rw [ki_shl _ (by omega), ki_shl _ (by omega), fa_or, fa_and, nI_eq (by omega) (by omega), or_sub]
      have hstep : ∀ G4, cL_ G4 P → fr_ fl_ G G4 → pp_ P r (16 * i + j) = false → mV l κ true (d + 6) 0 0 m_X2_firstPair 19 [some (.ref 98), some (.int (nI r)), some (.int (nI (il_ P r (px_at (ps_p P) r).length))), some (.int (nI i)), some (.int (nI j + nI 1)), none] [] G4 (rI K) := by
        intro G4 l4 f4 hq
        rw [nI_add]
        refine ih2 (j + 1) G4 (by omega) (by omega) l4 f4 (fun m hm => ?_)
        rcases Nat.lt_or_ge m (16 * i + j) with c | c
        · exact hno3 m c
        · rw [show m = 16 * i + j by omega]; exact hq
      refine ⟨fun z => hstep G3 hL3 hf3 ?_, fun z => s_firstOther hP hC3 hL3 hr hb (fun G4 l4 f4 => ⟨fun z2 => hstep G4 l4 (hf3.trans f4) ?_, fun z2 => ?_⟩)⟩
      · rw [pp_16 (by omega)]
        cases c1 : (il_ P r (px_at (ps_p P) r).length).testBit i with
        | false => simp
        | true =>
          cases c2 : (il_ P r (px_at (ps_p P) r).length).testBit j with
          | false => simp
          | true => exact absurd ⟨c1, c2⟩ z
      · rw [pp_16 (by omega), fo_T hP z2]
        simp
      · have h := h G4 l4 (hf3.trans f4)
        unfold pr_a at h
        have hy : pp_ P r (16 * i + j) = true := by
          rw [pp_16 (by omega), z.1, z.2, fo_F z2, decide_eq_true hij]
          rfl
        rw [ff_at (p := pp_ P r) (n := 256) hno3 hy (by omega), if_pos (by omega), show (16 * i + j) / 16 = i by omega, show (16 * i + j) % 16 = j by omega] at h
        rw [ki_mul, nI_add]
        exact h
