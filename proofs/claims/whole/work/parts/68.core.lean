/-! core -/
theorem sm_0 (P : ps_T) (r : Nat) : sm_ P r 0 = true := decide_eq_true (ff_no (fun k _ => decide_eq_false (fun q => q rfl)))
theorem isC_all {P : ps_T} {r : Nat} (hlen : (px_at (ps_p P) r).length ≤ 16) (h : ∀ y, y < 2 ^ (px_at (ps_p P) r).length → pc_ y < (px_at (ps_p P) r).length → sm_ P r ((2 ^ (px_at (ps_p P) r).length - 1) ^^^ y) = false) : isC_ P r (2 ^ (px_at (ps_p P) r).length - 1) := by
  have hpos := Nat.two_pow_pos (px_at (ps_p P) r).length
  refine ⟨by omega, by rw [Nat.xor_self]; exact sm_0 P r, fun y hy hs => ?_⟩
  have h1 := pc_ones (m := (px_at (ps_p P) r).length) (by omega)
  rcases Nat.lt_or_ge (pc_ y) (px_at (ps_p P) r).length with c | c
  · rw [h y hy c] at hs; cases hs
  · rcases Nat.lt_or_ge y (2 ^ (px_at (ps_p P) r).length - 1) with z | z
    · have := pc_lt z (by omega)
      omega
    · have : y = 2 ^ (px_at (ps_p P) r).length - 1 := by omega
      rw [this]
      exact Or.inr ⟨rfl, Nat.le_refl _⟩
theorem s_fewest {l : Launch} {κ : mm_K} {d : Nat} {G : mm_G} {K : Int32 → mm_G → Prop} {P : ps_T} {r : Nat} (hP : ps_ok P) (hC : cB_ G P) (hL : cL_ G P) (hr : r < (ps_p P).length)
    (h : ∀ G' x, cL_ G' P → fr_ fl_ G G' → isC_ P r x → K (nI x) G') : mC l κ true (d + 5) 0 0 m_X4_fewestThatDo [.ref 168, .int (nI r)] G (rI K) := by
  have hp := hP.1.1
  have hlen := hP.1.2.2 r
  have h16 := px_len_lt hlen
  have hpos := Nat.two_pow_pos (px_at (ps_p P) r).length
  refine e_X4_fewestThatDo _ ?_
  rw [nI_clamp (by omega), (hC.1.2.1 r hr).1, ki_shl _ (by omega), ki_sub (by omega)]
  refine ⟨(ki_vp (by omega)).2 (by omega), ?_⟩
  suffices H : ∀ w n G1, n + w = (px_at (ps_p P) r).length → cL_ G1 P → fr_ fl_ G G1 → (∀ y, y < 2 ^ (px_at (ps_p P) r).length → pc_ y < n → sm_ P r ((2 ^ (px_at (ps_p P) r).length - 1) ^^^ y) = false) → mV l κ true (d + 5) 0 0 m_X4_fewestThatDo 19 [some (.ref 168), some (.int (nI r)), some (.int (nI (2 ^ (px_at (ps_p P) r).length - 1))), some (.int (nI n)), none, none] [] G1 (rI K) from
    H _ 0 G (Nat.zero_add _) hL fr_.rfl' (fun y _ hy => absurd hy (Nat.not_lt_zero _))
  intro w
  induction w with
  | zero =>
    intro n G1 hn l1 f1 hno
    obtain rfl : n = (px_at (ps_p P) r).length := by omega
    have hC1 := hC.fl hP f1
    refine p_X4_fewestThatDo_19 _ _ _ ?_
    rw [nI_clamp (by omega), (hC1.1.2.1 r hr).1]
    exact ⟨(ki_vp (by omega)).2 (by omega), fun _ => h G1 _ l1 f1 (isC_all hlen hno), fun z => absurd (nI_le (by omega) (by omega)) z⟩
  | succ w ih =>
    intro n G1 hn l1 f1 hno
    have hC1 := hC.fl hP f1
    have hn16 := px_len_lt (n := n) (by omega)
    have hn1 := Nat.two_pow_pos n
    refine p_X4_fewestThatDo_19 _ _ _ ?_
    rw [nI_clamp (by omega), (hC1.1.2.1 r hr).1, ki_shl _ (by omega), ki_sub (by omega)]
    refine ⟨(ki_vp (by omega)).2 (by omega), fun z => absurd z (nI_ge (by omega) (by omega)), fun _ => ?_⟩
    suffices H : ∀ m s i G2, 2 ^ (px_at (ps_p P) r).length - s ≤ m → s < 2 ^ 20 → i ≤ s → cL_ G2 P → fr_ fl_ G G2 → (∀ y, y < 2 ^ (px_at (ps_p P) r).length → pc_ y = n → y < s → sm_ P r ((2 ^ (px_at (ps_p P) r).length - 1) ^^^ y) = false) → (s < 2 ^ (px_at (ps_p P) r).length → pc_ s = n) → mV l κ true (d + 5) 0 0 m_X4_fewestThatDo 45 [some (.ref 168), some (.int (nI r)), some (.int (nI (2 ^ (px_at (ps_p P) r).length - 1))), some (.int (nI n)), some (.int (nI s)), some (.int (nI i))] [] G2 (rI K) by
      refine H _ (2 ^ n - 1) 0 G1 (Nat.le_refl _) (by omega) (Nat.zero_le _) l1 f1 (fun y _ h1 h2 => ?_) (fun _ => pc_ones (by omega))
      have := pc_lt h2 (by omega)
      omega
    have hgo : ∀ s G2, s < 2 ^ 20 → 2 ^ (px_at (ps_p P) r).length ≤ s → cL_ G2 P → fr_ fl_ G G2 → (∀ y, y < 2 ^ (px_at (ps_p P) r).length → pc_ y = n → y < s → sm_ P r ((2 ^ (px_at (ps_p P) r).length - 1) ^^^ y) = false) → mV l κ true (d + 5) 0 0 m_X4_fewestThatDo 19 [some (.ref 168), some (.int (nI r)), some (.int (nI (2 ^ (px_at (ps_p P) r).length - 1))), some (.int (nI n + nI 1)), none, none] [] G2 (rI K) := by
      intro s G2 hs hge l2 f2 hno2
      rw [nI_add]
      refine ih (n + 1) G2 (by omega) l2 f2 (fun y hy hc => ?_)
      rcases Nat.lt_succ_iff_lt_or_eq.mp hc with c | c
      · exact hno y hy c
      · exact hno2 y hy c (by omega)
    have hnext : ∀ s i G2, i ≤ s → s < 2 ^ 20 → 2 ^ (px_at (ps_p P) r).length ≤ s → cL_ G2 P → fr_ fl_ G G2 → (∀ y, y < 2 ^ (px_at (ps_p P) r).length → pc_ y = n → y < s → sm_ P r ((2 ^ (px_at (ps_p P) r).length - 1) ^^^ y) = false) → mV l κ true (d + 5) 0 0 m_X4_fewestThatDo 45 [some (.ref 168), some (.int (nI r)), some (.int (nI (2 ^ (px_at (ps_p P) r).length - 1))), some (.int (nI n)), some (.int (nI s)), some (.int (nI i))] [] G2 (rI K) := by
      intro s i G2 _ hs hge l2 f2 hno2
      exact p_X4_fewestThatDo_45 _ _ _ _ _ ⟨fun _ => hgo s G2 hs hge l2 f2 hno2, fun _ => ⟨fun _ => hgo s G2 hs hge l2 f2 hno2, fun z => absurd (nI_lt (by omega) (by omega)) z⟩⟩
    intro m
    induction m with
    | zero =>
      intro s i G2 hm hs hi l2 f2 hno2 _
      exact hnext s i G2 hi hs (by omega) l2 f2 hno2
    | succ m ih2 =>
      intro s i G2 hm hs hi l2 f2 hno2 hpc
      rcases Nat.lt_or_ge s (2 ^ (px_at (ps_p P) r).length) with c | c
      · have hx : (2 ^ (px_at (ps_p P) r).length - 1) ^^^ s < 2 ^ (px_at (ps_p P) r).length := Nat.xor_lt_two_pow (by omega) c
        have hpc := hpc c
        refine p_X4_fewestThatDo_45 _ _ _ _ _ ⟨fun z => absurd z (nI_nlt (by omega) (by omega)), fun _ => ⟨fun z => absurd z (nI_nlt (by omega) (by omega)), fun _ => ?_⟩⟩
        rw [nx_xor]
        refine s_firstOther hP (hC.fl hP f2) l2 hr (by omega) (fun G3 l3 f3 => ⟨fun z => ?_, fun z => ?_⟩)
        · refine s_setBehind (by omega) (fun nx n1 n2 n3 n4 n5 => ?_)
          rw [nI_add]
          refine ih2 nx (i + 1) G3 (by omega) n2 (by omega) l3 (f2.trans f3) (fun y hy h1 h2 => ?_) (fun hlt => ?_)
          · rcases Nat.lt_trichotomy y s with q | q | q
            · exact hno2 y hy h1 q
            · rw [q]; exact fo_F z
            · by_cases s0 : s = 0
              · exfalso
                have hn0 : n = 0 := by rw [← hpc, s0]; exact pc_0
                have := pc_pos hy (by omega) (by omega)
                omega
              · exact absurd (h1.trans hpc.symm) (n4 s0 y q h2)
          · by_cases s0 : s = 0
            · have := n3 s0
              omega
            · rw [n5 s0]; exact hpc
        · refine h G3 s l3 (f2.trans f3) ⟨c, fo_T hP z, fun y hy hsm => ?_⟩
          rcases Nat.lt_trichotomy (pc_ y) n with q | q | q
          · rw [hno y hy q] at hsm; cases hsm
          · right
            refine ⟨by omega, ?_⟩
            rcases Nat.lt_or_ge y s with q2 | q2
            · rw [hno2 y hy q q2] at hsm; cases hsm
            · exact q2
          · left; omega
      · exact hnext s i G2 hi hs c l2 f2 hno2
theorem s_coreOf {l : Launch} {κ : mm_K} {d : Nat} {G : mm_G} {K : Int32 → mm_G → Prop} {P : ps_T} {r : Nat} (hP : ps_ok P) (hC : cB_ G P) (hL : cL_ G P) (hO : cO_ G P) (hr : r < (ps_p P).length)
    (h : ∀ G' x, cL_ G' P → cO_ G' P → fr_ fO_ G G' → isC_ P r x → K (nI x) G') : mC l κ true (d + 6) 0 0 m_X4_coreOf [.ref 168, .int (nI r)] G (rI K) := by
  have hp := hP.1.1
  refine e_X4_coreOf _ ⟨fun y => ?_, fun y => s_fewest hP hC hL hr (fun G2 x l2 f2 hx => ?_)⟩
  · rcases hO.2 with z | ⟨r', x, z1, z2, z3, z4⟩
    · rw [z, ki_m1' (by omega)] at y
      exact y.elim
    · have : r' = r := (nI_eq (by omega) (by omega)).1 (z2.symm.trans y)
      subst this
      rw [z3]
      exact h G x hL hO fr_.rfl' z4
  · have fz : fr_ fw_ G2 (ms_i (ms_i G2 168 6 (nI x)) 168 5 (nI r)) := (fr_.rfl'.si rfl).si rfl
    refine h _ x (l2.fw hP fz) ⟨?_, Or.inr ⟨r, x, hr, by simp only [mg_i_i, mg_i_l, mg_i_r, mg_i_b, mg_l_i, mg_l_l, mg_l_r, mg_l_b, mg_r_i, mg_r_l, mg_r_r, mg_r_b, false_and, and_false, true_and, and_true, reduceCtorEq, if_true, if_false, reduceIte, Nat.reduceEqDiff, Nat.reduceAdd, Nat.succ_ne_self, ne_eq, not_false_eq_true, not_true_eq_false], by simp only [mg_i_i, mg_i_l, mg_i_r, mg_i_b, mg_l_i, mg_l_l, mg_l_r, mg_l_b, mg_r_i, mg_r_l, mg_r_r, mg_r_b, false_and, and_false, true_and, and_true, reduceCtorEq, if_true, if_false, reduceIte, Nat.reduceEqDiff, Nat.reduceAdd, Nat.succ_ne_self, ne_eq, not_false_eq_true, not_true_eq_false], hx⟩⟩ ((f2.lO.si (fO_T (by omega))).si (fO_T (by omega))) hx
    rcases (hO.fl f2).1 with z | ⟨r', z1, z2, z3, z4⟩
    · left; simp only [mg_i_i, mg_i_l, mg_i_r, mg_i_b, mg_l_i, mg_l_l, mg_l_r, mg_l_b, mg_r_i, mg_r_l, mg_r_r, mg_r_b, false_and, and_false, true_and, and_true, reduceCtorEq, if_true, if_false, reduceIte, Nat.reduceEqDiff, Nat.reduceAdd, Nat.succ_ne_self, ne_eq, not_false_eq_true, not_true_eq_false]; exact z
    · right
      exact ⟨r', z1, z2, by simp only [mg_i_i, mg_i_l, mg_i_r, mg_i_b, mg_l_i, mg_l_l, mg_l_r, mg_l_b, mg_r_i, mg_r_l, mg_r_r, mg_r_b, false_and, and_false, true_and, and_true, reduceCtorEq, if_true, if_false, reduceIte, Nat.reduceEqDiff, Nat.reduceAdd, Nat.succ_ne_self, ne_eq, not_false_eq_true, not_true_eq_false]; exact z3, fun k hk => by simp only [mg_i_i, mg_i_l, mg_i_r, mg_i_b, mg_l_i, mg_l_l, mg_l_r, mg_l_b, mg_r_i, mg_r_l, mg_r_r, mg_r_b, false_and, and_false, true_and, and_true, reduceCtorEq, if_true, if_false, reduceIte, Nat.reduceEqDiff, Nat.reduceAdd, Nat.succ_ne_self, ne_eq, not_false_eq_true, not_true_eq_false]; exact z4 k hk⟩
def sgc_ (P : ps_T) (a b x : Int32) : Prop := match ix_ (ps_p P).length a with
  | none => x = -1
  | some r => match ix_ 2 b with
    | none => x = -1
    | some w => if (px_at (ps_p P) r).length ≤ 12 then ∃ y, isC_ P r y ∧ x = (if w = 0 then nI (pc_ y) else nI y) else x = -2
theorem sgc_one {P : ps_T} {a b x y : Int32} (h1 : sgc_ P a b x) (h2 : sgc_ P a b y) : x = y := by
  unfold sgc_ at h1 h2
  cases e : ix_ (ps_p P).length a with
  | none => rw [e] at h1 h2; exact h1.trans h2.symm
  | some r =>
    rw [e] at h1 h2
    cases e2 : ix_ 2 b with
    | none => rw [e2] at h1 h2; exact h1.trans h2.symm
    | some w =>
      rw [e2] at h1 h2
      simp only [] at h1 h2
      by_cases c : (px_at (ps_p P) r).length ≤ 12
      · rw [if_pos c] at h1 h2
        obtain ⟨u, u1, u2⟩ := h1
        obtain ⟨v, v1, v2⟩ := h2
        have := isC_one u1 v1
        rw [u2, v2, this]
      · rw [if_neg c] at h1 h2
        exact h1.trans h2.symm
theorem c_core {l : Launch} {κ : mm_K} {d : Nat} {G : mm_G} {K : Int32 → mm_G → Prop} {P : ps_T} (a b : Int32) (hP : ps_ok P) (hC : cB_ G P) (hL : cL_ G P) (hO : cO_ G P) (h : ∀ x G', cL_ G' P → cO_ G' P → fr_ fO_ G G' → sgc_ P a b x → K x G') : mC l κ true (d + 7) 0 0 m_X12_core [.ref 0, .int a, .int b] G (rI K) := by
  have hp := hP.1.1
  unfold sgc_ at h
  refine e_X12_core a b (s_hasRow a hC.1.1 hp (fun e => ⟨fun _ => ?_, fun q => absurd (by decide) q⟩) (fun r e hr ea => ⟨fun q => absurd q (by decide), fun _ => ?_⟩))
  · rw [e] at h; exact h _ G hL hO fr_.rfl' rfl
  · rw [e] at h
    subst ea
    have h16 := px_len_lt (hP.1.2.2 r)
    cases e2 : ix_ 2 b with
    | none =>
      rw [e2] at h
      have hh := h (-1) G hL hO fr_.rfl' rfl
      rcases ix_q (n := 1) (by omega) e2 with z | ⟨z, z2⟩
      · exact ⟨fun _ => hh, fun y => absurd z y⟩
      · refine ⟨fun y => absurd y z, fun _ => ⟨fun y => ?_, fun _ => hh⟩⟩
        rw [fa_lt] at z2
        rw [fa_le] at y
        omega
    | some w =>
      rw [e2] at h
      obtain ⟨k1, k2⟩ := ix_some (by omega) e2
      subst k2
      simp only [] at h
      refine ⟨fun y => ?_, fun _ => ⟨fun _ => s_small hP hC hr ?_, fun y => absurd (nI_le (by omega) (by omega)) y⟩⟩
      · rw [ki_0, nI_ltI (by omega) (by omega)] at y; omega
      · by_cases c : (px_at (ps_p P) r).length ≤ 12
        · simp only [if_pos c] at h ⊢
          refine ⟨fun _ => s_coreOf hP hC hL hO hr (fun G2 x l2 o2 f2 hx => ?_), fun y => absurd y (by decide)⟩
          have hxl := hx.1
          rw [ki_0, nI_eq (by omega) (by omega)]
          refine ⟨fun z => h _ G2 l2 o2 f2 ⟨x, hx, by rw [if_neg z]⟩, fun z => s_bits (by omega) (h _ G2 l2 o2 f2 ⟨x, hx, by rw [if_pos z]⟩)⟩
        · simp only [if_neg c] at h ⊢
          exact ⟨fun y => absurd (by decide) y, fun _ => h _ G hL hO fr_.rfl' rfl⟩
