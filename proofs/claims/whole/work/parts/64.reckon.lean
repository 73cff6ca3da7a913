/-! ways: the component -/
theorem lN_wide {a : Nat} (h : a < 2 ^ 31) : (nI a).toInt64 = lN a := by
  apply Int64.toInt_inj.mp
  rw [Int32.toInt_toInt64, nI_toInt h, lN_toInt (by omega)]
def wz_ (S : Nat → Bool) (L k T : Nat) : Nat := fb_sm (fun s => if pc_ s = k then wy_ S L s else 0) T
def isC_ (P : ps_T) (r x : Nat) : Prop := x < 2 ^ (px_at (ps_p P) r).length ∧ sm_ P r ((2 ^ (px_at (ps_p P) r).length - 1) ^^^ x) = true ∧ ∀ y, y < 2 ^ (px_at (ps_p P) r).length → sm_ P r ((2 ^ (px_at (ps_p P) r).length - 1) ^^^ y) = true → pc_ x < pc_ y ∨ (pc_ x = pc_ y ∧ x ≤ y)
theorem isC_one {P : ps_T} {r x y : Nat} (h1 : isC_ P r x) (h2 : isC_ P r y) : x = y := by
  have a := h1.2.2 y h2.1 h2.2.1
  have b := h2.2.2 x h1.1 h1.2.1
  omega
def cO_ (G : mm_G) (P : ps_T) : Prop := (mg_i G 168 4 = -1 ∨ ∃ r, r < (ps_p P).length ∧ (px_at (ps_p P) r).length ≤ 12 ∧ mg_i G 168 4 = nI r ∧ ∀ k, k ≤ 12 → mg_l G 170 k = lN (wz_ (sm_ P r) (px_at (ps_p P) r).length k (2 ^ (px_at (ps_p P) r).length))) ∧ (mg_i G 168 5 = -1 ∨ ∃ r x, r < (ps_p P).length ∧ mg_i G 168 5 = nI r ∧ mg_i G 168 6 = nI x ∧ isC_ P r x)
def fO_ (c _k : Nat) : Bool := decide (91 ≤ c) && decide (c ≤ 170)
theorem fO_F {c k : Nat} (h : c < 91 ∨ 170 < c) : fO_ c k = false := by
  unfold fO_
  rcases h with z | z
  · rw [decide_eq_false (p := 91 ≤ c) (by omega)]; rfl
  · rw [decide_eq_false (p := c ≤ 170) (by omega), Bool.and_false]
theorem fO_T {c k : Nat} (h : 91 ≤ c ∧ c ≤ 170) : fO_ c k = true := by
  unfold fO_
  rw [decide_eq_true h.1, decide_eq_true h.2]; rfl
theorem fr_.lO {G G1 : mm_G} (h : fr_ fl_ G G1) : fr_ fO_ G G1 := h.mono (fun c k q => fl_F (by
  rcases Nat.lt_or_ge c 91 with z | z
  · omega
  · rcases Nat.lt_or_ge 170 c with y | y
    · omega
    · rw [fO_T ⟨z, y⟩] at q; cases q))
theorem fO_on {c k : Nat} (h : rgB c k = true) : fO_ c k = false := fO_F (by have := rgB_iff.1 h; omega)
theorem cB_.fO {G G1 : mm_G} {P : ps_T} (h : cB_ G P) (hP : ps_ok P) (hf : fr_ fO_ G G1) : cB_ G1 P := h.on hP (hf.on (fun c k q => fO_on q)) (by rw [hf.1]; exact Nat.le_refl _)
theorem cB_.fl {G G1 : mm_G} {P : ps_T} (h : cB_ G P) (hP : ps_ok P) (hf : fr_ fl_ G G1) : cB_ G1 P := h.on hP (hf.on (fun c k q => fl_on q)) (by rw [hf.1]; exact Nat.le_refl _)
theorem cO_.fl {G G1 : mm_G} {P : ps_T} (h : cO_ G P) (hf : fr_ fl_ G G1) : cO_ G1 P := by
  obtain ⟨h1, h2⟩ := h
  have e4 : mg_i G1 168 4 = mg_i G 168 4 := hf.i _ _ (fl_F (by omega))
  have e5 : mg_i G1 168 5 = mg_i G 168 5 := hf.i _ _ (fl_F (by omega))
  have e6 : mg_i G1 168 6 = mg_i G 168 6 := hf.i _ _ (fl_F (by omega))
  refine ⟨?_, ?_⟩
  · rcases h1 with z | ⟨r, z1, z2, z3, z4⟩
    · exact Or.inl (by rw [e4]; exact z)
    · exact Or.inr ⟨r, z1, z2, by rw [e4]; exact z3, fun k hk => by rw [hf.l _ _ (fl_F (by omega))]; exact z4 k hk⟩
  · rcases h2 with z | ⟨r, x, z1, z2, z3, z4⟩
    · exact Or.inl (by rw [e5]; exact z)
    · exact Or.inr ⟨r, x, z1, by rw [e5]; exact z2, by rw [e6]; exact z3, z4⟩
/-- another's frame keeps Losses' cache -/
theorem cL_.off {G G1 : mm_G} {P : ps_T} {S : Nat → Nat → Bool} (h : cL_ G P) (hP : ps_ok P) (hf : fr_ S G G1) (hS : ∀ c k, 98 ≤ c → c ≤ 167 → S c k = false) : cL_ G1 P := by
  have ht := hP.2.1.1
  intro r hr
  rcases h r hr with h | ⟨h, h2, h3⟩
  · left; rw [hf.i _ _ (hS _ _ (by omega) (by omega))]; exact h
  · right
    refine ⟨?_, ?_, fun k hk => (h3 k hk).fr hf (fun j => hS _ _ (by omega) (by omega)) (fun j => hS _ _ (by omega) (by omega))⟩
    · rw [hf.i _ _ (hS _ _ (by omega) (by omega))]; exact h
    · rw [hf.i _ _ (hS _ _ (by omega) (by omega))]; exact h2
def fw_ (c _k : Nat) : Bool := decide (168 ≤ c) && decide (c ≤ 170)
theorem fw_F {c k : Nat} (h : c < 168 ∨ 170 < c) : fw_ c k = false := by
  unfold fw_
  rcases h with z | z
  · rw [decide_eq_false (p := 168 ≤ c) (by omega)]; rfl
  · rw [decide_eq_false (p := c ≤ 170) (by omega), Bool.and_false]
theorem cL_.fw {G G1 : mm_G} {P : ps_T} (h : cL_ G P) (hP : ps_ok P) (hf : fr_ fw_ G G1) : cL_ G1 P := h.off hP hf (fun c k h1 h2 => fw_F (by omega))
def kW_ (G : mm_G) (S : Nat → Bool) (L s : Nat) : Prop := (∀ x, x < s → mg_i G 169 x = nI (wy_ S L x)) ∧ ∀ k, k ≤ 12 → mg_l G 170 k = lN (wz_ S L k s)
theorem s_reckon {l : Launch} {κ : mm_K} {d : Nat} {G : mm_G} {K : mm_G → Prop} {P : ps_T} {r : Nat} (hP : ps_ok P) (hC : cB_ G P) (hL : cL_ G P) (hO : cO_ G P) (hr : r < (ps_p P).length) (h12 : (px_at (ps_p P) r).length ≤ 12)
    (h : ∀ G', cL_ G' P → cO_ G' P → (∀ k, k ≤ 12 → mg_l G' 170 k = lN (wz_ (sm_ P r) (px_at (ps_p P) r).length k (2 ^ (px_at (ps_p P) r).length))) → fr_ fO_ G G' → K G') : mC l κ true (d + 5) 0 0 m_X4_reckonWays [.ref 168, .int (nI r)] G (rV K) := by
  have hp := hP.1.1
  have hpow : 2 ^ (px_at (ps_p P) r).length ≤ 4096 := Nat.pow_le_pow_right (n := 2) (by decide) h12
  have hpos := Nat.two_pow_pos (px_at (ps_p P) r).length
  refine e_X4_reckonWays _ ?_
  rw [nI_clamp (by omega), (hC.1.2.1 r hr).1]
  refine ⟨(ki_vp (by omega)).2 (by omega), fun y => ?_, fun y => ⟨fun _ => ?_, fun z => absurd (by rw [nI_leI (by omega) (by omega)]; exact h12) z⟩⟩
  · refine h G hL hO ?_ fr_.rfl'
    rcases hO.1 with z | ⟨r', z1, z2, z3, z4⟩
    · rw [z, ki_m1' (by omega)] at y
      exact y.elim
    · have : r' = r := (nI_eq (by omega) (by omega)).1 (z3.symm.trans y)
      subst this
      exact z4
  -- the sets in their order
  have hsets : ∀ w s G1, s + w = 2 ^ (px_at (ps_p P) r).length → s ≠ 0 → cL_ G1 P → fr_ fO_ G G1 → (∀ k, mg_i G1 168 k = mg_i G 168 k) → kW_ G1 (sm_ P r) (px_at (ps_p P) r).length s → mV l κ true (d + 5) 0 0 m_X4_reckonWays 65 [some (.ref 168), some (.int (nI r)), some (.int (nI (px_at (ps_p P) r).length)), some (.int (nI s)), none, none] [] G1 (rV K) := by
    intro w
    induction w with
    | zero =>
      intro s G1 hs h0 l1 f1 e1 k1
      have es : s = 2 ^ (px_at (ps_p P) r).length := by omega
      rw [es] at k1
      refine p_X4_reckonWays_65 _ _ _ ⟨fun _ => ?_, fun z => absurd (by rw [ki_shl _ (by omega)]; exact nI_le (by omega) (by omega)) z⟩
      have fz : fr_ fw_ G1 (ms_i G1 168 4 (nI r)) := fr_.rfl'.si (by decide)
      refine h _ (l1.fw hP fz) ⟨Or.inr ⟨r, hr, h12, by simp only [mg_i_i, mg_i_l, mg_i_r, mg_i_b, mg_l_i, mg_l_l, mg_l_r, mg_l_b, mg_r_i, mg_r_l, mg_r_r, mg_r_b, false_and, and_false, true_and, and_true, reduceCtorEq, if_true, if_false, reduceIte, Nat.reduceEqDiff, Nat.reduceAdd, Nat.succ_ne_self, ne_eq, not_false_eq_true, not_true_eq_false], fun k hk => by simp only [mg_i_i, mg_i_l, mg_i_r, mg_i_b, mg_l_i, mg_l_l, mg_l_r, mg_l_b, mg_r_i, mg_r_l, mg_r_r, mg_r_b, false_and, and_false, true_and, and_true, reduceCtorEq, if_true, if_false, reduceIte, Nat.reduceEqDiff, Nat.reduceAdd, Nat.succ_ne_self, ne_eq, not_false_eq_true, not_true_eq_false]; exact k1.2 k hk⟩, ?_⟩ (fun k hk => by simp only [mg_i_i, mg_i_l, mg_i_r, mg_i_b, mg_l_i, mg_l_l, mg_l_r, mg_l_b, mg_r_i, mg_r_l, mg_r_r, mg_r_b, false_and, and_false, true_and, and_true, reduceCtorEq, if_true, if_false, reduceIte, Nat.reduceEqDiff, Nat.reduceAdd, Nat.succ_ne_self, ne_eq, not_false_eq_true, not_true_eq_false]; exact k1.2 k hk) (f1.si (fO_T (by omega)))
      rcases hO.2 with z | ⟨r', x, z1, z2, z3, z4⟩
      · left; simp only [mg_i_i, mg_i_l, mg_i_r, mg_i_b, mg_l_i, mg_l_l, mg_l_r, mg_l_b, mg_r_i, mg_r_l, mg_r_r, mg_r_b, false_and, and_false, true_and, and_true, reduceCtorEq, if_true, if_false, reduceIte, Nat.reduceEqDiff, Nat.reduceAdd, Nat.succ_ne_self, ne_eq, not_false_eq_true, not_true_eq_false]; rw [e1]; exact z
      · right
        refine ⟨r', x, z1, ?_, ?_, z4⟩
        · simp only [mg_i_i, mg_i_l, mg_i_r, mg_i_b, mg_l_i, mg_l_l, mg_l_r, mg_l_b, mg_r_i, mg_r_l, mg_r_r, mg_r_b, false_and, and_false, true_and, and_true, reduceCtorEq, if_true, if_false, reduceIte, Nat.reduceEqDiff, Nat.reduceAdd, Nat.succ_ne_self, ne_eq, not_false_eq_true, not_true_eq_false]; rw [e1]; exact z2
        · simp only [mg_i_i, mg_i_l, mg_i_r, mg_i_b, mg_l_i, mg_l_l, mg_l_r, mg_l_b, mg_r_i, mg_r_l, mg_r_r, mg_r_b, false_and, and_false, true_and, and_true, reduceCtorEq, if_true, if_false, reduceIte, Nat.reduceEqDiff, Nat.reduceAdd, Nat.succ_ne_self, ne_eq, not_false_eq_true, not_true_eq_false]; rw [e1]; exact z3
    | succ w ih =>
      intro s G1 hs h0 l1 f1 e1 k1
      have hsl : s < 2 ^ (px_at (ps_p P) r).length := by omega
      have hpc := pc_le hsl (by omega)
      -- the set is booked
      have hput : ∀ G2, cL_ G2 P → fr_ fO_ G G2 → (∀ k, mg_i G2 168 k = mg_i G 168 k) → kW_ G2 (sm_ P r) (px_at (ps_p P) r).length s → vp_in (nI s) 4096 ∧ mC l κ true (d + 4) 0 0 m_J6_bitCount_0f7a4 [.int (nI s)] (ms_i G2 169 (nI s).toNatClampNeg (nI (wy_ (sm_ P r) (px_at (ps_p P) r).length s))) (rI (fun r1 G2 => vp_in r1 13 ∧ vp_in (nI s) 4096 ∧ vp_in r1 13 ∧ mV l κ true (d + 5) 0 0 m_X4_reckonWays 65 [some (.ref 168), some (.int (nI r)), some (.int (nI (px_at (ps_p P) r).length)), some (.int (nI s + (nI 1))), none, none] [] (ms_l G2 170 r1.toNatClampNeg ((mg_l G2 170 r1.toNatClampNeg) + ((mg_i G2 169 (nI s).toNatClampNeg).toInt64))) (rV K))) := by
        intro G2 l2 f2 e2 k2
        refine ⟨(ki_vp (by omega)).2 (by omega), ?_⟩
        rw [nI_clamp (by omega)]
        refine s_bits (by omega) ⟨(ki_vp (by omega)).2 (by omega), (ki_vp (by omega)).2 (by omega), (ki_vp (by omega)).2 (by omega), ?_⟩
        rw [nI_clamp (by omega), nI_add]
        have hwl := wy_lt (S := sm_ P r) h12 hsl
        simp only [mg_i_i, mg_i_l, mg_i_r, mg_i_b, mg_l_i, mg_l_l, mg_l_r, mg_l_b, mg_r_i, mg_r_l, mg_r_r, mg_r_b, false_and, and_false, true_and, and_true, reduceCtorEq, if_true, if_false, reduceIte, Nat.reduceEqDiff, Nat.reduceAdd, Nat.succ_ne_self, ne_eq, not_false_eq_true, not_true_eq_false]
        rw [k2.2 _ (by omega), lN_wide (by omega), lN_add]
        have fz : fr_ fw_ G2 (ms_l (ms_i G2 169 s (nI (wy_ (sm_ P r) (px_at (ps_p P) r).length s))) 170 (pc_ s) (lN (wz_ (sm_ P r) (px_at (ps_p P) r).length (pc_ s) s + wy_ (sm_ P r) (px_at (ps_p P) r).length s))) := (fr_.rfl'.si rfl).sl rfl
        refine ih (s + 1) _ (by omega) (by omega) (l2.fw hP fz) ((f2.si (fO_T (by omega))).sl (fO_T (by omega))) (fun k => by simp only [mg_i_i, mg_i_l, mg_i_r, mg_i_b, mg_l_i, mg_l_l, mg_l_r, mg_l_b, mg_r_i, mg_r_l, mg_r_r, mg_r_b, false_and, and_false, true_and, and_true, reduceCtorEq, if_true, if_false, reduceIte, Nat.reduceEqDiff, Nat.reduceAdd, Nat.succ_ne_self, ne_eq, not_false_eq_true, not_true_eq_false]; exact e2 k) ⟨fun x hx => ?_, fun k hk => ?_⟩
        · simp only [mg_i_i, mg_i_l, mg_i_r, mg_i_b, mg_l_i, mg_l_l, mg_l_r, mg_l_b, mg_r_i, mg_r_l, mg_r_r, mg_r_b, false_and, and_false, true_and, and_true, reduceCtorEq, if_true, if_false, reduceIte, Nat.reduceEqDiff, Nat.reduceAdd, Nat.succ_ne_self, ne_eq, not_false_eq_true, not_true_eq_false]
          by_cases c : x = s
          · rw [if_pos c, c]
          · rw [if_neg c]; exact k2.1 x (by omega)
        · simp only [mg_i_i, mg_i_l, mg_i_r, mg_i_b, mg_l_i, mg_l_l, mg_l_r, mg_l_b, mg_r_i, mg_r_l, mg_r_r, mg_r_b, false_and, and_false, true_and, and_true, reduceCtorEq, if_true, if_false, reduceIte, Nat.reduceEqDiff, Nat.reduceAdd, Nat.succ_ne_self, ne_eq, not_false_eq_true, not_true_eq_false]
          show _ = lN (wz_ (sm_ P r) (px_at (ps_p P) r).length k s + (if pc_ s = k then wy_ (sm_ P r) (px_at (ps_p P) r).length s else 0))
          by_cases c : k = pc_ s
          · rw [if_pos c, if_pos c.symm, c]
          · rw [if_neg c, if_neg (fun q => c q.symm), Nat.add_zero]; exact k2.2 k hk
      refine p_X4_reckonWays_65 _ _ _ ⟨fun z => absurd z (by rw [ki_shl _ (by omega)]; exact nI_ge (by omega) (by omega)), fun _ => ?_⟩
      -- the lines of the set
      have hwb := wb_le (S := sm_ P r) h12 hsl h0
      have hzero : ∀ acc, acc = wb_s (sm_ P r) (px_at (ps_p P) r).length s → mV l κ true (d + 5) 0 0 m_X4_reckonWays 78 [some (.ref 168), some (.int (nI r)), some (.int (nI (px_at (ps_p P) r).length)), some (.int (nI s)), some (.int (nI acc)), some (.int (nI (px_at (ps_p P) r).length))] [] G1 (rV K) := by
        intro acc hacc
        have hwy := wy_of (S := sm_ P r) (L := (px_at (ps_p P) r).length) h0
        rw [← hacc] at hwy
        refine p_X4_reckonWays_78 _ _ _ _ _ ⟨fun _ => ⟨fun z => ?_, fun z => ?_⟩, fun z => absurd (nI_le (by omega) (by omega)) z⟩
        · rw [ki_0, nI_leI (by omega) (by omega)] at z
          have hh := hput G1 l1 f1 e1 k1
          rw [hwy, if_neg (by omega)] at hh
          exact hh
        · rw [ki_0, nI_leI (by omega) (by omega)] at z
          refine s_firstOther hP (hC.fO hP f1) l1 hr (by omega) (fun G2 l2 f2 => ?_)
          have hh := hput G2 l2 (f1.trans f2.lO) (fun k => by rw [f2.i _ _ (fl_F (by omega))]; exact e1 k) ⟨fun x hx => by rw [f2.i _ _ (fl_F (by omega))]; exact k1.1 x hx, fun k hk => by rw [f2.l _ _ (fl_F (by omega))]; exact k1.2 k hk⟩
          refine ⟨fun y2 => ?_, fun y2 => ?_⟩
          · rw [hwy, if_neg (by rw [fo_F y2]; intro q; cases q.2)] at hh
            exact hh
          · rw [hwy, if_pos ⟨by omega, fo_T hP y2⟩] at hh
            exact hh
      suffices H : ∀ m j acc, j + m = (px_at (ps_p P) r).length → acc = fb_sm (fun i => if s.testBit i then wy_ (sm_ P r) (px_at (ps_p P) r).length (s ^^^ 2 ^ i) else 0) j → mV l κ true (d + 5) 0 0 m_X4_reckonWays 78 [some (.ref 168), some (.int (nI r)), some (.int (nI (px_at (ps_p P) r).length)), some (.int (nI s)), some (.int (nI acc)), some (.int (nI j))] [] G1 (rV K) from
        H _ 0 0 (Nat.zero_add _) rfl
      intro m
      induction m with
      | zero =>
        intro j acc hj hacc
        obtain rfl : j = (px_at (ps_p P) r).length := by omega
        exact hzero acc hacc
      | succ m ih2 =>
        intro j acc hj hacc
        refine p_X4_reckonWays_78 _ _ _ _ _ ⟨fun z => absurd z (nI_ge (by omega) (by omega)), fun _ => ⟨fun z => ?_, fun z => ?_⟩⟩
        · rw [ki_0, ki_bit (by omega) (by omega)] at z
          rw [nI_add]
          refine ih2 (j + 1) acc (by omega) ?_
          rw [fb_sm_succ, z, hacc]
          rfl
        · rw [ki_0, ki_bit (by omega) (by omega)] at z
          have hsk : s.testBit j = true := by
            cases e : s.testBit j with
            | true => rfl
            | false => exact absurd e z
          have hlt := xb_lt hsk
          rw [ki_shl _ (by omega), nx_xor, nI_clamp (by omega), k1.1 _ hlt, nI_add, nI_add]
          refine ⟨(ki_vp (by omega)).2 (by omega), ih2 (j + 1) _ (by omega) ?_⟩
          rw [fb_sm_succ, hsk, hacc]
          rfl
  -- the counters are cleared
  suffices H : ∀ w k G1, k + w = 13 → fr_ fw_ G G1 → (∀ j, mg_i G1 168 j = mg_i G 168 j) → (∀ j, j < k → mg_l G1 170 j = lN 0) → mV l κ true (d + 5) 0 0 m_X4_reckonWays 30 [some (.ref 168), some (.int (nI r)), some (.int (nI (px_at (ps_p P) r).length)), some (.int (nI k)), none, none] [] G1 (rV K) from
    H 13 0 G rfl fr_.rfl' (fun j => rfl) (fun j hj => absurd hj (Nat.not_lt_zero j))
  intro w
  induction w with
  | zero =>
    intro k G1 hk f1 e1 b1
    obtain rfl : k = 13 := by omega
    refine p_X4_reckonWays_30 _ _ _ ⟨fun _ => ⟨(ki_vp (by omega)).2 (by omega), (ki_vp (by omega)).2 (by omega), ?_⟩, fun z => absurd (by decide) z⟩
    rw [nI_clamp (by omega)]
    have fz : fr_ fw_ G (ms_l (ms_i G1 169 0 (nI 1)) 170 0 (lN 1)) := (f1.si rfl).sl rfl
    refine hsets (2 ^ (px_at (ps_p P) r).length - 1) 1 _ (by omega) (by omega) (hL.fw hP fz) (fz.mono (fun c k q => fw_F ?_)) (fun k => by simp only [mg_i_i, mg_i_l, mg_i_r, mg_i_b, mg_l_i, mg_l_l, mg_l_r, mg_l_b, mg_r_i, mg_r_l, mg_r_r, mg_r_b, false_and, and_false, true_and, and_true, reduceCtorEq, if_true, if_false, reduceIte, Nat.reduceEqDiff, Nat.reduceAdd, Nat.succ_ne_self, ne_eq, not_false_eq_true, not_true_eq_false]; exact e1 k) ⟨fun x hx => ?_, fun k hk => ?_⟩
    · rcases Nat.lt_or_ge c 91 with z | z
      · omega
      · rcases Nat.lt_or_ge 170 c with y | y
        · omega
        · rw [fO_T ⟨z, y⟩] at q; cases q
    · obtain rfl : x = 0 := by omega
      simp only [mg_i_i, mg_i_l, mg_i_r, mg_i_b, mg_l_i, mg_l_l, mg_l_r, mg_l_b, mg_r_i, mg_r_l, mg_r_r, mg_r_b, false_and, and_false, true_and, and_true, reduceCtorEq, if_true, if_false, reduceIte, Nat.reduceEqDiff, Nat.reduceAdd, Nat.succ_ne_self, ne_eq, not_false_eq_true, not_true_eq_false]
      rw [wy_eq]
      rfl
    · have e0 : wz_ (sm_ P r) (px_at (ps_p P) r).length k 1 = if k = 0 then 1 else 0 := by
        show 0 + (if pc_ 0 = k then wy_ (sm_ P r) (px_at (ps_p P) r).length 0 else 0) = _
        rw [pc_0, wy_eq]
        by_cases c : k = 0
        · rw [if_pos c.symm, if_pos c]; rfl
        · rw [if_neg (fun q => c q.symm), if_neg c]
      rw [e0]
      simp only [mg_i_i, mg_i_l, mg_i_r, mg_i_b, mg_l_i, mg_l_l, mg_l_r, mg_l_b, mg_r_i, mg_r_l, mg_r_r, mg_r_b, false_and, and_false, true_and, and_true, reduceCtorEq, if_true, if_false, reduceIte, Nat.reduceEqDiff, Nat.reduceAdd, Nat.succ_ne_self, ne_eq, not_false_eq_true, not_true_eq_false]
      by_cases c : k = 0
      · rw [if_pos c, if_pos c]
      · rw [if_neg c, if_neg c]; exact b1 k (by omega)
  | succ w ih =>
    intro k G1 hk f1 e1 b1
    refine p_X4_reckonWays_30 _ _ _ ⟨fun z => absurd z (nI_nlt (by omega) (by omega)), fun _ => ⟨(ki_vp (by omega)).2 (by omega), ?_⟩⟩
    rw [nI_add, nI_clamp (by omega)]
    refine ih (k + 1) _ (by omega) (f1.sl rfl) (fun j => by simp only [mg_i_i, mg_i_l, mg_i_r, mg_i_b, mg_l_i, mg_l_l, mg_l_r, mg_l_b, mg_r_i, mg_r_l, mg_r_r, mg_r_b, false_and, and_false, true_and, and_true, reduceCtorEq, if_true, if_false, reduceIte, Nat.reduceEqDiff, Nat.reduceAdd, Nat.succ_ne_self, ne_eq, not_false_eq_true, not_true_eq_false]; exact e1 j) (fun j hj => ?_)
    simp only [mg_i_i, mg_i_l, mg_i_r, mg_i_b, mg_l_i, mg_l_l, mg_l_r, mg_l_b, mg_r_i, mg_r_l, mg_r_r, mg_r_b, false_and, and_false, true_and, and_true, reduceCtorEq, if_true, if_false, reduceIte, Nat.reduceEqDiff, Nat.reduceAdd, Nat.succ_ne_self, ne_eq, not_false_eq_true, not_true_eq_false]
    split
    · rfl
    · exact b1 j (by omega)
