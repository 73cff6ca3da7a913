/-! ways: the reference fills its sets -/
def pd_ (s i x j : Nat) : Bool := decide (x < s) || (decide (x = s) && decide (j < i))
def pt_ (S : Nat → Bool) (L s i to j : Nat) : Nat := if to.testBit j then (if pd_ s i (to ^^^ 2 ^ j) j then wy_ S L (to ^^^ 2 ^ j) else 0) else 0
def pw_ (S : Nat → Bool) (L s i to : Nat) : Nat := (if to = 0 then 1 else 0) + if S to then fb_sm (pt_ S L s i to) L else 0
theorem pd_T {s i x j : Nat} (h : x < s ∨ (x = s ∧ j < i)) : pd_ s i x j = true := by
  unfold pd_
  simp only [Bool.or_eq_true, Bool.and_eq_true, decide_eq_true_eq]
  exact h
theorem pd_F {s i x j : Nat} (h : ¬ (x < s ∨ (x = s ∧ j < i))) : pd_ s i x j = false := by
  cases c : pd_ s i x j with
  | false => rfl
  | true =>
    unfold pd_ at c
    simp only [Bool.or_eq_true, Bool.and_eq_true, decide_eq_true_eq] at c
    exact absurd c h
theorem pw_done {S : Nat → Bool} {L s i to : Nat} (h : to ≤ s) : pw_ S L s i to = wy_ S L to := by
  rw [wy_eq]
  unfold pw_ wv_
  by_cases c : to = 0
  · rw [if_pos c, if_pos c]
    have e : fb_sm (pt_ S L s i to) L = 0 := by
      rw [fb_sm_cong (g := fun _ => 0) (fun j _ => by unfold pt_; rw [c, Nat.zero_testBit]; rfl), fb_sm_const, Nat.mul_zero]
    rw [e]
    split <;> rfl
  · rw [if_neg c, if_neg c, Nat.zero_add]
    have e : fb_sm (pt_ S L s i to) L = bs_ L to (fun j => wy_ S L (to ^^^ 2 ^ j)) := fb_sm_cong (fun j _ => by
      unfold pt_
      cases b : to.testBit j with
      | false => rfl
      | true =>
        have := xb_lt b
        rw [pd_T (Or.inl (by omega))]
        rfl)
    rw [e]
theorem pw_0 {S : Nat → Bool} {L to : Nat} : pw_ S L 0 0 to = if to = 0 then 1 else 0 := by
  unfold pw_
  have e : fb_sm (pt_ S L 0 0 to) L = 0 := by
    rw [fb_sm_cong (g := fun _ => 0) (fun j _ => by
      unfold pt_
      rw [pd_F (by omega)]
      split <;> rfl), fb_sm_const, Nat.mul_zero]
  rw [e]
  split <;> simp
theorem pw_row {S : Nat → Bool} {L s to : Nat} : pw_ S L s L to = pw_ S L (s + 1) 0 to := by
  unfold pw_
  rw [fb_sm_cong (g := pt_ S L (s + 1) 0 to) (fun j hj => by
    unfold pt_
    have : pd_ s L (to ^^^ 2 ^ j) j = pd_ (s + 1) 0 (to ^^^ 2 ^ j) j := by
      by_cases c : to ^^^ 2 ^ j < s + 1
      · rw [pd_T (by omega), pd_T (Or.inl c)]
      · rw [pd_F (by omega), pd_F (by omega)]
    rw [this])]
theorem pw_step {S : Nat → Bool} {L s i to : Nat} (hi : i < L) : pw_ S L s (i + 1) to = pw_ S L s i to + if S to = true ∧ to = s ||| 2 ^ i ∧ s.testBit i = false then wy_ S L s else 0 := by
  have key : fb_sm (pt_ S L s (i + 1) to) L = fb_sm (pt_ S L s i to) L + if to = s ||| 2 ^ i ∧ s.testBit i = false then wy_ S L s else 0 := by
    by_cases c : to = s ||| 2 ^ i ∧ s.testBit i = false
    · rw [if_pos c]
      obtain ⟨c1, c2⟩ := c
      have hx : to ^^^ 2 ^ i = s := by rw [c1]; exact ob_xor c2
      have hb : to.testBit i = true := by rw [c1]; exact ob_tb s i
      have h0 : pt_ S L s i to i = 0 := by
        unfold pt_
        rw [hb, hx, pd_F (by omega)]; rfl
      have h1 : pt_ S L s (i + 1) to i = wy_ S L s := by
        unfold pt_
        rw [hb, hx, pd_T (by omega)]; rfl
      have := fb_sm_upd (pt_ S L s i to) (wy_ S L s) (i := i) (n := L) hi
      rw [h0, Nat.add_zero] at this
      rw [← this]
      refine fb_sm_cong (fun j hj => ?_)
      by_cases cj : j = i
      · rw [if_pos cj, cj, h1]
      · rw [if_neg cj]
        unfold pt_
        have : pd_ s (i + 1) (to ^^^ 2 ^ j) j = pd_ s i (to ^^^ 2 ^ j) j := by
          by_cases z : to ^^^ 2 ^ j < s ∨ (to ^^^ 2 ^ j = s ∧ j < i)
          · rw [pd_T z, pd_T (by omega)]
          · rw [pd_F z, pd_F (by omega)]
        rw [this]
    · rw [if_neg c, Nat.add_zero]
      refine fb_sm_cong (fun j hj => ?_)
      unfold pt_
      cases b : to.testBit j with
      | false => rfl
      | true =>
        have : pd_ s (i + 1) (to ^^^ 2 ^ j) j = pd_ s i (to ^^^ 2 ^ j) j := by
          by_cases z : to ^^^ 2 ^ j < s ∨ (to ^^^ 2 ^ j = s ∧ j < i)
          · rw [pd_T z, pd_T (by omega)]
          · rw [pd_F z, pd_F]
            intro q
            have hj2 : to ^^^ 2 ^ j = s ∧ j = i := by omega
            apply c
            obtain ⟨q1, q2⟩ := hj2
            subst q2
            refine ⟨?_, ?_⟩
            · rw [← q1]; exact (xb_or b).symm
            · rw [← q1, xb_tb, if_pos rfl, b]; rfl
        rw [this]
  unfold pw_
  rw [key]
  cases cS : S to with
  | false => simp
  | true =>
    simp only [if_true, true_and]
    omega
def fB_ (c k : Nat) : Bool := fb_ c k || decide (c = 265) || decide (c = 266)
theorem fB_on {c k : Nat} (h : rgQ c k = true) : fB_ c k = false := by
  unfold fB_
  have := rgQ_iff.1 h
  rw [fb_on h, decide_eq_false (by omega), decide_eq_false (by omega)]
  rfl
theorem fB_T {c k : Nat} (h : c = 265 ∨ c = 266) : fB_ c k = true := by
  unfold fB_
  rcases h with z | z
  · rw [decide_eq_true z]; simp
  · rw [decide_eq_true (p := c = 266) z]; simp
theorem fr_.bB {G G1 : mm_G} (h : fr_ fb_ G G1) : fr_ fB_ G G1 := h.mono (fun c k q => by unfold fB_ at q; simp only [Bool.or_eq_false_iff] at q; exact q.1.1)
theorem mB_.fB {G G1 : mm_G} {P : ps_T} {m : Nat} (h : mB_ G P m) (hf : fr_ fB_ G G1) : mB_ G1 P m := h.on (hf.on (fun c k q => fB_on q))
def ks_ (G : mm_G) (P : ps_T) (r : Nat) : Prop := ∀ s, s < 2 ^ (px_at (ps_p P) r).length → mg_i G 265 s = (if sm_ P r s then nI 1 else nI 0) ∧ mg_l G 266 s = lN (wy_ (sm_ P r) (px_at (ps_p P) r).length s)
theorem t_fillSets {l : Launch} {κ : mm_K} {d : Nat} {G : mm_G} {K : mm_G → Prop} {P : ps_T} {a r : Nat} (hP : ps_ok P) (hM : mB_ G P a) (hr : r < (ps_p P).length) (h12 : (px_at (ps_p P) r).length ≤ 12)
    (h : ∀ G', ks_ G' P r → fr_ fB_ G G' → K G') : mC l κ true (d + 7) 0 0 m_X13_fillSets [.ref 226, .int (nI r)] G (rV K) := by
  have hp := hP.1.1
  have hpow : 2 ^ (px_at (ps_p P) r).length ≤ 4096 := Nat.pow_le_pow_right (n := 2) (by decide) h12
  have hpos := Nat.two_pow_pos (px_at (ps_p P) r).length
  refine e_X13_fillSets _ (t_lines hP hM hr (t_fillBase hP hM hr (fun G0 b0 p0 f0 => ?_)))
  rw [ki_shl _ (by omega)]
  -- the ways
  have hways : ∀ w s G1, s + w = 2 ^ (px_at (ps_p P) r).length → fr_ fB_ G G1 → (∀ x, x < 2 ^ (px_at (ps_p P) r).length → mg_i G1 265 x = (if sm_ P r x then nI 1 else nI 0)) → (∀ x, x < 2 ^ (px_at (ps_p P) r).length → mg_l G1 266 x = lN (pw_ (sm_ P r) (px_at (ps_p P) r).length s 0 x)) → mV l κ true (d + 7) 0 0 m_X13_fillSets 55 [some (.ref 226), some (.int (nI r)), some (.int (nI (2 ^ (px_at (ps_p P) r).length))), some (.int (nI s)), none, none] [] G1 (rV K) := by
    intro w
    induction w with
    | zero =>
      intro s G1 hs f1 k1 k2
      refine p_X13_fillSets_55 _ _ _ ⟨fun _ => h G1 (fun x hx => ⟨k1 x hx, ?_⟩) f1, fun z => absurd (nI_le (by omega) (by omega)) z⟩
      rw [k2 x hx, pw_done (by omega)]
    | succ w ih =>
      intro s G1 hs f1 k1 k2
      refine p_X13_fillSets_55 _ _ _ ⟨fun z => absurd z (nI_ge (by omega) (by omega)), fun _ => ?_⟩
      suffices H : ∀ v i G2, i + v = (px_at (ps_p P) r).length → fr_ fB_ G G2 → (∀ x, x < 2 ^ (px_at (ps_p P) r).length → mg_i G2 265 x = (if sm_ P r x then nI 1 else nI 0)) → (∀ x, x < 2 ^ (px_at (ps_p P) r).length → mg_l G2 266 x = lN (pw_ (sm_ P r) (px_at (ps_p P) r).length s i x)) → mV l κ true (d + 7) 0 0 m_X13_fillSets 63 [some (.ref 226), some (.int (nI r)), some (.int (nI (2 ^ (px_at (ps_p P) r).length))), some (.int (nI s)), some (.int (nI i)), none] [] G2 (rV K) from H _ 0 G1 (Nat.zero_add _) f1 k1 k2
      intro v
      induction v with
      | zero =>
        intro i G2 hi f2 k1 k2
        obtain rfl : i = (px_at (ps_p P) r).length := by omega
        refine p_X13_fillSets_63 _ _ _ _ (t_lines hP (hM.fB f2) hr ⟨fun _ => ?_, fun z => absurd (nI_le (by omega) (by omega)) z⟩)
        rw [nI_add]
        exact ih (s + 1) G2 (by omega) f2 k1 (fun x hx => by rw [k2 x hx, pw_row])
      | succ v ih2 =>
        intro i G2 hi f2 k1 k2
        have hto := ob_lt (n := s) (i := i) (L := (px_at (ps_p P) r).length) (by omega) (by omega)
        refine p_X13_fillSets_63 _ _ _ _ (t_lines hP (hM.fB f2) hr ⟨fun z => absurd z (nI_ge (by omega) (by omega)), fun _ => ?_⟩)
        rw [ki_shl _ (by omega), fa_or, nI_add, nI_clamp (by omega), nI_clamp (by omega)]
        have hstay : (∀ x, ¬ (sm_ P r x = true ∧ x = s ||| 2 ^ i ∧ s.testBit i = false)) → mV l κ true (d + 7) 0 0 m_X13_fillSets 63 [some (.ref 226), some (.int (nI r)), some (.int (nI (2 ^ (px_at (ps_p P) r).length))), some (.int (nI s)), some (.int (nI (i + 1))), none] [] G2 (rV K) := by
          intro hno
          refine ih2 (i + 1) G2 (by omega) f2 k1 (fun x hx => ?_)
          rw [k2 x hx, pw_step (by omega), if_neg (hno x), Nat.add_zero]
        rw [nI_eq (by omega) (by omega)]
        refine ⟨fun y => hstay (fun x q => ?_), fun y => ⟨(ki_vp (by omega)).2 (by omega), ?_⟩⟩
        · rw [ob_same] at y
          rw [q.2.2] at y
          cases y
        · have hb : s.testBit i = false := by
            cases c : s.testBit i with
            | false => rfl
            | true => exact absurd (ob_same.2 c) y
          rw [k1 _ hto]
          refine ⟨fun y2 => hstay (fun x q => ?_), fun y2 => ⟨(ki_vp (by omega)).2 (by omega), (ki_vp (by omega)).2 (by omega), (ki_vp (by omega)).2 (by omega), ?_⟩⟩
          · rw [q.2.1] at q
            rw [q.1] at y2
            exact absurd y2 (by decide)
          · have hS : sm_ P r (s ||| 2 ^ i) = true := by
              cases c : sm_ P r (s ||| 2 ^ i) with
              | true => rfl
              | false => rw [c] at y2; exact absurd rfl y2
            rw [k2 _ hto, k2 s (by omega), pw_done (to := s) (Nat.le_refl s), lN_add]
            refine ih2 (i + 1) _ (by omega) (f2.sl (fB_T (Or.inr rfl))) (fun x hx => by simp only [mg_i_i, mg_i_l, mg_i_r, mg_i_b, mg_l_i, mg_l_l, mg_l_r, mg_l_b, mg_r_i, mg_r_l, mg_r_r, mg_r_b, false_and, and_false, true_and, and_true, reduceCtorEq, if_true, if_false, reduceIte, Nat.reduceEqDiff, Nat.reduceAdd, Nat.succ_ne_self, ne_eq, not_false_eq_true, not_true_eq_false]; exact k1 x hx) (fun x hx => ?_)
            simp only [mg_i_i, mg_i_l, mg_i_r, mg_i_b, mg_l_i, mg_l_l, mg_l_r, mg_l_b, mg_r_i, mg_r_l, mg_r_r, mg_r_b, false_and, and_false, true_and, and_true, reduceCtorEq, if_true, if_false, reduceIte, Nat.reduceEqDiff, Nat.reduceAdd, Nat.succ_ne_self, ne_eq, not_false_eq_true, not_true_eq_false]
            rw [pw_step (by omega)]
            by_cases c : x = s ||| 2 ^ i
            · rw [if_pos c, c, if_pos ⟨hS, rfl, hb⟩]
            · rw [if_neg c, if_neg (fun q => c q.2.1), Nat.add_zero]; exact k2 x hx
  -- what is the same
  suffices H : ∀ w s G1, s + w = 2 ^ (px_at (ps_p P) r).length → fr_ fB_ G G1 → mb_ G1 P r → (∀ x, x < s → mg_i G1 265 x = (if sm_ P r x then nI 1 else nI 0)) → (∀ x, x < s → mg_l G1 266 x = lN (if x = 0 then 1 else 0)) → mV l κ true (d + 7) 0 0 m_X13_fillSets 15 [some (.ref 226), some (.int (nI r)), some (.int (nI (2 ^ (px_at (ps_p P) r).length))), some (.int (nI s)), none, none] [] G1 (rV K) from
    H _ 0 G0 (Nat.zero_add _) f0.bB b0 (fun x hx => absurd hx (Nat.not_lt_zero x)) (fun x hx => absurd hx (Nat.not_lt_zero x))
  intro w
  induction w with
  | zero =>
    intro s G1 hs f1 b1 k1 k2
    refine p_X13_fillSets_15 _ _ _ ⟨fun _ => ?_, fun z => absurd (nI_le (by omega) (by omega)) z⟩
    exact hways _ 0 G1 (Nat.zero_add _) f1 (fun x hx => k1 x (by omega)) (fun x hx => by rw [k2 x (by omega), pw_0])
  | succ w ih =>
    intro s G1 hs f1 b1 k1 k2
    refine p_X13_fillSets_15 _ _ _ ⟨fun z => absurd z (nI_ge (by omega) (by omega)), fun _ => t_isSame hP (hM.fB f1) hr b1 (by omega) (fun G2 f2 => ?_)⟩
    have hn : vp_nar .boolean (if sm_ P r s then nI 1 else nI 0) = (if sm_ P r s then nI 1 else nI 0) := by
      cases sm_ P r s <;> decide +kernel
    have hgo : ∀ v, v = (if s = 0 then 1 else 0) → mV l κ true (d + 7) 0 0 m_X13_fillSets 15 [some (.ref 226), some (.int (nI r)), some (.int (nI (2 ^ (px_at (ps_p P) r).length))), some (.int (nI (s + 1))), none, none] [] (ms_l (ms_i G2 265 s (if sm_ P r s then nI 1 else nI 0)) 266 s (lN v)) (rV K) := by
      intro v hv
      refine ih (s + 1) _ (by omega) (((f1.trans f2.gb.bB).si (fB_T (Or.inl rfl))).sl (fB_T (Or.inr rfl))) ?_ (fun x hx => ?_) (fun x hx => ?_)
      · intro k hk
        obtain ⟨a1, a2, a3⟩ := (b1.fg f2) k hk
        exact ⟨by simp only [mg_i_i, mg_i_l, mg_i_r, mg_i_b, mg_l_i, mg_l_l, mg_l_r, mg_l_b, mg_r_i, mg_r_l, mg_r_r, mg_r_b, false_and, and_false, true_and, and_true, reduceCtorEq, if_true, if_false, reduceIte, Nat.reduceEqDiff, Nat.reduceAdd, Nat.succ_ne_self, ne_eq, not_false_eq_true, not_true_eq_false]; exact a1, by simp only [mg_i_i, mg_i_l, mg_i_r, mg_i_b, mg_l_i, mg_l_l, mg_l_r, mg_l_b, mg_r_i, mg_r_l, mg_r_r, mg_r_b, false_and, and_false, true_and, and_true, reduceCtorEq, if_true, if_false, reduceIte, Nat.reduceEqDiff, Nat.reduceAdd, Nat.succ_ne_self, ne_eq, not_false_eq_true, not_true_eq_false]; exact a2, fun j hj => by simp only [mg_i_i, mg_i_l, mg_i_r, mg_i_b, mg_l_i, mg_l_l, mg_l_r, mg_l_b, mg_r_i, mg_r_l, mg_r_r, mg_r_b, false_and, and_false, true_and, and_true, reduceCtorEq, if_true, if_false, reduceIte, Nat.reduceEqDiff, Nat.reduceAdd, Nat.succ_ne_self, ne_eq, not_false_eq_true, not_true_eq_false]; exact a3 j hj⟩
      · simp only [mg_i_i, mg_i_l, mg_i_r, mg_i_b, mg_l_i, mg_l_l, mg_l_r, mg_l_b, mg_r_i, mg_r_l, mg_r_r, mg_r_b, false_and, and_false, true_and, and_true, reduceCtorEq, if_true, if_false, reduceIte, Nat.reduceEqDiff, Nat.reduceAdd, Nat.succ_ne_self, ne_eq, not_false_eq_true, not_true_eq_false]
        by_cases c : x = s
        · rw [if_pos c, c]
        · rw [if_neg c, f2.i _ _ (fg_F (by omega))]; exact k1 x (by omega)
      · simp only [mg_i_i, mg_i_l, mg_i_r, mg_i_b, mg_l_i, mg_l_l, mg_l_r, mg_l_b, mg_r_i, mg_r_l, mg_r_r, mg_r_b, false_and, and_false, true_and, and_true, reduceCtorEq, if_true, if_false, reduceIte, Nat.reduceEqDiff, Nat.reduceAdd, Nat.succ_ne_self, ne_eq, not_false_eq_true, not_true_eq_false]
        by_cases c : x = s
        · rw [if_pos c, c, hv]
        · rw [if_neg c, f2.l _ _ (fg_F (by omega))]; exact k2 x (by omega)
    rw [nI_add, nI_clamp (by omega), hn, ki_0, nI_eq (by omega) (by omega)]
    exact ⟨(ki_vp (by omega)).2 (by omega), fun z => ⟨(ki_vp (by omega)).2 (by omega), hgo 0 (by rw [if_neg z])⟩, fun z => ⟨(ki_vp (by omega)).2 (by omega), hgo 1 (by rw [if_pos z])⟩⟩
