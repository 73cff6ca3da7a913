/-! hold and restore -/
def wh_ (P : ps_T) (i : Nat) : ps_T := (ps_p P, ps_t P, ps_f P, ps_n P, ru_up (ps_s P) i (some (ps_p P, ps_n P)), ps_b P, ps_c P)
def wr_ (P : ps_T) (p : px_T) (s : sx_T) : ps_T := (p, ps_t P, ps_f P, s, ps_s P, ps_b P, ps_c P)
theorem wh_ok {P : ps_T} (i : Nat) (h : ps_ok P) : ps_ok (wh_ P i) := by
  obtain ⟨a1, a2, a3, a4, a5, a6, a7⟩ := h
  refine ⟨a1, a2, a3, a4, fun j p s q => ?_, a6, a7⟩
  have q : ru_up (ps_s P) i (some (ps_p P, ps_n P)) j = some (p, s) := q
  by_cases c : j = i
  · subst c
    rw [ru_up_eq] at q
    cases q
    exact ⟨a1, a4⟩
  · rw [ru_up_ne _ _ c] at q
    exact a5 j p s q
theorem wr_ok {P : ps_T} {i : Nat} {p : px_T} {s : sx_T} (h : ps_ok P) (hs : ps_s P i = some (p, s)) : ps_ok (wr_ P p s) := by
  obtain ⟨a1, a2, a3, a4, a5, a6, a7⟩ := h
  obtain ⟨b1, b2⟩ := a5 i p s hs
  exact ⟨b1, a2, a3, b2, a5, a6, a7⟩
def st_hold (P : ps_T) (a : Int32) : ps_T := match ix_ 3 a with
  | none => P
  | some i => wh_ P i
def an_hold (a : Int32) : Int32 := match ix_ 3 a with
  | none => nI 0
  | some _ => nI 1
theorem st_hold_ok {P : ps_T} (a : Int32) (h : ps_ok P) : ps_ok (st_hold P a) := by
  unfold st_hold
  split
  · exact h
  · exact wh_ok _ h
theorem ix_c3 {w : Int32} (h : ix_ 3 w = none) : w < 0 ∨ (¬ w < nI 3 ∧ nI 3 ≤ w) := by
  rcases ix_none (by decide) h with z | z
  · exact Or.inl z
  · right
    refine ⟨?_, z.2⟩
    have z2 := z.2
    rw [fa_le] at z2
    rw [fa_lt]
    omega
theorem rs_50 : 50 ∈ rs_L := by decide
theorem rs_sl {i : Nat} (h : i < 3) : 189 + 12 * i ∈ rs_L := by
  simp only [rs_L, List.mem_cons, List.not_mem_nil, or_false]
  omega
theorem c_hold {l : Launch} {κ : mm_K} {d : Nat} {G : mm_G} {K : Int32 → mm_G → Prop} {P : ps_T} (a : Int32) (hP : ps_ok P) (hC : cB_ G P) (h : ∀ G', cB_ G' (st_hold P a) → fr_ (fun c _ => decide (189 ≤ c) && decide (c < 226)) G G' → K (an_hold a) G') : mC l κ true (d + 2) 0 0 m_X12_hold [.ref 0, .int a] G (rI K) := by
  unfold st_hold an_hold at h
  refine e_X12_hold a ?_
  cases e : ix_ 3 a with
  | none =>
    rw [e] at h
    have h := h G hC fr_.rfl'
    exact ⟨fun _ => h, fun z => ⟨fun z2 => (ix_c3 e).elim (fun y => absurd y z) (fun y => absurd z2 y.1), fun _ => h⟩⟩
  | some i =>
    rw [e] at h
    obtain ⟨hi, ei⟩ := ix_some (by decide) e
    subst ei
    obtain ⟨a1, a2, a3, a4, a5, a6, a7⟩ := hC
    refine ⟨fun z => absurd z (nI_pos (by omega)), fun _ => ⟨fun _ => ⟨(ki_vp (by omega)).2 hi, ?_⟩, fun z => absurd (nI_lt hi (by omega)) z⟩⟩
    rw [nI_clamp (by omega)]
    refine s_rscopy (rs_sl hi) rs_50 (by omega) hP.1.1 hP.2.2.2.1.1 a1 (fun j hj => by rw [show 189 + 12 * i + 4 + 2 * j = 193 + 12 * i + 2 * j by omega]; exact (a3 j hj).2.2 i hi) (fun j hj => (a3 j hj).2.1) (fun G1 r1 n1 f1 => ⟨(ki_vp (by omega)).2 hi, ?_⟩)
    rw [show vp_nar .boolean (nI 1) = nI 1 by decide +kernel]
    have f2 : fr_ (fun c k => fy_ (189 + 12 * i) c k || (decide (c = 225) && decide (k = i))) G (ms_i G1 225 i (nI 1)) := (f1.mono (fun c k q => by simp only [Bool.or_eq_false_iff] at q; exact q.1)).si (by simp)
    have f3 : fr_ (fun c k => decide (c = 225)) G1 (ms_i G1 225 i (nI 1)) := fr_.rfl'.si (by simp)
    have hn : mg_n G ≤ mg_n (ms_i G1 225 i (nI 1)) := by rw [f2.1]; exact Nat.le_refl _
    have hS : ∀ c k, (c < 189 + 12 * i ∨ 189 + 12 * i + 12 ≤ c) → (c ≠ 225 ∨ k ≠ i) → (!(fy_ (189 + 12 * i) c k || (decide (c = 225) && decide (k = i)))) = true := by
      intro c k q1 q2
      rw [fy_F q1]
      simp
      omega
    refine h _ ⟨a1.on hP.1.1 f2.nn hn (fun c k q1 q2 => hS _ _ (by omega) (by omega)) (fun t k q => hS _ _ (by omega) (by omega)), a2.on hP.2.1.1 f2.nn (fun c k q1 q2 => hS _ _ (by omega) (by omega)), fun j hj => ?_, fun q hq => ?_, a5.on f2.nn (fun c k q => hS _ _ (by omega) (by omega)), ?_, fun w hw => ?_⟩ (f2.mono (fun c k q => ?_))
    · obtain ⟨b1, b2, b3⟩ := a3 j hj
      refine ⟨?_, ?_, fun q hq => ?_⟩
      · rw [f2.nn.i _ _ (hS _ _ (by omega) (by omega))]; exact b1
      · rw [f2.nn.i _ _ (hS _ _ (by omega) (by omega))]; exact b2
      · by_cases c : q = i
        · subst c
          rw [f3.i _ _ (by simp; omega)]
          have := n1 j hj
          rw [show 189 + 12 * q + 4 + 2 * j = 193 + 12 * q + 2 * j by omega] at this
          exact this
        · rw [f2.nn.i _ _ (hS _ _ (by omega) (by omega))]; exact b3 q hq
    · show (ru_up (ps_s P) i (some (ps_p P, ps_n P)) q = none → _) ∧ ∀ p s, ru_up (ps_s P) i (some (ps_p P, ps_n P)) q = some (p, s) → _
      by_cases c : q = i
      · subst c
        rw [ru_up_eq]
        refine ⟨fun y => (by cases y), fun p s y => ?_⟩
        cases y
        refine ⟨by simp only [mg_i_i, mg_i_l, mg_i_r, mg_i_b, mg_l_i, mg_l_l, mg_l_r, mg_l_b, mg_r_i, mg_r_l, mg_r_r, mg_r_b, false_and, and_false, true_and, and_true, reduceCtorEq, if_true, if_false, reduceIte, Nat.reduceEqDiff, Nat.reduceAdd, Nat.succ_ne_self, ne_eq, not_false_eq_true, not_true_eq_false], r1.on hP.1.1 f3.nn (Nat.le_refl _) (fun c k q1 q2 => by simp; omega) (fun t k q => by simp; omega)⟩
      · rw [ru_up_ne _ _ c]
        obtain ⟨b1, b2⟩ := a4 q hq
        refine ⟨fun y => ?_, fun p s y => ?_⟩
        · rw [f2.nn.i _ _ (hS _ _ (by omega) (by omega))]; exact b1 y
        · obtain ⟨c1, c2⟩ := b2 p s y
          refine ⟨?_, c2.on (hP.2.2.2.2.1 q p s y).1.1 f2.nn hn (fun c k q1 q2 => hS _ _ (by omega) (by omega)) (fun t k q => hS _ _ (by omega) (by omega))⟩
          rw [f2.nn.i _ _ (hS _ _ (by omega) (by omega))]; exact c1
    · rw [f2.nn.i _ _ (hS _ _ (by omega) (by omega))]; exact a6
    · rw [f2.nn.l _ _ (hS _ _ (by omega) (by omega))]; exact a7 w hw
    · have : ¬ (189 ≤ c ∧ c < 226) := fun y => by
        rw [decide_eq_true y.1, decide_eq_true y.2] at q
        cases q
      rw [fy_F (by omega)]
      simp
      omega
def st_rest (P : ps_T) (a : Int32) : Option ps_T := match ix_ 3 a with
  | none => none
  | some i => match ps_s P i with
    | none => none
    | some (p, s) => some (wr_ P p s)
def an_rest (P : ps_T) (a : Int32) : Int32 := match st_rest P a with
  | none => nI 0
  | some _ => nI 1
theorem st_rest_ok {P Q : ps_T} {a : Int32} (hP : ps_ok P) (h : st_rest P a = some Q) : ps_ok Q := by
  unfold st_rest at h
  cases e : ix_ 3 a with
  | none => rw [e] at h; cases h
  | some i =>
    rw [e] at h
    simp only [] at h
    cases e2 : ps_s P i with
    | none => rw [e2] at h; cases h
    | some x =>
      obtain ⟨p, s⟩ := x
      rw [e2] at h
      cases h
      exact wr_ok hP e2
theorem c_restore {l : Launch} {κ : mm_K} {d : Nat} {G : mm_G} {K : Int32 → mm_G → Prop} {P : ps_T} (a : Int32) (hP : ps_ok P) (hC : cB_ G P) (h0 : st_rest P a = none → K (an_rest P a) G) (h : ∀ G' Q, st_rest P a = some Q → cB_ G' Q → cZ_ G' → fr_ fK_ G G' → K (an_rest P a) G') : mC l κ true (d + 2) 0 0 m_X12_restore [.ref 0, .int a] G (rI K) := by
  unfold an_rest at h0 h
  refine e_X12_restore a ?_
  cases e : ix_ 3 a with
  | none =>
    have hn : st_rest P a = none := by unfold st_rest; rw [e]
    have h0 := h0 hn
    rw [hn] at h0
    exact ⟨fun _ => h0, fun z => ⟨fun _ => h0, fun z2 => (ix_c3 e).elim (fun y => absurd y z) (fun y => absurd y.2 z2)⟩⟩
  | some i =>
    obtain ⟨hi, ei⟩ := ix_some (by decide) e
    obtain ⟨a1, a2, a3, a4, a5, a6, a7⟩ := hC
    obtain ⟨b1, b2⟩ := a4 i hi
    cases e2 : ps_s P i with
    | none =>
      have hn : st_rest P a = none := by unfold st_rest; rw [e]; simp only [e2]
      have hh := h0 hn
      rw [hn] at hh
      subst ei
      rw [nI_clamp (by omega), b1 e2]
      exact ⟨fun z => absurd z (nI_pos (by omega)), fun _ => ⟨fun z => absurd z (nI_ge hi (by omega)), fun _ => ⟨(ki_vp (by omega)).2 hi, fun z => absurd rfl z, fun _ => hh⟩⟩⟩
    | some x =>
      obtain ⟨p, s⟩ := x
      have hn : st_rest P a = some (wr_ P p s) := by unfold st_rest; rw [e]; simp only [e2]
      rw [hn] at h
      obtain ⟨c1, c2⟩ := b2 p s e2
      obtain ⟨q1, q2⟩ := hP.2.2.2.2.1 i p s e2
      subst ei
      rw [nI_clamp (by omega), c1]
      refine ⟨fun z => absurd z (nI_pos (by omega)), fun _ => ⟨fun z => absurd z (nI_ge hi (by omega)), fun _ => ⟨(ki_vp (by omega)).2 hi, fun _ => ⟨(ki_vp (by omega)).2 hi, ?_⟩, fun z => absurd z (by decide)⟩⟩⟩
      refine s_rscopy rs_50 (rs_sl hi) (by omega) q1.1 q2.1 c2 (fun j hj => (a3 j hj).2.1) (fun j hj => by rw [show 189 + 12 * i + 4 + 2 * j = 193 + 12 * i + 2 * j by omega]; exact (a3 j hj).2.2 i hi) (fun G1 r1 n1 f1 => s_rowsChanged (fun G2 z2 f2 => ?_))
      have hz1 : ∀ c k, c < 101 ∨ 175 < c → fz_ c k = false := fun c k q => by
        unfold fz_
        rw [decide_eq_false (p := c = 101) (by omega), decide_eq_false (p := c = 168) (by omega), decide_eq_false (p := c = 171) (by omega), decide_eq_false (p := c = 175) (by omega)]
        rfl
      have f12 : fr_ (fun c k => fy_ 50 c k || fz_ c k) G G2 := (f1.mono (fun c k q => by simp only [Bool.or_eq_false_iff] at q; exact q.1)).trans (f2.mono (fun c k q => by simp only [Bool.or_eq_false_iff] at q; exact q.2))
      have hn2 : mg_n G ≤ mg_n G2 := by rw [f12.1]; exact Nat.le_refl _
      have hS : ∀ c k, (c < 50 ∨ 62 ≤ c) → (c < 101 ∨ 175 < c) → (!(fy_ 50 c k || fz_ c k)) = true := by
        intro c k q1 q2
        rw [fy_F (by omega), hz1 c k q2]
        rfl
      refine h G2 _ rfl ⟨r1.on q1.1 (f2.nn) (by rw [f2.1]; exact Nat.le_refl _) (fun c k y1 y2 => by rw [hz1 c k (by omega)]; rfl) (fun t k y => by rw [hz1 t k (by omega)]; rfl), a2.on hP.2.1.1 f12.nn (fun c k y1 y2 => hS _ _ (by omega) (by omega)), fun j hj => ?_, a4.on hP rfl f12.nn hn2 (fun c k y => hS _ _ (by omega) (by omega)), a5.on f12.nn (fun c k y => hS _ _ (by omega) (by omega)), ?_, fun w hw => ?_⟩ z2 (f12.mono (fun c k q => ?_))
      · obtain ⟨b1, b2, b3⟩ := a3 j hj
        refine ⟨?_, ?_, fun q hq => ?_⟩
        · rw [f12.nn.i _ _ (hS _ _ (by omega) (by omega))]; exact b1
        · rw [f2.i _ _ (hz1 _ _ (by omega))]; exact n1 j hj
        · rw [f12.nn.i _ _ (hS _ _ (by omega) (by omega))]; exact b3 q hq
      · rw [f12.nn.i _ _ (hS _ _ (by omega) (by omega))]; exact a6
      · rw [f12.nn.l _ _ (hS _ _ (by omega) (by omega))]; exact a7 w hw
      · unfold fK_ at q
        have := of_decide_eq_false q
        rw [fy_F (by omega), hz1 c k (by omega)]
        rfl
/-! the reference -/
def fa_ (b : Nat) (c k : Nat) : Bool := fn_ c k || (decide (c = 234) && decide (k = b)) || decide (c = 235) || (decide (c = 236) && decide (4 * b ≤ k) && decide (k < 4 * b + 4))
theorem fa_F {b c k : Nat} (h1 : c < 237 ∨ 247 < c) (h2 : c ≠ 234 ∨ k ≠ b) (h3 : c ≠ 235) (h4 : c ≠ 236 ∨ k < 4 * b ∨ 4 * b + 4 ≤ k) : fa_ b c k = false := by
  unfold fa_
  rw [fn_F h1]
  simp
  omega
theorem t_copiesArea {l : Launch} {κ : mm_K} {d : Nat} {G : mm_G} {K : mm_G → Prop} {a b : Nat} {p : px_T} (ha : a < 5) (hb : b < 5) (hab : a ≠ b) (hp : p.length ≤ 4) (hp2 : ∀ j, (px_at p j).length ≤ 16) (hA : mA_ G a p)
    (h : ∀ G', mA_ G' b p → (∀ q, (q < 64 * b ∨ 64 * b + 64 ≤ q) → rd_m G' q = rd_m G q) → fr_ (fa_ b) G G' → K G') : mC l κ true (d + 1) 0 0 m_X13_copiesArea [.ref 226, .int (nI a), .int (nI b)] G (rV K) := by
  refine e_X13_copiesArea _ _ ?_
  rw [nI_clamp (by omega), nI_clamp (by omega), hA.1]
  refine ⟨(ki_vp (by omega)).2 ha, (ki_vp (by omega)).2 hb, ?_⟩
  suffices H : ∀ n i G1, i + n = 4 → fr_ (fa_ b) G G1 → mg_i G1 234 b = nI p.length → (∀ j, j < i → mg_i G1 236 (4 * b + j) = mg_i G 236 (4 * a + j)) → (∀ q, rd_m G1 q = rd_m G q) → mV l κ true (d + 1) 0 0 m_X13_copiesArea 14 [some (.ref 226), some (.int (nI a)), some (.int (nI b)), some (.int (nI i))] [] G1 (rV K) from
    H 4 0 _ rfl (fr_.rfl'.si (by unfold fa_; simp)) (by simp only [mg_i_i, mg_i_l, mg_i_r, mg_i_b, mg_l_i, mg_l_l, mg_l_r, mg_l_b, mg_r_i, mg_r_l, mg_r_r, mg_r_b, false_and, and_false, true_and, and_true, reduceCtorEq, if_true, if_false, reduceIte, Nat.reduceEqDiff, Nat.reduceAdd, Nat.succ_ne_self, ne_eq, not_false_eq_true, not_true_eq_false]) (fun j hj => absurd hj (Nat.not_lt_zero j)) (fun q => by unfold rd_m; simp only [mg_i_i, mg_i_l, mg_i_r, mg_i_b, mg_l_i, mg_l_l, mg_l_r, mg_l_b, mg_r_i, mg_r_l, mg_r_r, mg_r_b, false_and, and_false, true_and, and_true, reduceCtorEq, if_true, if_false, reduceIte, Nat.reduceEqDiff, Nat.reduceAdd, Nat.succ_ne_self, ne_eq, not_false_eq_true, not_true_eq_false])
  intro n
  induction n with
  | zero =>
    intro i G1 hi hf q1 q2 q3
    refine p_X13_copiesArea_14 _ _ _ ⟨fun _ => ?_, fun z => absurd (nI_le (by omega) (by omega)) z⟩
    suffices H2 : ∀ n2 j G2, j + n2 = 64 → fr_ fn_ G1 G2 → (∀ q, q < j → rd_m G2 (64 * b + q) = rd_m G (64 * a + q)) → (∀ q, (q < 64 * b ∨ 64 * b + j ≤ q) → rd_m G2 q = rd_m G q) → mV l κ true (d + 1) 0 0 m_X13_copiesArea 67 [some (.ref 226), some (.int (nI a)), some (.int (nI b)), some (.int (nI j))] [] G2 (rV K) from
      H2 64 0 G1 rfl fr_.rfl' (fun q hq => absurd hq (Nat.not_lt_zero q)) (fun q _ => q3 q)
    intro n2
    induction n2 with
    | zero =>
      intro j G2 hj hf2 b1 b2
      refine p_X13_copiesArea_67 _ _ _ ⟨fun _ => ?_, fun z => absurd (nI_le (by omega) (by omega)) z⟩
      refine h G2 ⟨?_, fun w hw => ⟨?_, fun i2 hi2 => ?_⟩⟩ (fun q hq => b2 q (by omega)) (hf.trans (hf2.mono (fun c k q => by unfold fa_ at q; simp only [Bool.or_eq_false_iff] at q; exact q.1.1.1)))
      · rw [hf2.i _ _ (fn_F (by omega))]; exact q1
      · rw [hf2.i _ _ (fn_F (by omega)), q2 w (by omega)]; exact (hA.2 w hw).1
      · have := hp2 w
        rw [show 64 * b + 16 * w + i2 = 64 * b + (16 * w + i2) by omega, b1 _ (by omega), show 64 * a + (16 * w + i2) = 64 * a + 16 * w + i2 by omega]
        exact (hA.2 w hw).2 i2 hi2
    | succ n2 ih2 =>
      intro j G2 hj hf2 b1 b2
      refine p_X13_copiesArea_67 _ _ _ ⟨fun z => absurd z (nI_ge (by omega) (by omega)), fun _ => ?_⟩
      rw [ki_mul, ki_mul, nI_add, nI_add, nI_add]
      refine t_copiesLine (by omega) (by omega) (fun G3 g1 g2 => ih2 (j + 1) G3 (by omega) (hf2.trans g2) (fun q hq => ?_) (fun q hq => ?_))
      · rw [g1]
        by_cases c : q = j
        · rw [if_pos (by omega), c]; exact b2 _ (by omega)
        · rw [if_neg (by omega)]; exact b1 q (by omega)
      · rw [g1, if_neg (by omega)]; exact b2 q (by omega)
  | succ n ih =>
    intro i G1 hi hf q1 q2 q3
    have h235 : ∀ k, fa_ b 235 k = true := fun k => by unfold fa_; simp
    have h236 : ∀ k, 4 * b ≤ k → k < 4 * b + 4 → fa_ b 236 k = true := fun k y1 y2 => by unfold fa_; simp; omega
    refine p_X13_copiesArea_14 _ _ _ ⟨fun z => absurd z (nI_ge (by omega) (by omega)), fun _ => ?_⟩
    rw [ki_mul, ki_mul, nI_add, nI_add, nI_add, nI_clamp (by omega), nI_clamp (by omega)]
    refine ⟨(ki_vp (by omega)).2 (by omega), (ki_vp (by omega)).2 (by omega), (ki_vp (by omega)).2 (by omega), (ki_vp (by omega)).2 (by omega), ?_⟩
    refine ih (i + 1) _ (by omega) ((hf.sl (h235 _)).si (h236 _ (by omega) (by omega))) (by simp only [mg_i_i, mg_i_l, mg_i_r, mg_i_b, mg_l_i, mg_l_l, mg_l_r, mg_l_b, mg_r_i, mg_r_l, mg_r_r, mg_r_b, false_and, and_false, true_and, and_true, reduceCtorEq, if_true, if_false, reduceIte, Nat.reduceEqDiff, Nat.reduceAdd, Nat.succ_ne_self, ne_eq, not_false_eq_true, not_true_eq_false]; exact q1) (fun j hj => ?_) (fun q => ?_)
    · simp only [mg_i_i, mg_i_l, mg_i_r, mg_i_b, mg_l_i, mg_l_l, mg_l_r, mg_l_b, mg_r_i, mg_r_l, mg_r_r, mg_r_b, false_and, and_false, true_and, and_true, reduceCtorEq, if_true, if_false, reduceIte, Nat.reduceEqDiff, Nat.reduceAdd, Nat.succ_ne_self, ne_eq, not_false_eq_true, not_true_eq_false]
      have e : mg_i G1 236 (4 * a + i) = mg_i G 236 (4 * a + i) := hf.i _ _ (fa_F (by omega) (by omega) (by omega) (by omega))
      by_cases c : j = i
      · rw [if_pos (by omega), c, e]
      · rw [if_neg (by omega)]; exact q2 j (by omega)
    · rw [← q3 q]
      unfold rd_m
      simp only [mg_i_i, mg_i_l, mg_i_r, mg_i_b, mg_l_i, mg_l_l, mg_l_r, mg_l_b, mg_r_i, mg_r_l, mg_r_r, mg_r_b, false_and, and_false, true_and, and_true, reduceCtorEq, if_true, if_false, reduceIte, Nat.reduceEqDiff, Nat.reduceAdd, Nat.succ_ne_self, ne_eq, not_false_eq_true, not_true_eq_false]
theorem mA_.only {G G1 : mm_G} {a : Nat} {p : px_T} (h : mA_ G a p) (hp : p.length ≤ 4) (hp2 : ∀ j, (px_at p j).length ≤ 16) (h1 : mg_i G1 234 a = mg_i G 234 a) (h2 : ∀ j, j < 4 → mg_i G1 236 (4 * a + j) = mg_i G 236 (4 * a + j)) (h3 : ∀ q, 64 * a ≤ q → q < 64 * a + 64 → rd_m G1 q = rd_m G q) : mA_ G1 a p := by
  refine ⟨by rw [h1]; exact h.1, fun j hj => ⟨by rw [h2 j (by omega)]; exact (h.2 j hj).1, fun i hi => ?_⟩⟩
  have := hp2 j
  rw [h3 _ (by omega) (by omega)]
  exact (h.2 j hj).2 i hi
theorem fr_.rd {S : Nat → Nat → Bool} {G G1 : mm_G} (h : fr_ S G G1) (hs : ∀ c k, 237 ≤ c → c ≤ 247 → S c k = false) (q : Nat) : rd_m G1 q = rd_m G q := rd_m.fr h hs
theorem m_hold {l : Launch} {κ : mm_K} {d : Nat} {G : mm_G} {K : Int32 → mm_G → Prop} {P : ps_T} {m : Nat} (a : Int32) (hP : ps_ok P) (hM : mB_ G P m) (h : ∀ G', mB_ G' (st_hold P a) m → fr_ fM_ G G' → K (an_hold a) G') : mC l κ true (d + 2) 0 0 m_X13_hold [.ref 226, .int a] G (rI K) := by
  unfold st_hold an_hold at h
  refine e_X13_hold a (t_in (n := 3) a (by decide) (by decide) (fun e => ⟨fun q => absurd (by decide) q, fun _ => ?_⟩) (fun i e hi ei => ⟨fun _ => ?_, fun q => absurd q (by decide)⟩))
  · rw [e] at h; exact h G hM fr_.rfl'
  · rw [e] at h
    subst ei
    obtain ⟨a1, a2, a3, a4, a5, a6, a7, a8, a9⟩ := hM
    have hs20 := hP.2.2.2.1.1
    have hf0 : fr_ (fun c k => decide (c = 278) && decide (k = i)) G (ms_i G 278 i (nI 1)) := fr_.rfl'.si (by simp)
    have hA0 : mA_ (ms_i G 278 i (nI 1)) m (ps_p P) := a3.on hf0.nn (fun c k q1 q2 => by simp; omega)
    rw [show vp_nar .boolean (nI 1) = nI 1 by decide +kernel, a2, nI_add, nI_clamp (by omega)]
    refine ⟨(ki_vp (by omega)).2 hi, t_copiesArea (by omega) (by omega) (by omega) hP.1.1 hP.1.2.2 hA0 (fun G1 A1 o1 f1 => ⟨(ki_vp (by omega)).2 hi, (ki_vp (by omega)).2 hi, ?_⟩)⟩
    have hfa : ∀ c k, (c < 234 ∨ 247 < c) → fa_ (2 + i) c k = false := fun c k q => fa_F (by omega) (by omega) (by omega) (by omega)
    -- what the loops copy
    suffices H : ∀ n j G2, j + n = 20 → fr_ (fun c k => (decide (279 ≤ c) && decide (c ≤ 280) && decide (k = i)) || (decide (281 ≤ c) && decide (c ≤ 283) && decide (20 * i ≤ k) && decide (k < 20 * i + 20))) G1 G2 → mg_i G2 279 i = mg_i G1 226 65 → mg_i G2 280 i = mg_i G1 226 66 → (∀ q, q < j → mg_i G2 281 (20 * i + q) = mg_i G1 268 q ∧ mg_i G2 282 (20 * i + q) = mg_i G1 269 q ∧ mg_i G2 283 (20 * i + q) = mg_i G1 270 q) → mV l κ true (d + 2) 0 0 m_X13_hold 51 [some (.ref 226), some (.int (nI i)), some (.int (nI j))] [] G2 (rI K) from
      H 20 0 _ rfl ((fr_.rfl'.si (by simp)).si (by simp)) (by simp only [mg_i_i, mg_i_l, mg_i_r, mg_i_b, mg_l_i, mg_l_l, mg_l_r, mg_l_b, mg_r_i, mg_r_l, mg_r_r, mg_r_b, false_and, and_false, true_and, and_true, reduceCtorEq, if_true, if_false, reduceIte, Nat.reduceEqDiff, Nat.reduceAdd, Nat.succ_ne_self, ne_eq, not_false_eq_true, not_true_eq_false]) (by simp only [mg_i_i, mg_i_l, mg_i_r, mg_i_b, mg_l_i, mg_l_l, mg_l_r, mg_l_b, mg_r_i, mg_r_l, mg_r_r, mg_r_b, false_and, and_false, true_and, and_true, reduceCtorEq, if_true, if_false, reduceIte, Nat.reduceEqDiff, Nat.reduceAdd, Nat.succ_ne_self, ne_eq, not_false_eq_true, not_true_eq_false]) (fun q hq => absurd hq (Nat.not_lt_zero q))
    intro n
    induction n with
    | zero =>
      intro j G2 hj hf2 b1 b2 b3
      refine p_X13_hold_51 _ _ ⟨fun _ => ?_, fun z => absurd (nI_le (by omega) (by omega)) z⟩
      suffices H2 : ∀ n2 w G3, w + n2 = 160 → fr_ (fun c k => decide (c = 284) && decide (160 * i ≤ k) && decide (k < 160 * i + 160)) G2 G3 → (∀ q, q < w → mg_i G3 284 (160 * i + q) = mg_i G1 271 q) → mV l κ true (d + 2) 0 0 m_X13_hold 116 [some (.ref 226), some (.int (nI i)), some (.int (nI w))] [] G3 (rI K) from H2 160 0 G2 rfl fr_.rfl' (fun q hq => absurd hq (Nat.not_lt_zero q))
      intro n2
      induction n2 with
      | zero =>
        intro w G3 hw hf3 d1
        refine p_X13_hold_116 _ _ ⟨fun _ => ?_, fun z => absurd (nI_le (by omega) (by omega)) z⟩
        -- all readings
        have hr : ∀ c k, (c < 234 ∨ 247 < c) → c < 278 → mg_i G3 c k = mg_i G c k ∧ mg_l G3 c k = mg_l G c k := by
          intro c k y1 y2
          have z3 : (decide (c = 284) && decide (160 * i ≤ k) && decide (k < 160 * i + 160)) = false := by simp; omega
          have z2 : ((decide (279 ≤ c) && decide (c ≤ 280) && decide (k = i)) || (decide (281 ≤ c) && decide (c ≤ 283) && decide (20 * i ≤ k) && decide (k < 20 * i + 20))) = false := by simp; omega
          have z0 : (decide (c = 278) && decide (k = i)) = false := by simp; omega
          exact ⟨by rw [hf3.i c k z3, hf2.i c k z2, f1.i c k (hfa c k y1), hf0.i c k z0], by rw [hf3.l c k z3, hf2.l c k z2, f1.l c k (hfa c k y1), hf0.l c k z0]⟩
        have hrd : ∀ q, (q < 64 * (2 + i) ∨ 64 * (2 + i) + 64 ≤ q) → rd_m G3 q = rd_m G q := by
          intro q hq
          rw [rd_m.fr hf3 (fun c k y1 y2 => by simp; omega), rd_m.fr hf2 (fun c k y1 y2 => by simp; omega), o1 q hq, rd_m.fr hf0 (fun c k y1 y2 => by simp; omega)]
        have hlow : ∀ c k, 234 ≤ c → c ≤ 247 → (c ≠ 234 ∨ k ≠ 2 + i) → (c = 234 ∨ c = 236) → (c ≠ 236 ∨ k < 4 * (2 + i) ∨ 4 * (2 + i) + 4 ≤ k) → mg_i G3 c k = mg_i G c k := by
          intro c k y1 y2 y3 y4 y5
          rw [hf3.i c k (by simp; omega), hf2.i c k (by simp; omega), f1.i c k (fa_F (by omega) y3 (by omega) y5), hf0.i c k (by simp; omega)]
        have hslot : ∀ c k, 278 ≤ c → c < 285 → (c ≠ 278 ∨ k ≠ i) → (¬ (279 ≤ c ∧ c ≤ 280) ∨ k ≠ i) → (¬ (281 ≤ c ∧ c ≤ 283) ∨ k < 20 * i ∨ 20 * i + 20 ≤ k) → (c ≠ 284 ∨ k < 160 * i ∨ 160 * i + 160 ≤ k) → mg_i G3 c k = mg_i G c k := by
          intro c k y1 y2 y3 y4 y5 y6
          rw [hf3.i c k (by simp; omega), hf2.i c k (by simp; omega), f1.i c k (hfa c k (by omega)), hf0.i c k (by simp; omega)]
        have e65 := (hr 226 65 (by omega) (by omega)).1
        refine h G3 ⟨a1, by rw [(hr 226 18 (by omega) (by omega)).1]; exact a2, a3.only hP.1.1 hP.1.2.2 (hlow _ _ (by omega) (by omega) (by omega) (by omega) (by omega)) (fun j hj => hlow _ _ (by omega) (by omega) (by omega) (by omega) (by omega)) (fun q q1 q2 => hrd q (by omega)), ?_, ?_, fun q hq => ?_, ⟨by rw [(hr 226 2 (by omega) (by omega)).1]; exact a7.1, fun q hq => by rw [(hr 227 q (by omega) (by omega)).1]; exact a7.2 q hq⟩, by rw [(hr 226 17 (by omega) (by omega)).1]; exact a8, fun k hk => by rw [(hr 233 k (by omega) (by omega)).2]; exact a9 k hk⟩ ?_
        · obtain ⟨t1, t2, t3⟩ := a4
          refine ⟨by rw [(hr 249 m (by omega) (by omega)).1]; exact t1, by rw [(hr 254 m (by omega) (by omega)).1]; exact t2, fun k hk => ?_⟩
          obtain ⟨u1, u2, u3, u4⟩ := t3 k hk
          refine ⟨by rw [(hr 250 _ (by omega) (by omega)).1]; exact u1, fun j hj => by rw [(hr 251 _ (by omega) (by omega)).1]; exact u2 j hj, fun q => by rw [(hr 252 _ (by omega) (by omega)).1]; exact u3 q, fun g q => ⟨by rw [(hr 252 _ (by omega) (by omega)).1]; exact (u4 g q).1, fun j hj => by rw [(hr 253 _ (by omega) (by omega)).1]; exact (u4 g q).2 j hj⟩⟩
        · obtain ⟨t1, t2, t3⟩ := a5
          refine ⟨by rw [e65]; exact t1, fun q => by rw [(hr 226 66 (by omega) (by omega)).1]; exact t2 q, fun k hk => ?_⟩
          obtain ⟨u1, u2, u3, u4⟩ := t3 k hk
          exact ⟨by rw [(hr 268 _ (by omega) (by omega)).1]; exact u1, by rw [(hr 269 _ (by omega) (by omega)).1]; exact u2, by rw [(hr 270 _ (by omega) (by omega)).1]; exact u3, fun j hj => by rw [(hr 271 _ (by omega) (by omega)).1]; exact u4 j hj⟩
        · show (ru_up (ps_s P) i (some (ps_p P, ps_n P)) q = none → _) ∧ ∀ p s, ru_up (ps_s P) i (some (ps_p P, ps_n P)) q = some (p, s) → _
          have g1 : ∀ c k, (c < 234 ∨ 247 < c) → c < 278 → mg_i G1 c k = mg_i G c k := by
            intro c k y1 y2
            rw [f1.i c k (hfa c k y1), hf0.i c k (by simp; omega)]
          by_cases c : q = i
          · subst c
            rw [ru_up_eq]
            refine ⟨fun y => (by cases y), fun p s y => ?_⟩
            cases y
            obtain ⟨t1, t2, t3⟩ := a5
            refine ⟨?_, ?_, ?_, fun y => ?_, fun k hk => ⟨?_, ?_, ?_, fun j hj => ?_⟩⟩
            · rw [hf3.i _ _ (by simp), hf2.i _ _ (by simp), f1.i _ _ (hfa _ _ (by omega))]; simp only [mg_i_i, mg_i_l, mg_i_r, mg_i_b, mg_l_i, mg_l_l, mg_l_r, mg_l_b, mg_r_i, mg_r_l, mg_r_r, mg_r_b, false_and, and_false, true_and, and_true, reduceCtorEq, if_true, if_false, reduceIte, Nat.reduceEqDiff, Nat.reduceAdd, Nat.succ_ne_self, ne_eq, not_false_eq_true, not_true_eq_false]
            · refine A1.only hP.1.1 hP.1.2.2 ?_ (fun j hj => ?_) (fun u u1 u2 => ?_)
              · rw [hf3.i _ _ (by simp), hf2.i _ _ (by simp)]
              · rw [hf3.i _ _ (by simp), hf2.i _ _ (by simp)]
              · rw [rd_m.fr hf3 (fun c k y1 y2 => by simp; omega), rd_m.fr hf2 (fun c k y1 y2 => by simp; omega)]
            · rw [hf3.i _ _ (by simp), b1, g1 226 65 (by omega) (by omega)]; exact t1
            · rw [hf3.i _ _ (by simp), b2, g1 226 66 (by omega) (by omega)]; exact t2 y
            · have hk : k < (ps_n P).2.length := hk
              rw [hf3.i _ _ (by simp), (b3 k (by omega)).1, g1 268 _ (by omega) (by omega)]; exact (t3 k hk).1
            · have hk : k < (ps_n P).2.length := hk
              rw [hf3.i _ _ (by simp), (b3 k (by omega)).2.1, g1 269 _ (by omega) (by omega)]; exact (t3 k hk).2.1
            · have hk : k < (ps_n P).2.length := hk
              rw [hf3.i _ _ (by simp), (b3 k (by omega)).2.2, g1 270 _ (by omega) (by omega)]; exact (t3 k hk).2.2.1
            · have hk : k < (ps_n P).2.length := hk
              have hsk := hP.2.2.2.1
              have hk0 : (ps_n P).2.length ≠ 0 := by omega
              obtain ⟨o8, -⟩ := rr_ok (k := (sx_at (ps_n P) k).1) hP (hsk.2.1 hk0) (lo_lt hP (hsk.2.2 k hk).2)
              have hj8 : j < 8 := Nat.lt_of_lt_of_le hj o8
              rw [show 8 * (20 * q + k) + j = 160 * q + (8 * k + j) by omega, d1 (8 * k + j) (by omega), g1 271 _ (by omega) (by omega)]
              exact (t3 k hk).2.2.2 j hj
          · rw [ru_up_ne _ _ c]
            refine ⟨fun y => ?_, fun p s y => ?_⟩
            · rw [hslot _ _ (by omega) (by omega) (by omega) (by omega) (by omega) (by omega)]; exact (a6 q hq).1 y
            · obtain ⟨t1, t2, t3, t4, t5⟩ := (a6 q hq).2 p s y
              obtain ⟨y1, y2⟩ := hP.2.2.2.2.1 q p s y
              have hs2 := y2.1
              refine ⟨?_, t2.only y1.1 y1.2.2 (hlow _ _ (by omega) (by omega) (by omega) (by omega) (by omega)) (fun j hj => hlow _ _ (by omega) (by omega) (by omega) (by omega) (by omega)) (fun u u1 u2 => hrd u (by omega)), ?_, fun z => ?_, fun k hk => ⟨?_, ?_, ?_, fun j hj => ?_⟩⟩
              · rw [hslot _ _ (by omega) (by omega) (by omega) (by omega) (by omega) (by omega)]; exact t1
              · rw [hslot _ _ (by omega) (by omega) (by omega) (by omega) (by omega) (by omega)]; exact t3
              · rw [hslot _ _ (by omega) (by omega) (by omega) (by omega) (by omega) (by omega)]; exact t4 z
              · rw [hslot _ _ (by omega) (by omega) (by omega) (by omega) (by omega) (by omega)]; exact (t5 k hk).1
              · rw [hslot _ _ (by omega) (by omega) (by omega) (by omega) (by omega) (by omega)]; exact (t5 k hk).2.1
              · rw [hslot _ _ (by omega) (by omega) (by omega) (by omega) (by omega) (by omega)]; exact (t5 k hk).2.2.1
              · have hk0 : s.2.length ≠ 0 := by omega
                have hen : (rs_o (rr_ p (ps_t P) (ps_f P) s.1 (sx_at s k).2 (sx_at s k).1).1).length ≤ 8 := (ru_run_ok (fu := ps_f P) (en_of_ok (k := (sx_at s k).1) (am := none) y1 hP.2.1 (y2.2.1 hk0) (y1.2.2 _) (fun x hx => (y1.2.1 _ (y2.2.1 hk0) x hx).1) (by have := px_len_lt (y1.2.2 s.1); have := (y2.2.2 k hk).2; omega))).1.2.2.2.1
                have hj8 : j < 8 := Nat.lt_of_lt_of_le hj hen
                rw [hslot _ _ (by omega) (by omega) (by omega) (by omega) (by omega) (by omega)]; exact (t5 k hk).2.2.2 j hj
        · refine ⟨by rw [hf3.1, hf2.1, f1.1, hf0.1], fun c k q => ?_⟩
          have qq : c < 226 ∨ 285 ≤ c := by
            unfold fM_ at q
            simp at q
            omega
          obtain ⟨u1, u2, u3⟩ := hf3.2 c k (by simp; omega)
          obtain ⟨v1, v2, v3⟩ := hf2.2 c k (by simp; omega)
          obtain ⟨w1, w2, w3⟩ := f1.2 c k (hfa c k (by omega))
          obtain ⟨x1, x2, x3⟩ := hf0.2 c k (by simp; omega)
          exact ⟨by rw [u1, v1, w1, x1], by rw [u2, v2, w2, x2], by rw [u3, v3, w3, x3]⟩
      | succ n2 ih2 =>
        intro w G3 hw hf3 d1
        refine p_X13_hold_116 _ _ ⟨fun z => absurd z (nI_ge (by omega) (by omega)), fun _ => ?_⟩
        rw [ki_mul, nI_add, nI_add, nI_clamp (by omega), nI_clamp (by omega)]
        refine ⟨(ki_vp (by omega)).2 (by omega), (ki_vp (by omega)).2 (by omega), ih2 (w + 1) _ (by omega) (hf3.si (by simp; omega)) (fun q hq => ?_)⟩
        simp only [mg_i_i, mg_i_l, mg_i_r, mg_i_b, mg_l_i, mg_l_l, mg_l_r, mg_l_b, mg_r_i, mg_r_l, mg_r_r, mg_r_b, false_and, and_false, true_and, and_true, reduceCtorEq, if_true, if_false, reduceIte, Nat.reduceEqDiff, Nat.reduceAdd, Nat.succ_ne_self, ne_eq, not_false_eq_true, not_true_eq_false]
        by_cases c : q = w
        · rw [if_pos (by omega), c, hf3.i _ _ (by simp), hf2.i _ _ (by simp)]
        · rw [if_neg (by omega)]; exact d1 q (by omega)
    | succ n ih =>
      intro j G2 hj hf2 b1 b2 b3
      refine p_X13_hold_51 _ _ ⟨fun z => absurd z (nI_ge (by omega) (by omega)), fun _ => ?_⟩
      rw [ki_mul, nI_add, nI_add, nI_clamp (by omega), nI_clamp (by omega)]
      refine ⟨(ki_vp (by omega)).2 (by omega), (ki_vp (by omega)).2 (by omega), (ki_vp (by omega)).2 (by omega), (ki_vp (by omega)).2 (by omega), (ki_vp (by omega)).2 (by omega), (ki_vp (by omega)).2 (by omega), ih (j + 1) _ (by omega) (((hf2.si (by simp; omega)).si (by simp; omega)).si (by simp; omega)) (by simp only [mg_i_i, mg_i_l, mg_i_r, mg_i_b, mg_l_i, mg_l_l, mg_l_r, mg_l_b, mg_r_i, mg_r_l, mg_r_r, mg_r_b, false_and, and_false, true_and, and_true, reduceCtorEq, if_true, if_false, reduceIte, Nat.reduceEqDiff, Nat.reduceAdd, Nat.succ_ne_self, ne_eq, not_false_eq_true, not_true_eq_false]; exact b1) (by simp only [mg_i_i, mg_i_l, mg_i_r, mg_i_b, mg_l_i, mg_l_l, mg_l_r, mg_l_b, mg_r_i, mg_r_l, mg_r_r, mg_r_b, false_and, and_false, true_and, and_true, reduceCtorEq, if_true, if_false, reduceIte, Nat.reduceEqDiff, Nat.reduceAdd, Nat.succ_ne_self, ne_eq, not_false_eq_true, not_true_eq_false]; exact b2) (fun q hq => ?_)⟩
      simp only [mg_i_i, mg_i_l, mg_i_r, mg_i_b, mg_l_i, mg_l_l, mg_l_r, mg_l_b, mg_r_i, mg_r_l, mg_r_r, mg_r_b, false_and, and_false, true_and, and_true, reduceCtorEq, if_true, if_false, reduceIte, Nat.reduceEqDiff, Nat.reduceAdd, Nat.succ_ne_self, ne_eq, not_false_eq_true, not_true_eq_false]
      by_cases c : q = j
      · rw [if_pos (by omega), if_pos (by omega), if_pos (by omega), c, hf2.i 268 j (by simp), hf2.i 269 j (by simp), hf2.i 270 j (by simp)]
        exact ⟨rfl, rfl, rfl⟩
      · rw [if_neg (by omega), if_neg (by omega), if_neg (by omega)]; exact b3 q (by omega)
