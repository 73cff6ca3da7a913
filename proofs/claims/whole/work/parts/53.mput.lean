/-! put, take: the reference -/
def fn_ (c _k : Nat) : Bool := decide (237 ≤ c) && decide (c ≤ 247)
theorem fn_F {c k : Nat} (h : c < 237 ∨ 247 < c) : fn_ c k = false := by
  unfold fn_
  rcases h with h | h
  · rw [decide_eq_false (by omega)]; rfl
  · rw [decide_eq_false (p := c ≤ 247) (by omega), Bool.and_false]
theorem t_copiesLine {l : Launch} {κ : mm_K} {d : Nat} {G : mm_G} {K : mm_G → Prop} {a b : Nat} (ha : a < 320) (hb : b < 320) (h : ∀ G', (∀ q, rd_m G' q = if q = b then rd_m G a else rd_m G q) → fr_ fn_ G G' → K G') : mC l κ true d 0 0 m_X13_copiesLine [.ref 226, .int (nI a), .int (nI b)] G (rV K) := by
  refine e_X13_copiesLine _ _ ?_
  have h1 : vp_in (nI a) 320 := (ki_vp (by omega)).2 ha
  have h2 : vp_in (nI b) 320 := (ki_vp (by omega)).2 hb
  rw [nI_clamp (by omega), nI_clamp (by omega)]
  refine ⟨h1, h2, h1, h2, h1, h2, h1, h2, h1, h2, h1, h2, h1, h2, h1, h2, h1, h2, h1, h2, h1, h2, h _ (fun q => ?_) (((((((((((fr_.rfl'.si rfl).si rfl).si rfl).si rfl).si rfl).si rfl).si rfl).si rfl).si rfl).sl rfl).sl rfl)⟩
  unfold rd_m
  simp only [mg_i_i, mg_i_l, mg_i_r, mg_i_b, mg_l_i, mg_l_l, mg_l_r, mg_l_b, mg_r_i, mg_r_l, mg_r_r, mg_r_b, false_and, and_false, true_and, and_true, reduceCtorEq, if_true, if_false, reduceIte, Nat.reduceEqDiff, Nat.reduceAdd, Nat.succ_ne_self, ne_eq, not_false_eq_true, not_true_eq_false]
  by_cases c : q = b
  · simp only [if_pos c]
  · simp only [if_neg c]
/-- the lines of one row alone have changed -/
def ln_only (a r : Nat) (G G' : mm_G) : Prop := ∀ q, (q < 64 * a + 16 * r ∨ 64 * a + 16 * r + 16 ≤ q) → rd_m G' q = rd_m G q
theorem mB_.row {G G1 : mm_G} {P : ps_T} {m r : Nat} {ls : List ln_T} (h : mB_ G P m) (hP : ps_ok P) (hr : r < (ps_p P).length) (hf : fr_ (fun c k => fn_ c k || (decide (c = 236) && decide (k = 4 * m + r)) || (decide (c = 226) && decide (k = 65))) G G1) (hl : ls.length ≤ 16) (ho : ln_only m r G G1) (h1 : mg_i G1 236 (4 * m + r) = nI ls.length) (h2 : ∀ i, i < ls.length → rd_m G1 (64 * m + 16 * r + i) = ln_at ls i) (h3 : mg_i G1 226 65 = nI 0) : mB_ G1 (wp_ P r ls) m := by
  obtain ⟨a1, a2, a3, a4, a5, a6, a7, a8, a9⟩ := h
  have hp := hP.1.1
  have hS : ∀ c k, (c < 237 ∨ 247 < c) → (c ≠ 236 ∨ k ≠ 4 * m + r) → (c ≠ 226 ∨ k ≠ 65) → (!(fn_ c k || (decide (c = 236) && decide (k = 4 * m + r)) || (decide (c = 226) && decide (k = 65)))) = true := by
    intro c k q1 q2 q3
    rw [fn_F q1]
    simp
    omega
  refine ⟨a1, ?_, ⟨?_, fun j hj => ?_⟩, a4.on hf.nn (fun c k q1 q2 => hS _ _ (by omega) (by omega) (by omega)), ⟨h3, fun q => absurd rfl q, fun k hk => absurd hk (Nat.not_lt_zero k)⟩, fun i hi => ?_, a7.on hf.nn (hS _ _ (by omega) (by omega) (by omega)) (fun k => hS _ _ (by omega) (by omega) (by omega)), ?_, fun k hk => ?_⟩
  · rw [hf.nn.i _ _ (hS _ _ (by omega) (by omega) (by omega))]; exact a2
  · show mg_i G1 234 m = nI ((ps_p P).set r ls).length
    rw [List.length_set, hf.nn.i _ _ (hS _ _ (by omega) (by omega) (by omega))]
    exact a3.1
  · have hj : j < ((ps_p P).set r ls).length := hj
    rw [List.length_set] at hj
    show mg_i G1 236 (4 * m + j) = nI (px_at ((ps_p P).set r ls) j).length ∧ ∀ i, i < (px_at ((ps_p P).set r ls) j).length → rd_m G1 (64 * m + 16 * j + i) = ln_at (px_at ((ps_p P).set r ls) j) i
    rw [px_set hr]
    by_cases z : j = r
    · rw [if_pos z, z]
      exact ⟨h1, h2⟩
    · rw [if_neg z]
      obtain ⟨b1, b2⟩ := a3.2 j hj
      have hlj := hP.1.2.2 j
      refine ⟨by rw [hf.nn.i _ _ (hS _ _ (by omega) (by omega) (by omega))]; exact b1, fun i hi => ?_⟩
      rw [ho _ (by omega)]
      exact b2 i hi
  · refine ⟨fun q => ?_, fun p s q => ?_⟩
    · rw [hf.nn.i _ _ (hS _ _ (by omega) (by omega) (by omega))]; exact (a6 i hi).1 q
    · obtain ⟨c1, c2, c3, c4, c5⟩ := (a6 i hi).2 p s q
      have hp4 := (hP.2.2.2.2.1 i p s q).1.1
      refine ⟨?_, ⟨?_, fun j hj => ⟨?_, fun w hw => ?_⟩⟩, ?_, fun q2 => ?_, fun k hk => ⟨?_, (c5 k hk).2.on hf.nn (fun k => hS _ _ (by omega) (by omega) (by omega)) (fun k => hS _ _ (by omega) (by omega) (by omega)) (fun k => hS _ _ (by omega) (by omega) (by omega))⟩⟩
      · rw [hf.nn.i _ _ (hS _ _ (by omega) (by omega) (by omega))]; exact c1
      · rw [hf.nn.i _ _ (hS _ _ (by omega) (by omega) (by omega))]; exact c2.1
      · rw [hf.nn.i _ _ (hS _ _ (by omega) (by omega) (by omega))]; exact (c2.2 j hj).1
      · rw [ho _ (by omega)]; exact (c2.2 j hj).2 w hw
      · rw [hf.nn.i _ _ (hS _ _ (by omega) (by omega) (by omega))]; exact c3
      · rw [hf.nn.i _ _ (hS _ _ (by omega) (by omega) (by omega))]; exact c4 q2
      · rw [hf.nn.i _ _ (hS _ _ (by omega) (by omega) (by omega))]; exact (c5 k hk).1
  · rw [hf.nn.i _ _ (hS _ _ (by omega) (by omega) (by omega))]; exact a8
  · rw [hf.nn.l _ _ (hS _ _ (by omega) (by omega) (by omega))]; exact a9 k hk
theorem ki_m1add {i : Nat} (h : 0 < i) : nI i + (-1) = nI (i - 1) := by
  have : nI i = nI (i - 1) + nI 1 := by rw [nI_add]; congr 1; omega
  rw [this, Int32.add_assoc, show nI 1 + (-1) = 0 by decide, Int32.add_zero]
theorem fn_M {G G' : mm_G} {m r : Nat} (h : fr_ (fun c k => fn_ c k || (decide (c = 236) && decide (k = 4 * m + r)) || (decide (c = 226) && decide (k = 65))) G G') : fr_ fM_ G G' := h.mono (fun c k q => by
  unfold fM_ at q
  simp at q
  rw [fn_F (by omega)]
  simp
  omega)
theorem m_put {l : Launch} {κ : mm_K} {d : Nat} {G : mm_G} {K : Int32 → mm_G → Prop} {P : ps_T} {m : Nat} (a b c : Int32) (hP : ps_ok P) (hM : mB_ G P m) (h0 : st_put P a b c = none → K (an_put P a b c) G) (h : ∀ G' Q, st_put P a b c = some Q → mB_ G' Q m → fr_ fM_ G G' → K (an_put P a b c) G') : mC l κ true (d + 3) 0 0 m_X13_put_ [.ref 226, .int a, .int b, .int c] G (rI K) := by
  have hp := hP.1.1
  have hm := hM.1
  unfold st_put an_put at h h0
  refine e_X13_put_ _ _ _ (t_isLine a b hP hM (fun e => ⟨fun _ => ?_, fun q => absurd (by decide) q⟩) (fun r i e hr ea hi ei => ⟨fun q => absurd q (by decide), fun _ => ?_⟩))
  · rw [e] at h0; exact h0 rfl
  · rw [e] at h h0
    simp only [] at h h0
    subst ea ei
    have hlen := hP.1.2.2 r
    refine t_lines hP hM hr ?_
    rw [nI_eq (by omega) (by omega)]
    refine ⟨fun z => ?_, fun z => t_lines hP hM hr ?_⟩
    · rw [if_neg (by omega), if_neg (by omega)] at h0
      exact h0 rfl
    · have hl16 : (px_at (ps_p P) r).length < 16 := by omega
      simp only [if_pos hl16] at h h0
      refine t_in (n := (px_at (ps_p P) r).length + 1) c (nI_add _ 1) (by omega) (fun e2 => ⟨fun q => absurd (by decide) q, fun _ => ?_⟩) (fun w e2 hw ew => ⟨fun _ => t_lines hP hM hr ?_, fun q => absurd q (by decide)⟩)
      · rw [e2] at h0; exact h0 rfl
      · rw [e2] at h
        subst ew
        have hA := hM.2.2.1.2 r hr
        suffices H : ∀ n q G1, q = w + n → q ≤ (px_at (ps_p P) r).length → fr_ fn_ G G1 → ln_only m r G G1 → (∀ p, p ≤ q → p < (px_at (ps_p P) r).length → rd_m G1 (64 * m + 16 * r + p) = ln_at (px_at (ps_p P) r) p) → (∀ p, q < p → p ≤ (px_at (ps_p P) r).length → rd_m G1 (64 * m + 16 * r + p) = ln_at (px_at (ps_p P) r) (p - 1)) → mV l κ true (d + 3) 0 0 m_X13_put_ 45 [some (.ref 226), some (.int (nI r)), some (.int (nI i)), some (.int (nI w)), some (.int (nI (px_at (ps_p P) r).length)), some (.int (nI q))] [] G1 (rI K) from
          H ((px_at (ps_p P) r).length - w) _ G (by omega) (Nat.le_refl _) fr_.rfl' (fun _ _ => rfl) (fun p _ hp2 => hA.2 p hp2) (fun p q1 q2 => absurd q1 (by omega))
        intro n
        induction n with
        | zero =>
          intro q G1 hq hql hf ho b1 b2
          obtain rfl : q = w := by omega
          have e18 : mg_i G1 226 18 = nI m := by rw [hf.i _ _ rfl]; exact hM.2.1
          -- the end
          have hend : ∀ src G2, (∀ u, rd_m G2 u = if u = 64 * m + 16 * r + q then rd_m G1 src else rd_m G1 u) → rd_m G1 src = ln_at (px_at (ps_p P) r) i → fr_ fn_ G1 G2 → vp_in (((nI 4) * (mg_i G2 226 18)) + nI r) 20 ∧ vp_in (((nI 4) * (mg_i G2 226 18)) + nI r) 20 ∧ K (nI (px_at (ps_p P) r).length + (nI 1)) (ms_i (ms_i G2 236 ((((nI 4) * (mg_i G2 226 18)) + nI r).toNatClampNeg) ((mg_i G2 236 ((((nI 4) * (mg_i G2 226 18)) + nI r).toNatClampNeg)) + (nI 1))) 226 65 (nI 0)) := by
            intro src G2 g1 g2 g3
            have e2 : mg_i G2 226 18 = nI m := by rw [g3.i _ _ rfl]; exact e18
            have e3 : mg_i G2 236 (4 * m + r) = nI (px_at (ps_p P) r).length := by rw [g3.i _ _ (fn_F (by omega)), hf.i _ _ (fn_F (by omega))]; exact hA.1
            rw [e2, ki_mul, nI_add, nI_clamp (by omega), e3, nI_add]
            refine ⟨(ki_vp (by omega)).2 (by omega), (ki_vp (by omega)).2 (by omega), ?_⟩
            have hf4 : fr_ (fun c k => fn_ c k || (decide (c = 236) && decide (k = 4 * m + r)) || (decide (c = 226) && decide (k = 65))) G (ms_i (ms_i G2 236 (4 * m + r) (nI ((px_at (ps_p P) r).length + 1))) 226 65 (nI 0)) := (((hf.trans g3).mono (fun c k q => by simp only [Bool.or_eq_false_iff] at q; exact q.1.1)).si (by simp)).si (by simp)
            have hrd : ∀ u, rd_m (ms_i (ms_i G2 236 (4 * m + r) (nI ((px_at (ps_p P) r).length + 1))) 226 65 (nI 0)) u = rd_m G2 u := fun u => by
              unfold rd_m
              simp only [mg_i_i, mg_i_l, mg_i_r, mg_i_b, mg_l_i, mg_l_l, mg_l_r, mg_l_b, mg_r_i, mg_r_l, mg_r_r, mg_r_b, false_and, and_false, true_and, and_true, reduceCtorEq, if_true, if_false, reduceIte, Nat.reduceEqDiff, Nat.reduceAdd, Nat.succ_ne_self, ne_eq, not_false_eq_true, not_true_eq_false]
            have hq2 : q ≤ (px_at (ps_p P) r).length := by omega
            refine h _ _ rfl (hM.row hP hr hf4 (by rw [ins_len hq2]; omega) (fun u hu => ?_) (by rw [ins_len hq2]; simp only [mg_i_i, mg_i_l, mg_i_r, mg_i_b, mg_l_i, mg_l_l, mg_l_r, mg_l_b, mg_r_i, mg_r_l, mg_r_r, mg_r_b, false_and, and_false, true_and, and_true, reduceCtorEq, if_true, if_false, reduceIte, Nat.reduceEqDiff, Nat.reduceAdd, Nat.succ_ne_self, ne_eq, not_false_eq_true, not_true_eq_false]) (fun p hp2 => ?_) (by simp only [mg_i_i, mg_i_l, mg_i_r, mg_i_b, mg_l_i, mg_l_l, mg_l_r, mg_l_b, mg_r_i, mg_r_l, mg_r_r, mg_r_b, false_and, and_false, true_and, and_true, reduceCtorEq, if_true, if_false, reduceIte, Nat.reduceEqDiff, Nat.reduceAdd, Nat.succ_ne_self, ne_eq, not_false_eq_true, not_true_eq_false])) (fn_M hf4)
            · rw [hrd, g1, if_neg (by omega)]; exact ho u hu
            · rw [ins_len hq2] at hp2
              rw [hrd, g1, ins_at hq2]
              by_cases c1 : p < q
              · rw [if_neg (by omega), if_pos c1]; exact b1 p (by omega) (by omega)
              · rw [if_neg c1]
                by_cases c2 : p = q
                · rw [if_pos (by omega), if_pos c2]; exact g2
                · rw [if_neg (by omega), if_neg c2]; exact b2 p (by omega) (by omega)
          refine p_X13_put__45 _ _ _ _ _ ⟨fun _ => ⟨fun y => ?_, fun y => ?_⟩, fun y => absurd (nI_le (by omega) (by omega)) y⟩
          · rw [nI_leI (by omega) (by omega)] at y
            rw [nI_add]
            refine t_lineAt e18 (t_lineAt e18 (t_copiesLine (by omega) (by omega) (fun G2 g1 g2 => hend _ G2 g1 ?_ g2)))
            rw [show 64 * m + 16 * r + (i + 1) = 64 * m + 16 * r + (i + 1) from rfl, b2 (i + 1) (by omega) (by omega)]
            rfl
          · rw [nI_leI (by omega) (by omega)] at y
            exact t_lineAt e18 (t_lineAt e18 (t_copiesLine (by omega) (by omega) (fun G2 g1 g2 => hend _ G2 g1 (b1 i (by omega) hi) g2)))
        | succ n ih =>
          intro q G1 hq hql hf ho b1 b2
          have e18 : mg_i G1 226 18 = nI m := by rw [hf.i _ _ rfl]; exact hM.2.1
          refine p_X13_put__45 _ _ _ _ _ ⟨fun y => absurd y (nI_ge (by omega) (by omega)), fun _ => ?_⟩
          rw [ki_sub (by omega), ki_m1add (by omega)]
          refine t_lineAt e18 (t_lineAt e18 (t_copiesLine (by omega) (by omega) (fun G2 g1 g2 => ?_)))
          refine ih (q - 1) G2 (by omega) (by omega) (hf.trans g2) (fun u hu => ?_) (fun p hp1 hp2 => ?_) (fun p hp1 hp2 => ?_)
          · rw [g1, if_neg (by omega)]; exact ho u hu
          · rw [g1, if_neg (by omega)]; exact b1 p (by omega) hp2
          · rw [g1]
            by_cases c2 : p = q
            · rw [if_pos (by omega), c2]; exact b1 (q - 1) (by omega) (by omega)
            · rw [if_neg (by omega)]; exact b2 p (by omega) hp2
theorem m_take {l : Launch} {κ : mm_K} {d : Nat} {G : mm_G} {K : Int32 → mm_G → Prop} {P : ps_T} {m : Nat} (a b : Int32) (hP : ps_ok P) (hM : mB_ G P m) (h0 : st_take P a b = none → K (an_take P a b) G) (h : ∀ G' Q, st_take P a b = some Q → mB_ G' Q m → fr_ fM_ G G' → K (an_take P a b) G') : mC l κ true (d + 3) 0 0 m_X13_take [.ref 226, .int a, .int b] G (rI K) := by
  have hp := hP.1.1
  have hm := hM.1
  unfold st_take an_take at h h0
  refine e_X13_take _ _ (t_isLine a b hP hM (fun e => ⟨fun q => absurd (by decide) q, fun _ => ?_⟩) (fun r i e hr ea hi ei => ⟨fun _ => ?_, fun q => absurd q (by decide)⟩))
  · rw [e] at h0; exact h0 rfl
  · rw [e] at h
    simp only [] at h
    subst ea ei
    refine t_lines hP hM hr ?_
    have hlen := hP.1.2.2 r
    have hA := hM.2.2.1.2 r hr
    suffices H : ∀ n q G1, q + n + 1 = (px_at (ps_p P) r).length → i ≤ q → fr_ fn_ G G1 → ln_only m r G G1 → (∀ p, p < i → rd_m G1 (64 * m + 16 * r + p) = ln_at (px_at (ps_p P) r) p) → (∀ p, i ≤ p → p < q → rd_m G1 (64 * m + 16 * r + p) = ln_at (px_at (ps_p P) r) (p + 1)) → (∀ p, q ≤ p → p < (px_at (ps_p P) r).length → rd_m G1 (64 * m + 16 * r + p) = ln_at (px_at (ps_p P) r) p) → mV l κ true (d + 3) 0 0 m_X13_take 20 [some (.ref 226), some (.int (nI r)), some (.int (nI i)), some (.int (nI (px_at (ps_p P) r).length)), some (.int (nI q))] [] G1 (rI K) from
      H ((px_at (ps_p P) r).length - 1 - i) i G (by omega) (Nat.le_refl _) fr_.rfl' (fun _ _ => rfl) (fun p hp2 => hA.2 p (by omega)) (fun p q1 q2 => absurd q1 (by omega)) (fun p _ hp2 => hA.2 p hp2)
    intro n
    induction n with
    | zero =>
      intro q G1 hq hiq hf ho b1 b2 b3
      have e18 : mg_i G1 226 18 = nI m := by rw [hf.i _ _ rfl]; exact hM.2.1
      have e3 : mg_i G1 236 (4 * m + r) = nI (px_at (ps_p P) r).length := by rw [hf.i _ _ (fn_F (by omega))]; exact hA.1
      refine p_X13_take_20 _ _ _ _ ⟨fun _ => ?_, fun y => absurd (by rw [nI_add]; exact nI_le (by omega) (by omega)) y⟩
      rw [e18, ki_mul, nI_add, nI_clamp (by omega), e3, ki_sub (by omega)]
      refine ⟨(ki_vp (by omega)).2 (by omega), (ki_vp (by omega)).2 (by omega), ?_⟩
      have hf4 : fr_ (fun c k => fn_ c k || (decide (c = 236) && decide (k = 4 * m + r)) || (decide (c = 226) && decide (k = 65))) G (ms_i (ms_i G1 236 (4 * m + r) (nI ((px_at (ps_p P) r).length - 1))) 226 65 (nI 0)) := ((hf.mono (fun c k q => by simp only [Bool.or_eq_false_iff] at q; exact q.1.1)).si (by simp)).si (by simp)
      have hrd : ∀ u, rd_m (ms_i (ms_i G1 236 (4 * m + r) (nI ((px_at (ps_p P) r).length - 1))) 226 65 (nI 0)) u = rd_m G1 u := fun u => by
        unfold rd_m
        simp only [mg_i_i, mg_i_l, mg_i_r, mg_i_b, mg_l_i, mg_l_l, mg_l_r, mg_l_b, mg_r_i, mg_r_l, mg_r_r, mg_r_b, false_and, and_false, true_and, and_true, reduceCtorEq, if_true, if_false, reduceIte, Nat.reduceEqDiff, Nat.reduceAdd, Nat.succ_ne_self, ne_eq, not_false_eq_true, not_true_eq_false]
      refine h _ _ rfl (hM.row hP hr hf4 (by rw [del_len hi]; omega) (fun u hu => ?_) (by rw [del_len hi]; simp only [mg_i_i, mg_i_l, mg_i_r, mg_i_b, mg_l_i, mg_l_l, mg_l_r, mg_l_b, mg_r_i, mg_r_l, mg_r_r, mg_r_b, false_and, and_false, true_and, and_true, reduceCtorEq, if_true, if_false, reduceIte, Nat.reduceEqDiff, Nat.reduceAdd, Nat.succ_ne_self, ne_eq, not_false_eq_true, not_true_eq_false]) (fun p hp2 => ?_) (by simp only [mg_i_i, mg_i_l, mg_i_r, mg_i_b, mg_l_i, mg_l_l, mg_l_r, mg_l_b, mg_r_i, mg_r_l, mg_r_r, mg_r_b, false_and, and_false, true_and, and_true, reduceCtorEq, if_true, if_false, reduceIte, Nat.reduceEqDiff, Nat.reduceAdd, Nat.succ_ne_self, ne_eq, not_false_eq_true, not_true_eq_false])) (fn_M hf4)
      · rw [hrd]; exact ho u hu
      · rw [del_len hi] at hp2
        rw [hrd, del_at hi]
        by_cases c1 : p < i
        · rw [if_pos c1]; exact b1 p c1
        · rw [if_neg c1]; exact b2 p (by omega) (by omega)
    | succ n ih =>
      intro q G1 hq hiq hf ho b1 b2 b3
      have e18 : mg_i G1 226 18 = nI m := by rw [hf.i _ _ rfl]; exact hM.2.1
      refine p_X13_take_20 _ _ _ _ ⟨fun y => absurd y (by rw [nI_add]; exact nI_ge (by omega) (by omega)), fun _ => ?_⟩
      rw [nI_add]
      refine t_lineAt e18 (t_lineAt e18 (t_copiesLine (by omega) (by omega) (fun G2 g1 g2 => ?_)))
      refine ih (q + 1) G2 (by omega) (by omega) (hf.trans g2) (fun u hu => ?_) (fun p hp1 => ?_) (fun p hp1 hp2 => ?_) (fun p hp1 hp2 => ?_)
      · rw [g1, if_neg (by omega)]; exact ho u hu
      · rw [g1, if_neg (by omega)]; exact b1 p hp1
      · rw [g1]
        by_cases c2 : p = q
        · rw [if_pos (by omega), c2]; exact b3 (q + 1) (by omega) (by omega)
        · rw [if_neg (by omega)]; exact b2 p hp1 (by omega)
      · rw [g1, if_neg (by omega)]; exact b3 p (by omega) hp2
