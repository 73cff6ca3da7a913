/-! put, take -/
def wp_ (P : ps_T) (r : Nat) (ls : List ln_T) : ps_T := ((ps_p P).set r ls, ps_t P, ps_f P, ((ps_n P).1, []), ps_s P, ps_b P, ps_c P)
theorem px_set {p : px_T} {r j : Nat} {ls : List ln_T} (hr : r < p.length) : px_at (p.set r ls) j = if j = r then ls else px_at p j := by
  unfold px_at
  rw [List.getD_eq_getElem?_getD, List.getD_eq_getElem?_getD, List.getElem?_set]
  by_cases c : r = j
  · subst c
    rw [if_pos rfl, if_pos rfl, if_pos hr]
    rfl
  · rw [if_neg c, if_neg (fun q => c q.symm)]
theorem wp_ok {P : ps_T} {r : Nat} {ls : List ln_T} (h : ps_ok P) (hr : r < (ps_p P).length) (hl : ls.length ≤ 16) (hx : ∀ x ∈ ls, x ∈ px_at (ps_p P) r) : ps_ok (wp_ P r ls) := by
  obtain ⟨⟨a1, a2, a3⟩, b, c, d, e, f⟩ := h
  refine ⟨⟨by show ((ps_p P).set r ls).length ≤ 4; rw [List.length_set]; exact a1, fun j hj x hq => ?_, fun j => ?_⟩, b, c, sx_nil, e, f⟩
  · have hj : j < ((ps_p P).set r ls).length := hj
    rw [List.length_set] at hj
    have hq : x ∈ px_at ((ps_p P).set r ls) j := hq
    rw [px_set hr] at hq
    by_cases z : j = r
    · rw [if_pos z] at hq
      rw [z]
      exact a2 r hr x (hx x hq)
    · rw [if_neg z] at hq
      exact a2 j hj x hq
  · show (px_at ((ps_p P).set r ls) j).length ≤ 16
    rw [px_set hr]
    split
    · exact hl
    · exact a3 j
/-- all that was reckoned is cleared -/
def cZ_ (G : mm_G) : Prop := (∀ r, r < 4 → mg_i G 101 r = nI 0) ∧ mg_i G 168 4 = -1 ∧ mg_i G 168 5 = -1 ∧ mg_i G 171 5 = -1 ∧ mg_i G 175 12 = -1
def fz_ (c k : Nat) : Bool := decide (c = 101) || (decide (c = 168) && (decide (k = 4) || decide (k = 5))) || (decide (c = 171) && decide (k = 5)) || (decide (c = 175) && decide (k = 12))
theorem s_rowsChanged {l : Launch} {κ : mm_K} {d : Nat} {G : mm_G} {K : mm_G → Prop} (h : ∀ G', cZ_ G' → fr_ fz_ G G' → K G') : mC l κ true (d + 1) 0 0 m_X12_rowsChanged [.ref 0] G (rV K) := by
  refine e_X12_rowsChanged (e_X2_clear ?_)
  suffices H : ∀ n i G1, i + n = 4 → fr_ fz_ G G1 → (∀ r, r < i → mg_i G1 101 r = nI 0) → mV l κ true d 0 0 m_X2_clear 2 [some (.ref 98), some (.int (nI i))] [] G1 (rV (fun G2 => mC l κ true d 0 0 m_X4_clear [.ref 168] G2 (rV (fun G4 => mC l κ true d 0 0 m_X8_clear [.ref 171] G4 (rV (fun G6 => mC l κ true d 0 0 m_X9_clear [.ref 175] G6 (rV (fun G8 => K G8)))))))) from H 4 0 G rfl fr_.rfl' (fun r hr => absurd hr (Nat.not_lt_zero r))
  intro n
  induction n with
  | zero =>
    intro i G1 hi hf hz
    refine p_X2_clear_2 _ ⟨fun _ => ?_, fun z => absurd (nI_le (by omega) (by omega)) z⟩
    refine e_X4_clear (e_X8_clear (e_X9_clear (h _ ⟨fun r hr => ?_, ?_, ?_, ?_, ?_⟩ ((((hf.si rfl).si rfl).si rfl).si rfl))))
    · simp only [mg_i_i, mg_i_l, mg_i_r, mg_i_b, mg_l_i, mg_l_l, mg_l_r, mg_l_b, mg_r_i, mg_r_l, mg_r_r, mg_r_b, false_and, and_false, true_and, and_true, reduceCtorEq, if_true, if_false, reduceIte, Nat.reduceEqDiff, Nat.reduceAdd, Nat.succ_ne_self, ne_eq, not_false_eq_true, not_true_eq_false]; exact hz r (by omega)
    · simp only [mg_i_i, mg_i_l, mg_i_r, mg_i_b, mg_l_i, mg_l_l, mg_l_r, mg_l_b, mg_r_i, mg_r_l, mg_r_r, mg_r_b, false_and, and_false, true_and, and_true, reduceCtorEq, if_true, if_false, reduceIte, Nat.reduceEqDiff, Nat.reduceAdd, Nat.succ_ne_self, ne_eq, not_false_eq_true, not_true_eq_false]
    · simp only [mg_i_i, mg_i_l, mg_i_r, mg_i_b, mg_l_i, mg_l_l, mg_l_r, mg_l_b, mg_r_i, mg_r_l, mg_r_r, mg_r_b, false_and, and_false, true_and, and_true, reduceCtorEq, if_true, if_false, reduceIte, Nat.reduceEqDiff, Nat.reduceAdd, Nat.succ_ne_self, ne_eq, not_false_eq_true, not_true_eq_false]
    · simp only [mg_i_i, mg_i_l, mg_i_r, mg_i_b, mg_l_i, mg_l_l, mg_l_r, mg_l_b, mg_r_i, mg_r_l, mg_r_r, mg_r_b, false_and, and_false, true_and, and_true, reduceCtorEq, if_true, if_false, reduceIte, Nat.reduceEqDiff, Nat.reduceAdd, Nat.succ_ne_self, ne_eq, not_false_eq_true, not_true_eq_false]
    · simp only [mg_i_i, mg_i_l, mg_i_r, mg_i_b, mg_l_i, mg_l_l, mg_l_r, mg_l_b, mg_r_i, mg_r_l, mg_r_r, mg_r_b, false_and, and_false, true_and, and_true, reduceCtorEq, if_true, if_false, reduceIte, Nat.reduceEqDiff, Nat.reduceAdd, Nat.succ_ne_self, ne_eq, not_false_eq_true, not_true_eq_false]
  | succ n ih =>
    intro i G1 hi hf hz
    refine p_X2_clear_2 _ ⟨fun z => absurd z (nI_ge (by omega) (by omega)), fun _ => ⟨(ki_vp (by omega)).2 (by omega), ?_⟩⟩
    rw [nI_add, nI_clamp (by omega), show vp_nar .boolean (nI 0) = nI 0 by decide +kernel]
    refine ih (i + 1) _ (by omega) (hf.si (by simp [fz_])) (fun r hr => ?_)
    simp only [mg_i_i, mg_i_l, mg_i_r, mg_i_b, mg_l_i, mg_l_l, mg_l_r, mg_l_b, mg_r_i, mg_r_l, mg_r_r, mg_r_b, false_and, and_false, true_and, and_true, reduceCtorEq, if_true, if_false, reduceIte, Nat.reduceEqDiff, Nat.reduceAdd, Nat.succ_ne_self, ne_eq, not_false_eq_true, not_true_eq_false]
    split
    · rfl
    · exact hz r (by omega)
/-- a row has changed, and nothing is seen -/
theorem cB_.row {G G1 : mm_G} {P : ps_T} {r : Nat} {ls : List ln_T} (h : cB_ G P) (hP : ps_ok P) (hr : r < (ps_p P).length) (hf : fr_ (fun c k => fi_ (54 + 2 * r) c k || (decide (c = 50) && decide (k = 4)) || fz_ c k) G G1) (h1 : ro_ G1 (54 + 2 * r) ls) (h2 : mg_i G1 50 4 = nI 0) : cB_ G1 (wp_ P r ls) := by
  obtain ⟨a1, a2, a3, a4, a5, a6, a7⟩ := h
  have hn : mg_n G ≤ mg_n G1 := by rw [hf.1]; exact Nat.le_refl _
  have hp := hP.1.1
  have hS : ∀ c k, (c ≠ 54 + 2 * r ∨ k ≠ 1) → c ≠ 54 + 2 * r + 1 → (c ≠ 50 ∨ k ≠ 4) → (c < 101 ∨ 175 < c) → (!(fi_ (54 + 2 * r) c k || (decide (c = 50) && decide (k = 4)) || fz_ c k)) = true := by
    intro c k q1 q2 q3 q4
    rw [fi_F ⟨q1, q2⟩]
    have : fz_ c k = false := by
      unfold fz_
      rw [decide_eq_false (p := c = 101) (by omega), decide_eq_false (p := c = 168) (by omega), decide_eq_false (p := c = 171) (by omega), decide_eq_false (p := c = 175) (by omega)]
      rfl
    rw [this]
    rcases q3 with z | z
    · rw [decide_eq_false z]; rfl
    · rw [decide_eq_false z, Bool.and_false]; rfl
  refine ⟨⟨?_, fun j hj => ?_, h2, fun q => absurd rfl q, fun k hk => absurd hk (Nat.not_lt_zero k)⟩, a2.on hP.2.1.1 hf.nn (fun c k q1 q2 => hS _ _ (by omega) (by omega) (by omega) (by omega)), ?_, a4.on hP rfl hf.nn hn (fun c k q => hS _ _ (by omega) (by omega) (by omega) (by omega)), a5.on hf.nn (fun c k q => hS _ _ (by omega) (by omega) (by omega) (by omega)), ?_, fun w hw => ?_⟩
  · show mg_i G1 50 1 = nI ((ps_p P).set r ls).length
    rw [List.length_set, hf.nn.i _ _ (hS _ _ (by omega) (by omega) (by omega) (by omega))]
    exact a1.1
  · have hj : j < ((ps_p P).set r ls).length := hj
    rw [List.length_set] at hj
    show ro_ G1 (50 + 4 + 2 * j) (px_at ((ps_p P).set r ls) j)
    rw [px_set hr]
    by_cases z : j = r
    · rw [if_pos z, z]; exact h1
    · rw [if_neg z]
      exact (a1.2.1 j hj).on hf.nn hn (hS _ _ (by omega) (by omega) (by omega) (by omega)) (fun k => hS _ _ (by omega) (by omega) (by omega) (by omega)) (fun t k q => hS _ _ (by omega) (by omega) (by omega) (by omega))
  · intro j hj
    obtain ⟨b1, b2, b3⟩ := a3 j hj
    refine ⟨?_, ?_, fun i hi => ?_⟩
    · rw [hf.nn.i _ _ (hS _ _ (by omega) (by omega) (by omega) (by omega))]; exact b1
    · rw [hf.nn.i _ _ (hS _ _ (by omega) (by omega) (by omega) (by omega))]; exact b2
    · rw [hf.nn.i _ _ (hS _ _ (by omega) (by omega) (by omega) (by omega))]; exact b3 i hi
  · rw [hf.nn.i _ _ (hS _ _ (by omega) (by omega) (by omega) (by omega))]; exact a6
  · rw [hf.nn.l _ _ (hS _ _ (by omega) (by omega) (by omega) (by omega))]; exact a7 w hw
def fK_ (c _k : Nat) : Bool := decide (c < 226)
def an_put (P : ps_T) (a b c : Int32) : Int32 := match ix2_ P id a b with
  | none => -1
  | some (r, _) => if (px_at (ps_p P) r).length < 16 then (match ix_ ((px_at (ps_p P) r).length + 1) c with
    | none => -1
    | some _ => nI ((px_at (ps_p P) r).length + 1)) else -1
def st_put (P : ps_T) (a b c : Int32) : Option ps_T := match ix2_ P id a b with
  | none => none
  | some (r, i) => if (px_at (ps_p P) r).length < 16 then (match ix_ ((px_at (ps_p P) r).length + 1) c with
    | none => none
    | some w => some (wp_ P r (ins_ (px_at (ps_p P) r) w (ln_at (px_at (ps_p P) r) i)))) else none
theorem ix2_is {P : ps_T} {a b : Int32} {r i : Nat} (hP : ps_ok P) (h : ix2_ P id a b = some (r, i)) : r < (ps_p P).length ∧ a = nI r ∧ i < (px_at (ps_p P) r).length ∧ b = nI i := by
  have hp := hP.1.1
  unfold ix2_ at h
  cases e1 : ix_ (ps_p P).length a with
  | none => rw [e1] at h; cases h
  | some r' =>
    rw [e1] at h
    simp only [id] at h
    obtain ⟨h1, h2⟩ := ix_some (by omega) e1
    have hl := hP.1.2.2 r'
    cases e2 : ix_ (px_at (ps_p P) r').length b with
    | none => rw [e2] at h; cases h
    | some lo' =>
      rw [e2] at h
      obtain ⟨h3, h4⟩ := ix_some (by omega) e2
      cases h
      exact ⟨h1, h2, h3, h4⟩
theorem st_put_ok {P Q : ps_T} {a b c : Int32} (hP : ps_ok P) (h : st_put P a b c = some Q) : ps_ok Q := by
  unfold st_put at h
  cases e : ix2_ P id a b with
  | none => rw [e] at h; cases h
  | some x =>
    obtain ⟨r, i⟩ := x
    obtain ⟨i1, i2, i3, i4⟩ := ix2_is hP e
    rw [e] at h
    simp only [] at h
    by_cases c1 : (px_at (ps_p P) r).length < 16
    · rw [if_pos c1] at h
      cases e2 : ix_ ((px_at (ps_p P) r).length + 1) c with
      | none => rw [e2] at h; cases h
      | some w =>
        rw [e2] at h
        obtain ⟨w1, w2⟩ := ix_some (by omega) e2
        cases h
        refine wp_ok hP i1 (by rw [ins_len (by omega)]; omega) (fun x hx => ?_)
        rcases ins_mem hx with q | q
        · rw [q]; exact ln_mem i3
        · exact q
    · rw [if_neg c1] at h; cases h
theorem c_put {l : Launch} {κ : mm_K} {d : Nat} {G : mm_G} {K : Int32 → mm_G → Prop} {P : ps_T} (a b c : Int32) (hP : ps_ok P) (hC : cB_ G P) (h0 : st_put P a b c = none → K (an_put P a b c) G) (h : ∀ G' Q, st_put P a b c = some Q → cB_ G' Q → cZ_ G' → fr_ fK_ G G' → K (an_put P a b c) G') : mC l κ true (d + 2) 0 0 m_X12_put [.ref 0, .int a, .int b, .int c] G (rI K) := by
  have hp := hP.1.1
  unfold st_put an_put at h h0
  refine e_X12_put _ _ _ (s_hasLine a b hP hC (fun e => ⟨fun q => absurd (by decide) q, fun _ => ?_⟩) (fun r i e hr ea hi ei => ⟨fun _ => ?_, fun q => absurd q (by decide)⟩))
  · rw [e] at h0; exact h0 rfl
  · rw [e] at h h0
    simp only [] at h h0
    subst ea ei
    have hro := hC.1.2.1 r hr
    have hlen := hro.2.1
    have hro : ro_ G (54 + 2 * r) (px_at (ps_p P) r) := hro
    rw [nI_clamp (by omega), nI_clamp (by omega), hro.1, nI_leI (by omega) (by omega)]
    refine ⟨(ki_vp (by omega)).2 (by omega), fun z => ?_, fun z => ?_⟩
    · rw [if_neg (by omega), if_neg (by omega)] at h0
      exact h0 rfl
    · have hl16 : (px_at (ps_p P) r).length < 16 := by omega
      simp only [if_pos hl16] at h h0
      cases e2 : ix_ ((px_at (ps_p P) r).length + 1) c with
      | none =>
        rw [e2] at h0
        have h0 := h0 rfl
        exact ⟨fun _ => h0, fun y => ⟨fun y2 => (ix_le (by omega) e2).elim (fun w => absurd w y) (fun w => absurd y2 w), fun _ => h0⟩⟩
      | some w =>
        rw [e2] at h
        obtain ⟨w1, w2⟩ := ix_some (by omega) e2
        subst w2
        obtain ⟨t, t1, t2, t3, t4⟩ := hro.2.2 i hi
        refine ⟨fun y => absurd y (nI_pos (by omega)), fun _ => ⟨fun _ => ⟨(ki_vp (by omega)).2 (by omega), t, t1, ln_At t2, ?_⟩, fun y => absurd (nI_le (by omega) (by omega)) y⟩⟩
        refine s_insert (rc_row (rc_54 (by omega))) (by omega) hro hl16 (by omega) t2 t3 t4 (fun G1 o1 f1 => s_rowsChanged (fun G2 z2 f2 => ?_))
        have hf : fr_ (fun c k => fi_ (54 + 2 * r) c k || (decide (c = 50) && decide (k = 4)) || fz_ c k) G G2 := by
          refine (fr_.si (f1.mono (fun c k q => ?_)) (o := 50) (k := 4) (v := nI 0) ?_).trans (f2.mono (fun c k q => ?_))
          · simp only [Bool.or_eq_false_iff] at q; exact q.1.1
          · simp
          · simp only [Bool.or_eq_false_iff] at q; exact q.2
        have o2 : ro_ G2 (54 + 2 * r) (ins_ (px_at (ps_p P) r) w (ln_at (px_at (ps_p P) r) i)) := by
          have hz1 : ∀ c k, c < 101 ∨ 175 < c → fz_ c k = false := fun c k q => by
            unfold fz_
            rw [decide_eq_false (p := c = 101) (by omega), decide_eq_false (p := c = 168) (by omega), decide_eq_false (p := c = 171) (by omega), decide_eq_false (p := c = 175) (by omega)]
            rfl
          have f3 : fr_ (fun c k => decide (c = 50)) G1 (ms_i G1 50 4 (nI 0)) := fr_.rfl'.si (by simp)
          exact (o1.fr f3 (by simp; omega) (fun k => by simp; omega) (fun t k q => by simp; omega)).fr f2 (hz1 _ _ (by omega)) (fun k => hz1 _ _ (by omega)) (fun t k q => hz1 _ _ (by omega))
        have h50 : mg_i G2 50 4 = nI 0 := by rw [f2.i _ _ rfl]; simp only [mg_i_i, mg_i_l, mg_i_r, mg_i_b, mg_l_i, mg_l_l, mg_l_r, mg_l_b, mg_r_i, mg_r_l, mg_r_r, mg_r_b, false_and, and_false, true_and, and_true, reduceCtorEq, if_true, if_false, reduceIte, Nat.reduceEqDiff, Nat.reduceAdd, Nat.succ_ne_self, ne_eq, not_false_eq_true, not_true_eq_false]
        have hk := h G2 _ rfl (hC.row hP hr hf o2 h50) z2 (hf.mono (fun c k q => by
          unfold fK_ at q
          simp at q
          rw [fi_F (by omega)]
          unfold fz_
          simp
          omega))
        rw [o2.1, ins_len (by omega)]
        exact hk
/-- a line is taken out -/
def del_ (ls : List ln_T) (a : Nat) : List ln_T := ls.take a ++ ls.drop (a + 1)
theorem del_len {ls : List ln_T} {a : Nat} (h : a < ls.length) : (del_ ls a).length = ls.length - 1 := by
  unfold del_
  rw [List.length_append, List.length_take, List.length_drop]
  omega
theorem del_at {ls : List ln_T} {a : Nat} (h : a < ls.length) (p : Nat) : ln_at (del_ ls a) p = if p < a then ln_at ls p else ln_at ls (p + 1) := by
  unfold del_ ln_at
  have hl : (ls.take a).length = a := by rw [List.length_take]; omega
  rw [List.getD_eq_getElem?_getD]
  split
  · rename_i c
    rw [List.getElem?_append_left (by omega), List.getElem?_take, if_pos c, List.getD_eq_getElem?_getD]
  · rename_i c
    rw [List.getElem?_append_right (by omega), hl, List.getElem?_drop, List.getD_eq_getElem?_getD, show a + 1 + (p - a) = p + 1 by omega]
theorem del_mem {ls : List ln_T} {a : Nat} {x : ln_T} (hx : x ∈ del_ ls a) : x ∈ ls := by
  unfold del_ at hx
  rcases List.mem_append.1 hx with q | q
  · exact List.mem_of_mem_take q
  · exact List.mem_of_mem_drop q
theorem s_remove {l : Launch} {κ : mm_K} {d : Nat} {G : mm_G} {K : mm_G → Prop} {x a : Nat} {ls : List ln_T} (hx : RowAt x) (hx2 : x + 1 < 285) (h1 : ro_ G x ls) (ha : a < ls.length)
    (h : ∀ G', ro_ G' x (del_ ls a) → fr_ (fi_ x) G G' → K G') : mC l κ true d 0 0 m_X6_remove [.ref x, .int (nI a)] G (rV K) := by
  obtain ⟨a1, a2, a3⟩ := h1
  refine e_X6_remove x hx _ ?_
  rw [a1, nI_ltI (by omega) (by omega), ki_sub (by omega)]
  refine ⟨fun q => absurd q (nI_pos (by omega)), fun _ => ⟨fun _ => ?_, fun q => absurd ha q⟩⟩
  suffices H : ∀ n i G1, i + n = ls.length - 1 → a ≤ i → fr_ (fi_ x) G G1 → mg_i G1 x 1 = nI (ls.length - 1) → (∀ p, p < a → mg_r G1 (x + 1) p = mg_r G (x + 1) p) → (∀ p, a ≤ p → p < i → mg_r G1 (x + 1) p = mg_r G (x + 1) (p + 1)) → (∀ p, i ≤ p → mg_r G1 (x + 1) p = mg_r G (x + 1) p) → mV l κ true d 0 0 m_X6_remove 25 [some (.ref x), some (.int (nI a)), some (.int (nI i))] [] G1 (rV K) from
    H (ls.length - 1 - a) a _ (by omega) (Nat.le_refl _) (fr_.rfl'.si fi_0) (by simp [mg_i_i]) (fun _ _ => rfl) (fun p q1 q2 => absurd q1 (by omega)) (fun _ _ => rfl)
  intro n
  induction n with
  | zero =>
    intro i G1 hi hai hf q1 q2 q3 q4
    refine p_X6_remove_25 x hx _ _ ⟨fun _ => h G1 ⟨by rw [del_len ha]; exact q1, by rw [del_len ha]; omega, fun p hp => ?_⟩ hf, fun z => absurd (by rw [q1]; exact nI_le (by omega) (by omega)) z⟩
    rw [del_len ha] at hp
    rw [del_at ha]
    have hrd : ∀ u, 285 ≤ u → rd_c G1 u = rd_c G u := fun u hu => rd_c.fr hf (fun k => fi_F (by omega))
    rw [hf.1]
    by_cases c1 : p < a
    · obtain ⟨u, u1, u2, u3, u4⟩ := a3 p (by omega)
      exact ⟨u, by rw [q2 p c1]; exact u1, u2, u3, by rw [hrd u u2, if_pos c1]; exact u4⟩
    · obtain ⟨u, u1, u2, u3, u4⟩ := a3 (p + 1) (by omega)
      exact ⟨u, by rw [q3 p (by omega) (by omega)]; exact u1, u2, u3, by rw [hrd u u2, if_neg c1]; exact u4⟩
  | succ n ih =>
    intro i G1 hi hai hf q1 q2 q3 q4
    obtain ⟨u, u1, u2, u3, u4⟩ := a3 (i + 1) (by omega)
    refine p_X6_remove_25 x hx _ _ ⟨fun z => absurd z (by rw [q1]; exact nI_ge (by omega) (by omega)), fun _ => ?_⟩
    rw [nI_add, nI_clamp (by omega), nI_clamp (by omega)]
    refine ⟨(ki_vp (by omega)).2 (by omega), u, by rw [q4 (i + 1) (by omega)]; exact u1, ln_At u2, (ki_vp (by omega)).2 (by omega), ?_⟩
    refine ih (i + 1) _ (by omega) (by omega) (hf.sr fi_1) (by simp [mg_i_r]; exact q1) (fun p hp => ?_) (fun p hp1 hp2 => ?_) (fun p hp => ?_)
    · rw [mg_r_r, if_neg (by omega)]; exact q2 p hp
    · rw [mg_r_r]
      by_cases c : p = i
      · rw [if_pos ⟨rfl, c⟩, c]; exact u1.symm
      · rw [if_neg (by omega)]; exact q3 p hp1 (by omega)
    · rw [mg_r_r, if_neg (by omega)]; exact q4 p (by omega)
def an_take (P : ps_T) (a b : Int32) : Int32 := match ix2_ P id a b with
  | none => -1
  | some (r, _) => nI ((px_at (ps_p P) r).length - 1)
def st_take (P : ps_T) (a b : Int32) : Option ps_T := match ix2_ P id a b with
  | none => none
  | some (r, i) => some (wp_ P r (del_ (px_at (ps_p P) r) i))
theorem st_take_ok {P Q : ps_T} {a b : Int32} (hP : ps_ok P) (h : st_take P a b = some Q) : ps_ok Q := by
  unfold st_take at h
  cases e : ix2_ P id a b with
  | none => rw [e] at h; cases h
  | some x =>
    obtain ⟨r, i⟩ := x
    obtain ⟨i1, i2, i3, i4⟩ := ix2_is hP e
    have hl := hP.1.2.2 r
    rw [e] at h
    cases h
    exact wp_ok hP i1 (by rw [del_len i3]; omega) (fun x hx => del_mem hx)
theorem c_take {l : Launch} {κ : mm_K} {d : Nat} {G : mm_G} {K : Int32 → mm_G → Prop} {P : ps_T} (a b : Int32) (hP : ps_ok P) (hC : cB_ G P) (h0 : st_take P a b = none → K (an_take P a b) G) (h : ∀ G' Q, st_take P a b = some Q → cB_ G' Q → cZ_ G' → fr_ fK_ G G' → K (an_take P a b) G') : mC l κ true (d + 2) 0 0 m_X12_take [.ref 0, .int a, .int b] G (rI K) := by
  have hp := hP.1.1
  unfold st_take an_take at h h0
  refine e_X12_take _ _ (s_hasLine a b hP hC (fun e => ⟨fun q => absurd (by decide) q, fun _ => ?_⟩) (fun r i e hr ea hi ei => ⟨fun _ => ?_, fun q => absurd q (by decide)⟩))
  · rw [e] at h0; exact h0 rfl
  · rw [e] at h
    simp only [] at h
    subst ea ei
    have hro : ro_ G (54 + 2 * r) (px_at (ps_p P) r) := hC.1.2.1 r hr
    have hlen := hro.2.1
    rw [nI_clamp (by omega)]
    refine ⟨(ki_vp (by omega)).2 (by omega), s_remove (rc_row (rc_54 (by omega))) (by omega) hro hi (fun G1 o1 f1 => s_rowsChanged (fun G2 z2 f2 => ⟨(ki_vp (by omega)).2 (by omega), ?_⟩))⟩
    have hf : fr_ (fun c k => fi_ (54 + 2 * r) c k || (decide (c = 50) && decide (k = 4)) || fz_ c k) G G2 := by
      refine (fr_.si (f1.mono (fun c k q => ?_)) (o := 50) (k := 4) (v := nI 0) ?_).trans (f2.mono (fun c k q => ?_))
      · simp only [Bool.or_eq_false_iff] at q; exact q.1.1
      · simp
      · simp only [Bool.or_eq_false_iff] at q; exact q.2
    have o2 : ro_ G2 (54 + 2 * r) (del_ (px_at (ps_p P) r) i) := by
      have hz1 : ∀ c k, c < 101 ∨ 175 < c → fz_ c k = false := fun c k q => by
        unfold fz_
        rw [decide_eq_false (p := c = 101) (by omega), decide_eq_false (p := c = 168) (by omega), decide_eq_false (p := c = 171) (by omega), decide_eq_false (p := c = 175) (by omega)]
        rfl
      have f3 : fr_ (fun c k => decide (c = 50)) G1 (ms_i G1 50 4 (nI 0)) := fr_.rfl'.si (by simp)
      exact (o1.fr f3 (by simp; omega) (fun k => by simp; omega) (fun t k q => by simp; omega)).fr f2 (hz1 _ _ (by omega)) (fun k => hz1 _ _ (by omega)) (fun t k q => hz1 _ _ (by omega))
    have h50 : mg_i G2 50 4 = nI 0 := by rw [f2.i _ _ rfl]; simp only [mg_i_i, mg_i_l, mg_i_r, mg_i_b, mg_l_i, mg_l_l, mg_l_r, mg_l_b, mg_r_i, mg_r_l, mg_r_r, mg_r_b, false_and, and_false, true_and, and_true, reduceCtorEq, if_true, if_false, reduceIte, Nat.reduceEqDiff, Nat.reduceAdd, Nat.succ_ne_self, ne_eq, not_false_eq_true, not_true_eq_false]
    have hk := h G2 _ rfl (hC.row hP hr hf o2 h50) z2 (hf.mono (fun c k q => by
      unfold fK_ at q
      simp at q
      rw [fi_F (by omega)]
      unfold fz_
      simp
      omega))
    rw [o2.1, del_len hi]
    exact hk
