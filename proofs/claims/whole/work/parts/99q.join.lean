/-! the join: finer frames of put, take, restore -/
def fKz_ (c _k : Nat) : Bool := decide (50 ≤ c ∧ c < 226)
theorem c_put_z {l : Launch} {κ : mm_K} {d : Nat} {G : mm_G} {K : Int32 → mm_G → Prop} {P : ps_T} (a b c : Int32) (hP : ps_ok P) (hC : cB_ G P) (h0 : st_put P a b c = none → K (an_put P a b c) G) (h : ∀ G' Q, st_put P a b c = some Q → cB_ G' Q → cZ_ G' → fr_ fKz_ G G' → K (an_put P a b c) G') : mC l κ true (d + 2) 0 0 m_X12_put [.ref 0, .int a, .int b, .int c] G (rI K) := by
  have hp := hP.1.1
  unfold st_put an_put at h h0
  refine e_X12_put _ _ _ (s_hasLine a b hP hC (fun e => ⟨fun q => absurd (by decide) q, fun _ => ?_⟩) (fun r i e hr ea hi ei => ⟨fun _ => ?_, fun q => absurd q (by decide)⟩))
  · rw [e] at h0; exact h0 rfl
  · rw [e] at h h0
    simp only [] at h h0
    subst ea ei
    have hro := hC.1.2.1 r hr
    have hlen := hro.2.1
    have hro : ro_ G (54 + 2 * r) (px_at (ps_p P) r) := hro
    rw [nI_clamp (by omega), nI_clamp (by omega), hro.1, nI_leI (by omega) (by omega)]
    refine ⟨(ki_vp (by omega)).2 (by omega), fun z => ?_, fun z => ?_⟩
    · rw [if_neg (by omega), if_neg (by omega)] at h0
      exact h0 rfl
    · have hl16 : (px_at (ps_p P) r).length < 16 := by omega
      simp only [if_pos hl16] at h h0
      cases e2 : ix_ ((px_at (ps_p P) r).length + 1) c with
      | none =>
        rw [e2] at h0
        have h0 := h0 rfl
        exact ⟨fun _ => h0, fun y => ⟨fun y2 => (ix_le (by omega) e2).elim (fun w => absurd w y) (fun w => absurd y2 w), fun _ => h0⟩⟩
      | some w =>
        rw [e2] at h
        obtain ⟨w1, w2⟩ := ix_some (by omega) e2
        subst w2
        obtain ⟨t, t1, t2, t3, t4⟩ := hro.2.2 i hi
        refine ⟨fun y => absurd y (nI_pos (by omega)), fun _ => ⟨fun _ => ⟨(ki_vp (by omega)).2 (by omega), t, t1, ln_At t2, ?_⟩, fun y => absurd (nI_le (by omega) (by omega)) y⟩⟩
        refine s_insert (rc_row (rc_54 (by omega))) (by omega) hro hl16 (by omega) t2 t3 t4 (fun G1 o1 f1 => s_rowsChanged (fun G2 z2 f2 => ?_))
        have hf : fr_ (fun c k => fi_ (54 + 2 * r) c k || (decide (c = 50) && decide (k = 4)) || fz_ c k) G G2 := by
          refine (fr_.si (f1.mono (fun c k q => ?_)) (o := 50) (k := 4) (v := nI 0) ?_).trans (f2.mono (fun c k q => ?_))
          · simp only [Bool.or_eq_false_iff] at q; exact q.1.1
          · simp
          · simp only [Bool.or_eq_false_iff] at q; exact q.2
        have o2 : ro_ G2 (54 + 2 * r) (ins_ (px_at (ps_p P) r) w (ln_at (px_at (ps_p P) r) i)) := by
          have hz1 : ∀ c k, c < 101 ∨ 175 < c → fz_ c k = false := fun c k q => by
            unfold fz_
            rw [decide_eq_false (p := c = 101) (by omega), decide_eq_false (p := c = 168) (by omega), decide_eq_false (p := c = 171) (by omega), decide_eq_false (p := c = 175) (by omega)]
            rfl
          have f3 : fr_ (fun c k => decide (c = 50)) G1 (ms_i G1 50 4 (nI 0)) := fr_.rfl'.si (by simp)
          exact (o1.fr f3 (by simp; omega) (fun k => by simp; omega) (fun t k q => by simp; omega)).fr f2 (hz1 _ _ (by omega)) (fun k => hz1 _ _ (by omega)) (fun t k q => hz1 _ _ (by omega))
        have h50 : mg_i G2 50 4 = nI 0 := by rw [f2.i _ _ rfl]; simp only [mg_i_i, mg_i_l, mg_i_r, mg_i_b, mg_l_i, mg_l_l, mg_l_r, mg_l_b, mg_r_i, mg_r_l, mg_r_r, mg_r_b, false_and, and_false, true_and, and_true, reduceCtorEq, if_true, if_false, reduceIte, Nat.reduceEqDiff, Nat.reduceAdd, Nat.succ_ne_self, ne_eq, not_false_eq_true, not_true_eq_false]
        have hk := h G2 _ rfl (hC.row hP hr hf o2 h50) z2 (hf.mono (fun c k q => by
          have q := of_decide_eq_false q
          rw [fi_F (by omega)]
          unfold fz_
          simp
          omega))
        rw [o2.1, ins_len (by omega)]
        exact hk
theorem c_take_z {l : Launch} {κ : mm_K} {d : Nat} {G : mm_G} {K : Int32 → mm_G → Prop} {P : ps_T} (a b : Int32) (hP : ps_ok P) (hC : cB_ G P) (h0 : st_take P a b = none → K (an_take P a b) G) (h : ∀ G' Q, st_take P a b = some Q → cB_ G' Q → cZ_ G' → fr_ fKz_ G G' → K (an_take P a b) G') : mC l κ true (d + 2) 0 0 m_X12_take [.ref 0, .int a, .int b] G (rI K) := by
  have hp := hP.1.1
  unfold st_take an_take at h h0
  refine e_X12_take _ _ (s_hasLine a b hP hC (fun e => ⟨fun q => absurd (by decide) q, fun _ => ?_⟩) (fun r i e hr ea hi ei => ⟨fun _ => ?_, fun q => absurd q (by decide)⟩))
  · rw [e] at h0; exact h0 rfl
  · rw [e] at h
    simp only [] at h
    subst ea ei
    have hro : ro_ G (54 + 2 * r) (px_at (ps_p P) r) := hC.1.2.1 r hr
    have hlen := hro.2.1
    rw [nI_clamp (by omega)]
    refine ⟨(ki_vp (by omega)).2 (by omega), s_remove (rc_row (rc_54 (by omega))) (by omega) hro hi (fun G1 o1 f1 => s_rowsChanged (fun G2 z2 f2 => ⟨(ki_vp (by omega)).2 (by omega), ?_⟩))⟩
    have hf : fr_ (fun c k => fi_ (54 + 2 * r) c k || (decide (c = 50) && decide (k = 4)) || fz_ c k) G G2 := by
      refine (fr_.si (f1.mono (fun c k q => ?_)) (o := 50) (k := 4) (v := nI 0) ?_).trans (f2.mono (fun c k q => ?_))
      · simp only [Bool.or_eq_false_iff] at q; exact q.1.1
      · simp
      · simp only [Bool.or_eq_false_iff] at q; exact q.2
    have o2 : ro_ G2 (54 + 2 * r) (del_ (px_at (ps_p P) r) i) := by
      have hz1 : ∀ c k, c < 101 ∨ 175 < c → fz_ c k = false := fun c k q => by
        unfold fz_
        rw [decide_eq_false (p := c = 101) (by omega), decide_eq_false (p := c = 168) (by omega), decide_eq_false (p := c = 171) (by omega), decide_eq_false (p := c = 175) (by omega)]
        rfl
      have f3 : fr_ (fun c k => decide (c = 50)) G1 (ms_i G1 50 4 (nI 0)) := fr_.rfl'.si (by simp)
      exact (o1.fr f3 (by simp; omega) (fun k => by simp; omega) (fun t k q => by simp; omega)).fr f2 (hz1 _ _ (by omega)) (fun k => hz1 _ _ (by omega)) (fun t k q => hz1 _ _ (by omega))
    have h50 : mg_i G2 50 4 = nI 0 := by rw [f2.i _ _ rfl]; simp only [mg_i_i, mg_i_l, mg_i_r, mg_i_b, mg_l_i, mg_l_l, mg_l_r, mg_l_b, mg_r_i, mg_r_l, mg_r_r, mg_r_b, false_and, and_false, true_and, and_true, reduceCtorEq, if_true, if_false, reduceIte, Nat.reduceEqDiff, Nat.reduceAdd, Nat.succ_ne_self, ne_eq, not_false_eq_true, not_true_eq_false]
    have hk := h G2 _ rfl (hC.row hP hr hf o2 h50) z2 (hf.mono (fun c k q => by
      have q := of_decide_eq_false q
      rw [fi_F (by omega)]
      unfold fz_
      simp
      omega))
    rw [o2.1, del_len hi]
    exact hk
theorem c_restore_z {l : Launch} {κ : mm_K} {d : Nat} {G : mm_G} {K : Int32 → mm_G → Prop} {P : ps_T} (a : Int32) (hP : ps_ok P) (hC : cB_ G P) (h0 : st_rest P a = none → K (an_rest P a) G) (h : ∀ G' Q, st_rest P a = some Q → cB_ G' Q → cZ_ G' → fr_ fKz_ G G' → K (an_rest P a) G') : mC l κ true (d + 2) 0 0 m_X12_restore [.ref 0, .int a] G (rI K) := by
  unfold an_rest at h0 h
  refine e_X12_restore a ?_
  cases e : ix_ 3 a with
  | none =>
    have hn : st_rest P a = none := by unfold st_rest; rw [e]
    have h0 := h0 hn
    rw [hn] at h0
    exact ⟨fun _ => h0, fun z => ⟨fun _ => h0, fun z2 => (ix_c3 e).elim (fun y => absurd y z) (fun y => absurd y.2 z2)⟩⟩
  | some i =>
    obtain ⟨hi, ei⟩ := ix_some (by decide) e
    obtain ⟨a1, a2, a3, a4, a5, a6, a7⟩ := hC
    obtain ⟨b1, b2⟩ := a4 i hi
    cases e2 : ps_s P i with
    | none =>
      have hn : st_rest P a = none := by unfold st_rest; rw [e]; simp only [e2]
      have hh := h0 hn
      rw [hn] at hh
      subst ei
      rw [nI_clamp (by omega), b1 e2]
      exact ⟨fun z => absurd z (nI_pos (by omega)), fun _ => ⟨fun z => absurd z (nI_ge hi (by omega)), fun _ => ⟨(ki_vp (by omega)).2 hi, fun z => absurd rfl z, fun _ => hh⟩⟩⟩
    | some x =>
      obtain ⟨p, s⟩ := x
      have hn : st_rest P a = some (wr_ P p s) := by unfold st_rest; rw [e]; simp only [e2]
      rw [hn] at h
      obtain ⟨c1, c2⟩ := b2 p s e2
      obtain ⟨q1, q2⟩ := hP.2.2.2.2.1 i p s e2
      subst ei
      rw [nI_clamp (by omega), c1]
      refine ⟨fun z => absurd z (nI_pos (by omega)), fun _ => ⟨fun z => absurd z (nI_ge hi (by omega)), fun _ => ⟨(ki_vp (by omega)).2 hi, fun _ => ⟨(ki_vp (by omega)).2 hi, ?_⟩, fun z => absurd z (by decide)⟩⟩⟩
      refine s_rscopy rs_50 (rs_sl hi) (by omega) q1.1 q2.1 c2 (fun j hj => (a3 j hj).2.1) (fun j hj => by rw [show 189 + 12 * i + 4 + 2 * j = 193 + 12 * i + 2 * j by omega]; exact (a3 j hj).2.2 i hi) (fun G1 r1 n1 f1 => s_rowsChanged (fun G2 z2 f2 => ?_))
      have hz1 : ∀ c k, c < 101 ∨ 175 < c → fz_ c k = false := fun c k q => by
        unfold fz_
        rw [decide_eq_false (p := c = 101) (by omega), decide_eq_false (p := c = 168) (by omega), decide_eq_false (p := c = 171) (by omega), decide_eq_false (p := c = 175) (by omega)]
        rfl
      have f12 : fr_ (fun c k => fy_ 50 c k || fz_ c k) G G2 := (f1.mono (fun c k q => by simp only [Bool.or_eq_false_iff] at q; exact q.1)).trans (f2.mono (fun c k q => by simp only [Bool.or_eq_false_iff] at q; exact q.2))
      have hn2 : mg_n G ≤ mg_n G2 := by rw [f12.1]; exact Nat.le_refl _
      have hS : ∀ c k, (c < 50 ∨ 62 ≤ c) → (c < 101 ∨ 175 < c) → (!(fy_ 50 c k || fz_ c k)) = true := by
        intro c k q1 q2
        rw [fy_F (by omega), hz1 c k q2]
        rfl
      refine h G2 _ rfl ⟨r1.on q1.1 (f2.nn) (by rw [f2.1]; exact Nat.le_refl _) (fun c k y1 y2 => by rw [hz1 c k (by omega)]; rfl) (fun t k y => by rw [hz1 t k (by omega)]; rfl), a2.on hP.2.1.1 f12.nn (fun c k y1 y2 => hS _ _ (by omega) (by omega)), fun j hj => ?_, a4.on hP rfl f12.nn hn2 (fun c k y => hS _ _ (by omega) (by omega)), a5.on f12.nn (fun c k y => hS _ _ (by omega) (by omega)), ?_, fun w hw => ?_⟩ z2 (f12.mono (fun c k q => ?_))
      · obtain ⟨b1, b2, b3⟩ := a3 j hj
        refine ⟨?_, ?_, fun q hq => ?_⟩
        · rw [f12.nn.i _ _ (hS _ _ (by omega) (by omega))]; exact b1
        · rw [f2.i _ _ (hz1 _ _ (by omega))]; exact n1 j hj
        · rw [f12.nn.i _ _ (hS _ _ (by omega) (by omega))]; exact b3 q hq
      · rw [f12.nn.i _ _ (hS _ _ (by omega) (by omega))]; exact a6
      · rw [f12.nn.l _ _ (hS _ _ (by omega) (by omega))]; exact a7 w hw
      · have := of_decide_eq_false q
        rw [fy_F (by omega), hz1 c k (by omega)]
        rfl
/-! the caches -/
def cC_ (G : mm_G) (P : ps_T) : Prop := cL_ G P ∧ cO_ G P ∧ cK_ G P ∧ cU_ G P
theorem cZ_.C {G : mm_G} {P : ps_T} (h : cZ_ G) : cC_ G P := ⟨fun r hr => Or.inl (h.1 r hr), ⟨Or.inl h.2.1, Or.inl h.2.2.1⟩, Or.inl h.2.2.2.1, Or.inl h.2.2.2.2⟩
theorem cO_.off {G G1 : mm_G} {P : ps_T} {S : Nat → Nat → Bool} (h : cO_ G P) (hf : fr_ S G G1) (hS : ∀ c k, 168 ≤ c → c ≤ 170 → S c k = false) : cO_ G1 P := by
  obtain ⟨h1, h2⟩ := h
  have e4 : mg_i G1 168 4 = mg_i G 168 4 := hf.i _ _ (hS _ _ (by omega) (by omega))
  have e5 : mg_i G1 168 5 = mg_i G 168 5 := hf.i _ _ (hS _ _ (by omega) (by omega))
  have e6 : mg_i G1 168 6 = mg_i G 168 6 := hf.i _ _ (hS _ _ (by omega) (by omega))
  refine ⟨?_, ?_⟩
  · rcases h1 with z | ⟨r, z1, z2, z3, z4⟩
    · exact Or.inl (by rw [e4]; exact z)
    · exact Or.inr ⟨r, z1, z2, by rw [e4]; exact z3, fun k hk => by rw [hf.l _ _ (hS _ _ (by omega) (by omega))]; exact z4 k hk⟩
  · rcases h2 with z | ⟨r, x, z1, z2, z3, z4⟩
    · exact Or.inl (by rw [e5]; exact z)
    · exact Or.inr ⟨r, x, z1, by rw [e5]; exact z2, by rw [e6]; exact z3, z4⟩
theorem cK_.off {G G1 : mm_G} {P : ps_T} {S : Nat → Nat → Bool} (h : cK_ G P) (hf : fr_ S G G1) (hS : ∀ c k, 171 ≤ c → c ≤ 172 → S c k = false) : cK_ G1 P := by
  have e : ∀ k, mg_i G1 171 k = mg_i G 171 k := fun k => hf.i _ _ (hS _ _ (by omega) (by omega))
  have e2 : ∀ k, mg_i G1 172 k = mg_i G 172 k := fun k => hf.i _ _ (hS _ _ (by omega) (by omega))
  unfold cK_ at h ⊢
  rw [e 5, e 6, e 7, e 8]
  rcases h with z | ⟨r, n, m, f, z1, z2, z3, z4, z5, z6, z7, z8⟩
  · exact Or.inl z
  · exact Or.inr ⟨r, n, m, f, z1, z2, z3, z4, z5, z6, z7, fun z hz y i hi => by rw [e2]; exact z8 z hz y i hi⟩
theorem cU_.off {G G1 : mm_G} {P : ps_T} {S : Nat → Nat → Bool} (h : cU_ G P) (hf : fr_ S G G1) (hS : ∀ c k, 175 ≤ c → c ≤ 187 → S c k = false) : cU_ G1 P := by
  have e : ∀ c k, 175 ≤ c → c ≤ 187 → mg_i G1 c k = mg_i G c k := fun c k x y => hf.i _ _ (hS _ _ x y)
  unfold cU_ at h ⊢
  rw [e 175 12 (by omega) (by omega)]
  rcases h with z | ⟨r, n, z1, z2, k1, k2, k3, k4, k5⟩
  · exact Or.inl z
  · refine Or.inr ⟨r, n, z1, z2, by rw [e _ _ (by omega) (by omega)]; exact k1, by rw [e _ _ (by omega) (by omega)]; exact k2, by rw [e _ _ (by omega) (by omega)]; exact k3, fun i hi => by rw [e _ _ (by omega) (by omega)]; exact k4 i hi, fun t ht => ?_⟩
    rw [e 180 t (by omega) (by omega)]
    rcases k5 t ht with y | ⟨y1, y2⟩
    · exact Or.inl y
    · refine Or.inr ⟨y1, fun c hc => ?_⟩
      obtain ⟨x1, x2⟩ := y2 c hc
      refine ⟨by rw [e _ _ (by omega) (by omega)]; exact x1, fun q => ?_⟩
      obtain ⟨v1, v2, v3⟩ := x2 q
      exact ⟨by rw [e _ _ (by omega) (by omega)]; exact v1, by rw [e _ _ (by omega) (by omega)]; exact v2, fun j hj => by rw [e _ _ (by omega) (by omega)]; exact v3 j hj⟩
theorem cC_.of {G G1 : mm_G} {P : ps_T} {S : Nat → Nat → Bool} (h : cC_ G P) (hP : ps_ok P) (hf : fr_ S G G1) (h1 : (∀ c k, 98 ≤ c → c ≤ 167 → S c k = false) ∨ cL_ G1 P) (h2 : (∀ c k, 168 ≤ c → c ≤ 170 → S c k = false) ∨ cO_ G1 P) (h3 : (∀ c k, 171 ≤ c → c ≤ 172 → S c k = false) ∨ cK_ G1 P) (h4 : (∀ c k, 175 ≤ c → c ≤ 187 → S c k = false) ∨ cU_ G1 P) : cC_ G1 P := by
  refine ⟨?_, ?_, ?_, ?_⟩
  · rcases h1 with q | q
    · exact h.1.off hP hf q
    · exact q
  · rcases h2 with q | q
    · exact h.2.1.off hf q
    · exact q
  · rcases h3 with q | q
    · exact h.2.2.1.off hf q
    · exact q
  · rcases h4 with q | q
    · exact h.2.2.2.off hf q
    · exact q
theorem cC_.off {G G1 : mm_G} {P : ps_T} {S : Nat → Nat → Bool} (h : cC_ G P) (hP : ps_ok P) (hf : fr_ S G G1) (hS : ∀ c k, 98 ≤ c → c ≤ 187 → S c k = false) : cC_ G1 P :=
  h.of hP hf (Or.inl (fun c k x y => hS c k (by omega) (by omega))) (Or.inl (fun c k x y => hS c k (by omega) (by omega))) (Or.inl (fun c k x y => hS c k (by omega) (by omega))) (Or.inl (fun c k x y => hS c k (by omega) (by omega)))
theorem rch_P {P Q : ps_T} (h1 : ps_p Q = ps_p P) (h2 : ps_t Q = ps_t P) (h3 : ps_f Q = ps_f P) (r : Nat) : ∀ n, rch_ Q r n = rch_ P r n
  | 0 => rfl
  | n + 1 => by
    show rch_ Q r n ||| ru_dn (rs_t (rr_ (ps_p Q) (ps_t Q) (ps_f Q) r 0 n).1) = rch_ P r n ||| ru_dn (rs_t (rr_ (ps_p P) (ps_t P) (ps_f P) r 0 n).1)
    rw [rch_P h1 h2 h3 r n, h1, h2, h3]
/-- the caches speak of rows, trials and fuel alone -/
theorem cC_.P {G : mm_G} {P Q : ps_T} (h : cC_ G P) (h1 : ps_p Q = ps_p P) (h2 : ps_t Q = ps_t P) (h3 : ps_f Q = ps_f P) : cC_ G Q := by
  have hr := rch_P h1 h2 h3
  obtain ⟨p, t, f, n, s, b, c⟩ := P
  obtain ⟨p2, t2, f2, n2, s2, b2, c2⟩ := Q
  have h1 : p2 = p := h1
  have h2 : t2 = t := h2
  have h3 : f2 = f := h3
  subst p2 t2 f2
  refine ⟨fun r hr4 => ?_, h.2.1, h.2.2.1, h.2.2.2⟩
  rcases h.1 r hr4 with z | ⟨z, z2, z3⟩
  · exact Or.inl z
  · exact Or.inr ⟨z, by rw [hr]; exact z2, z3⟩
/-- the room of the world doesn't matter to the caches -/
theorem cC_.fz {G G1 : mm_G} {P : ps_T} {S : Nat → Nat → Bool} (h : cC_ G P) (hP : ps_ok P) (hf : fnz_ S G G1) (hn : 285 ≤ mg_n G) (hS : ∀ c k, 98 ≤ c → c ≤ 187 → S c k = false) : cC_ G1 P := by
  have g : fr_ (fun c _ => decide (c < 98 ∨ 187 < c)) G (mg_n G, G1.2) := ⟨rfl, fun c k q => by
    have q := of_decide_eq_false q
    exact hf.2 c k (by omega) (hS c k (by omega) (by omega))⟩
  have k := h.off hP g (fun c k x y => decide_eq_false (by omega))
  exact k
