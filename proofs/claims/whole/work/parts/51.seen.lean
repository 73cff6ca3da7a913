/-! forget, see, count -/
def fM_ (c _k : Nat) : Bool := decide (226 ≤ c) && decide (c < 285)
theorem fM_F {c k : Nat} (h : c < 226 ∨ 285 ≤ c) : fM_ c k = false := by
  unfold fM_
  rcases h with h | h
  · rw [decide_eq_false (by omega)]; rfl
  · rw [decide_eq_false (p := c < 285) (by omega), Bool.and_false]
theorem wn_ok {P : ps_T} {s : sx_T} (h : ps_ok P) (h1 : sx_ok (ps_p P) (ps_t P).length s) : ps_ok (wn_ P s) := by
  obtain ⟨a1, a2, a3, a4, a5, a6, a7⟩ := h
  exact ⟨a1, a2, a3, h1, a5, a6, a7⟩
theorem sx_nil {p : px_T} {n r : Nat} : sx_ok p n (r, []) := ⟨Nat.zero_le _, fun q => absurd rfl q, fun k hk => absurd hk (Nat.not_lt_zero k)⟩
/-- cells of what is seen alone have changed -/
theorem cB_.seen {G G1 : mm_G} {P : ps_T} {s : sx_T} (h : cB_ G P) (hP : ps_ok P) (hf : fr_ (fun c k => (decide (c = 50) && (decide (k = 4) || decide (k = 5))) || decide (c = 52) || decide (c = 53)) G G1) (h1 : mg_i G1 50 4 = nI s.2.length) (h2 : s.2.length ≠ 0 → mg_i G1 50 5 = nI s.1) (h3 : ∀ k, k < s.2.length → mg_i G1 52 k = nI (sx_at s k).1 ∧ mg_i G1 53 k = nI (sx_at s k).2) : cB_ G1 (wn_ P s) := by
  obtain ⟨a1, a2, a3, a4, a5, a6, a7⟩ := h
  have hn : mg_n G ≤ mg_n G1 := by rw [hf.1]; exact Nat.le_refl _
  have hp := hP.1.1
  refine ⟨⟨?_, fun j hj => (a1.2.1 j hj).on hf.nn hn (by simp; omega) (fun k => by simp; omega) (fun t k q => by simp; omega), h1, h2, h3⟩, a2.on hP.2.1.1 hf.nn (fun c k q1 q2 => by simp; omega), a3.on hf.nn (fun c q => by simp; omega), a4.on hP rfl hf.nn hn (fun c k q => by simp; omega), a5.on hf.nn (fun c k q => by simp; omega), ?_, fun w hw => ?_⟩
  · rw [hf.i _ _ (by simp)]; exact a1.1
  · rw [hf.i _ _ (by simp)]; exact a6
  · rw [hf.l _ _ (by simp)]; exact a7 w hw
theorem mB_.seen {G G1 : mm_G} {P : ps_T} {m : Nat} {s : sx_T} (h : mB_ G P m) (hf : fr_ (fun c k => (decide (c = 226) && (decide (k = 65) || decide (k = 66))) || (decide (268 ≤ c) && decide (c ≤ 271)) || fg_ c k) G G1) (h1 : mS_ G1 (wn_ P s)) : mB_ G1 (wn_ P s) m := by
  obtain ⟨a1, a2, a3, a4, a5, a6, a7, a8, a9⟩ := h
  have hg : ∀ c k, (226 < c ∧ c < 255) ∨ 261 < c → fg_ c k = false := fun c k q => fg_F (by omega)
  refine ⟨a1, ?_, a3.on hf.nn (fun c k q1 q2 => by simp [hg c k (by omega)]; omega), a4.on hf.nn (fun c k q1 q2 => by simp [hg c k (by omega)]; omega), h1, a6.on rfl rfl rfl hf.nn (fun c k q => by simp [hg c k (by omega)]; omega), a7.on hf.nn (by simp; decide) (fun k => by simp [hg 227 k (by omega)]), ?_, fun k hk => ?_⟩
  · rw [hf.i _ _ (by simp; decide)]; exact a2
  · rw [hf.i _ _ (by simp; decide)]; exact a8
  · rw [hf.l _ _ (by simp [hg 233 k (by omega)])]; exact a9 k hk
theorem c_forget {l : Launch} {κ : mm_K} {d : Nat} {G : mm_G} {K : Int32 → mm_G → Prop} {P : ps_T} (hP : ps_ok P) (hC : cB_ G P) (h : ∀ G', cB_ G' (wn_ P ((ps_n P).1, [])) → fr_ (fun c _ => decide (50 ≤ c) && decide (c < 54)) G G' → K (nI (ps_n P).2.length) G') : mC l κ true d 0 0 m_X12_forget [.ref 0] G (rI K) := by
  refine e_X12_forget ?_
  rw [hC.1.2.2.1]
  have hf : fr_ (fun c k => (decide (c = 50) && (decide (k = 4) || decide (k = 5))) || decide (c = 52) || decide (c = 53)) G (ms_i G 50 4 (nI 0)) := fr_.rfl'.si (by simp)
  exact h _ (hC.seen hP hf (by simp only [mg_i_i, mg_i_l, mg_i_r, mg_i_b, mg_l_i, mg_l_l, mg_l_r, mg_l_b, mg_r_i, mg_r_l, mg_r_r, mg_r_b, false_and, and_false, true_and, and_true, reduceCtorEq, if_true, if_false, reduceIte, Nat.reduceEqDiff, Nat.reduceAdd, Nat.succ_ne_self, ne_eq, not_false_eq_true, not_true_eq_false]; rfl) (fun q => absurd rfl q) (fun k hk => absurd hk (Nat.not_lt_zero k))) (hf.mono (fun c k q => by simp at q ⊢; omega))
theorem m_forget {l : Launch} {κ : mm_K} {d : Nat} {G : mm_G} {K : Int32 → mm_G → Prop} {P : ps_T} {m : Nat} (hM : mB_ G P m) (h : ∀ G', mB_ G' (wn_ P ((ps_n P).1, [])) m → fr_ fM_ G G' → K (nI (ps_n P).2.length) G') : mC l κ true d 0 0 m_X13_forget [.ref 226] G (rI K) := by
  refine e_X13_forget ?_
  rw [hM.2.2.2.2.1.1]
  have hf : fr_ (fun c k => (decide (c = 226) && (decide (k = 65) || decide (k = 66))) || (decide (268 ≤ c) && decide (c ≤ 271)) || fg_ c k) G (ms_i G 226 65 (nI 0)) := fr_.rfl'.si (by simp)
  exact h _ (hM.seen hf ⟨by simp only [mg_i_i, mg_i_l, mg_i_r, mg_i_b, mg_l_i, mg_l_l, mg_l_r, mg_l_b, mg_r_i, mg_r_l, mg_r_r, mg_r_b, false_and, and_false, true_and, and_true, reduceCtorEq, if_true, if_false, reduceIte, Nat.reduceEqDiff, Nat.reduceAdd, Nat.succ_ne_self, ne_eq, not_false_eq_true, not_true_eq_false]; rfl, fun q => absurd rfl q, fun k hk => absurd hk (Nat.not_lt_zero k)⟩) (fr_.rfl'.si rfl)
/-! see: a deed is seen -/
def st_see (P : ps_T) (a c b : Int32) : Option (sx_T) := match ix3_ P a b c with
  | none => none
  | some (r, lo, k) => if (ps_n P).2.length = 20 then none else if (ps_n P).2.length ≠ 0 ∧ (ps_n P).1 ≠ r then none else some (r, (ps_n P).2 ++ [(k, lo)])
def an_see (P : ps_T) (a c b : Int32) : Int32 := match st_see P a c b with
  | none => -1
  | some _ => nI (ps_n P).2.length
def ns_see (P : ps_T) (a c b : Int32) : ps_T := match st_see P a c b with
  | none => P
  | some s => wn_ P s
theorem sx_app (r : Nat) (l : List (Nat × Nat)) (x : Nat × Nat) (k : Nat) (h : k < l.length) : sx_at (r, l ++ [x]) k = l.getD k (0, 0) := ld_l _ _ h
theorem sx_app' (r : Nat) (l : List (Nat × Nat)) (x : Nat × Nat) : sx_at (r, l ++ [x]) l.length = x := ld_r _ _ _
theorem ix3_is {P : ps_T} {a b c : Int32} {r lo k : Nat} (hP : ps_ok P) (h : ix3_ P a b c = some (r, lo, k)) : r < (ps_p P).length ∧ a = nI r ∧ lo < 2 ^ (px_at (ps_p P) r).length ∧ b = nI lo ∧ k < (ps_t P).length ∧ c = nI k := by
  have hp := hP.1.1
  have ht := hP.2.1.1
  unfold ix3_ ix2_ at h
  cases e1 : ix_ (ps_p P).length a with
  | none => rw [e1] at h; cases h
  | some r' =>
    rw [e1] at h
    simp only [] at h
    obtain ⟨h1, h2⟩ := ix_some (by omega) e1
    have h16 := px_len_lt (hP.1.2.2 r')
    cases e2 : ix_ (two_ (px_at (ps_p P) r').length) b with
    | none => rw [e2] at h; cases h
    | some lo' =>
      rw [e2] at h
      simp only [] at h
      obtain ⟨h3, h4⟩ := ix_some (by unfold two_; omega) e2
      cases e3 : ix_ (ps_t P).length c with
      | none => rw [e3] at h; cases h
      | some k' =>
        rw [e3] at h
        obtain ⟨h5, h6⟩ := ix_some (by omega) e3
        cases h
        exact ⟨h1, h2, h3, h4, h5, h6⟩
theorem ns_see_ok {P : ps_T} (a c b : Int32) (hP : ps_ok P) : ps_ok (ns_see P a c b) := by
  unfold ns_see st_see
  cases e : ix3_ P a b c with
  | none => exact hP
  | some x =>
    obtain ⟨r, lo, k⟩ := x
    obtain ⟨i1, i2, i3, i4, i5, i6⟩ := ix3_is hP e
    simp only []
    by_cases c1 : (ps_n P).2.length = 20
    · rw [if_pos c1]; exact hP
    · rw [if_neg c1]
      by_cases c2 : (ps_n P).2.length ≠ 0 ∧ (ps_n P).1 ≠ r
      · rw [if_pos c2]; exact hP
      · rw [if_neg c2]
        obtain ⟨s1, s2, s3⟩ := hP.2.2.2.1
        refine wn_ok hP ⟨by show ((ps_n P).2 ++ [_]).length ≤ 20; rw [ld_len]; omega, fun _ => i1, fun q hq => ?_⟩
        have hq : q < ((ps_n P).2 ++ [(k, lo)]).length := hq
        rw [ld_len] at hq
        rcases Nat.lt_succ_iff_lt_or_eq.mp hq with z | z
        · rw [sx_app _ _ _ _ z]
          have := s3 q z
          have hre : (ps_n P).1 = r := by
            by_cases y : (ps_n P).1 = r
            · exact y
            · exact absurd ⟨by omega, y⟩ c2
          rw [← hre]
          exact this
        · rw [z, sx_app']
          exact ⟨i5, i3⟩
theorem c_see {l : Launch} {κ : mm_K} {d : Nat} {G : mm_G} {K : Int32 → mm_G → Prop} {P : ps_T} (a c b : Int32) (hP : ps_ok P) (hC : cB_ G P) (h : ∀ G', cB_ G' (ns_see P a c b) → fr_ (fun c _ => decide (50 ≤ c) && decide (c < 54)) G G' → K (an_see P a c b) G') : mC l κ true (d + 3) 0 0 m_X12_see [.ref 0, .int a, .int c, .int b] G (rI K) := by
  have hR := hC.1
  have hs20 := hP.2.2.2.1.1
  unfold ns_see an_see st_see at h
  refine e_X12_see _ _ _ (s_hasRun a b c hP hC (fun e => ⟨fun _ => ?_, fun q => absurd (by decide) q⟩) (fun r lo k e hr ea hlo eb hk ec => ⟨fun q => absurd q (by decide), fun _ => ?_⟩))
  · rw [e] at h; exact h G hC fr_.rfl'
  · rw [e] at h
    simp only [] at h
    have hp := hP.1.1
    have ht := hP.2.1.1
    have h16 := lo_lt hP hlo
    subst ea eb ec
    rw [hR.2.2.1, nI_ltI (by omega) (by omega)]
    have hput : ¬ (ps_n P).2.length = 20 → ¬ ((ps_n P).2.length ≠ 0 ∧ (ps_n P).1 ≠ r) → vp_in (nI (ps_n P).2.length) 20 ∧ vp_in (nI (ps_n P).2.length) 20 ∧ K (nI (ps_n P).2.length) (ms_i (ms_i (ms_i (ms_i G 50 5 (nI r)) 52 ((nI (ps_n P).2.length).toNatClampNeg) (nI k)) 53 ((nI (ps_n P).2.length).toNatClampNeg) (nI lo)) 50 4 ((nI (ps_n P).2.length) + (nI 1))) := by
      intro c1 c2
      rw [if_neg c1, if_neg c2] at h
      rw [nI_clamp (by omega), nI_add]
      refine ⟨(ki_vp (by omega)).2 (by omega), (ki_vp (by omega)).2 (by omega), ?_⟩
      have hf : fr_ (fun c k => (decide (c = 50) && (decide (k = 4) || decide (k = 5))) || decide (c = 52) || decide (c = 53)) G (ms_i (ms_i (ms_i (ms_i G 50 5 (nI r)) 52 (ps_n P).2.length (nI k)) 53 (ps_n P).2.length (nI lo)) 50 4 (nI ((ps_n P).2.length + 1))) := (((fr_.rfl'.si (by simp)).si (by simp)).si (by simp)).si (by simp)
      refine h _ (hC.seen hP hf ?_ (fun _ => by simp only [mg_i_i, mg_i_l, mg_i_r, mg_i_b, mg_l_i, mg_l_l, mg_l_r, mg_l_b, mg_r_i, mg_r_l, mg_r_r, mg_r_b, false_and, and_false, true_and, and_true, reduceCtorEq, if_true, if_false, reduceIte, Nat.reduceEqDiff, Nat.reduceAdd, Nat.succ_ne_self, ne_eq, not_false_eq_true, not_true_eq_false]) (fun q hq => ?_)) (hf.mono (fun c k q => by simp at q ⊢; omega))
      · show _ = nI ((ps_n P).2 ++ [(k, lo)]).length
        rw [ld_len]
        simp only [mg_i_i, mg_i_l, mg_i_r, mg_i_b, mg_l_i, mg_l_l, mg_l_r, mg_l_b, mg_r_i, mg_r_l, mg_r_r, mg_r_b, false_and, and_false, true_and, and_true, reduceCtorEq, if_true, if_false, reduceIte, Nat.reduceEqDiff, Nat.reduceAdd, Nat.succ_ne_self, ne_eq, not_false_eq_true, not_true_eq_false]
      · have hq : q < ((ps_n P).2 ++ [(k, lo)]).length := hq
        rw [ld_len] at hq
        simp only [mg_i_i, mg_i_l, mg_i_r, mg_i_b, mg_l_i, mg_l_l, mg_l_r, mg_l_b, mg_r_i, mg_r_l, mg_r_r, mg_r_b, false_and, and_false, true_and, and_true, reduceCtorEq, if_true, if_false, reduceIte, Nat.reduceEqDiff, Nat.reduceAdd, Nat.succ_ne_self, ne_eq, not_false_eq_true, not_true_eq_false]
        by_cases z : q = (ps_n P).2.length
        · rw [if_pos z, if_pos z, z, sx_app']
          exact ⟨rfl, rfl⟩
        · rw [if_neg z, if_neg z, sx_app _ _ _ _ (by omega)]
          exact hR.2.2.2.2 q (by omega)
    refine ⟨fun c1 => ⟨fun c2 => ?_, fun c2 => ⟨fun c3 => ?_, fun c3 => ?_⟩⟩, fun c1 => ?_⟩
    · rw [ki_0, nI_leI (by omega) (by omega)] at c2
      exact hput (by omega) (fun y => by omega)
    · rw [ki_0, nI_leI (by omega) (by omega)] at c2
      rw [hR.2.2.2.1 (by omega)] at c3
      have hr4 := (hP.2.2.2.1.2.1 (by omega))
      rw [nI_eq (by omega) (by omega)] at c3
      exact hput (by omega) (fun y => y.2 c3)
    · rw [ki_0, nI_leI (by omega) (by omega)] at c2
      rw [hR.2.2.2.1 (by omega)] at c3
      have hne : (ps_n P).1 ≠ r := fun y => c3 (by rw [y])
      rw [if_neg (by omega), if_pos ⟨by omega, hne⟩] at h
      exact h G hC fr_.rfl'
    · rw [if_pos (by omega)] at h
      exact h G hC fr_.rfl'
theorem m_see {l : Launch} {κ : mm_K} {d : Nat} {G : mm_G} {K : Int32 → mm_G → Prop} {P : ps_T} {m : Nat} (a c b : Int32) (hP : ps_ok P) (hM : mB_ G P m) (h : ∀ G', mB_ G' (ns_see P a c b) m → fr_ fM_ G G' → K (an_see P a c b) G') : mC l κ true (d + 6) 0 0 m_X13_see [.ref 226, .int a, .int c, .int b] G (rI K) := by
  have hS := hM.2.2.2.2.1
  have hs20 := hP.2.2.2.1.1
  have hp := hP.1.1
  have ht := hP.2.1.1
  unfold ns_see an_see st_see at h
  have hbad : (ps_n P).2.length = 20 ∨ ix3_ P a b c = none ∨ (∃ r lo k, ix3_ P a b c = some (r, lo, k) ∧ (ps_n P).2.length ≠ 0 ∧ (ps_n P).1 ≠ r) → ∀ G', fr_ fg_ G G' → K (-1) G' := by
    intro hq G' hf
    have hh := h G'
    have hfM : fr_ fM_ G G' := hf.mono (fun c k q => fg_F (by
      unfold fM_ at q
      simp at q
      omega))
    cases e : ix3_ P a b c with
    | none => rw [e] at hh; exact hh (hM.fg hf) hfM
    | some x =>
      obtain ⟨r, lo, k⟩ := x
      rw [e] at hh
      simp only [] at hh
      by_cases c1 : (ps_n P).2.length = 20
      · rw [if_pos c1] at hh; exact hh (hM.fg hf) hfM
      · rcases hq with z | z | ⟨r', lo', k', z1, z2, z3⟩
        · exact absurd z c1
        · rw [e] at z; cases z
        · rw [e] at z1
          cases z1
          rw [if_neg c1, if_pos ⟨z2, z3⟩] at hh; exact hh (hM.fg hf) hfM
  have hgo : ¬ (ps_n P).2.length = 20 → (∀ r lo k, ix3_ P a b c = some (r, lo, k) → ¬ ((ps_n P).2.length ≠ 0 ∧ (ps_n P).1 ≠ r)) → mC l κ true (d + 5) 0 0 m_X13_goes [.ref 226, .int a, .int b, .int c] G (rI (fun r1 G2 => ((¬ r1 = 0 → vp_in (mg_i G2 226 65) 20 ∧ vp_in (mg_i G2 226 65) 20 ∧ vp_in (mg_i G2 226 65) 20 ∧ mV l κ true (d + 6) 0 0 m_X13_see 80 [some (.ref 226), some (.int a), some (.int c), some (.int b), some (.int (nI 0))] [] (ms_i (ms_i (ms_i (ms_i G2 226 66 a) 268 ((mg_i G2 226 65).toNatClampNeg) c) 269 ((mg_i G2 226 65).toNatClampNeg) (mg_i G2 226 55)) 270 ((mg_i G2 226 65).toNatClampNeg) (mg_i G2 226 51)) (rI K)) ∧ (r1 = 0 → K (-1) G2)))) := by
    intro c1 c2
    refine t_goes a b c hP hM (fun e => ⟨fun q => absurd (by decide) q, fun _ => hbad (Or.inr (Or.inl e)) G fr_.rfl'⟩) (fun G2 r lo k e hr ea hlo eb hk ec g1 g2 g3 => ⟨fun _ => ?_, fun q => absurd q (by decide)⟩)
    have cz := c2 r lo k e
    rw [e] at h
    simp only [] at h
    rw [if_neg c1, if_neg cz] at h
    subst ea eb ec
    obtain ⟨o8, -, o3, -⟩ := rr_ok (k := k) hP hr (lo_lt hP hlo)
    have hM2 := hM.fg g1
    have hS2 := hM2.2.2.2.2.1
    rw [hS2.1, nI_clamp (by omega), g3, g2.1]
    refine ⟨(ki_vp (by omega)).2 (by omega), (ki_vp (by omega)).2 (by omega), (ki_vp (by omega)).2 (by omega), ?_⟩
    have hlen : 2 * 0 = 0 := rfl
    suffices H : ∀ n j G3, j + n = (rs_o (rr_ (ps_p P) (ps_t P) (ps_f P) r lo k).1).length → fr_ (fun c k => (decide (c = 226) && (decide (k = 65) || decide (k = 66))) || (decide (268 ≤ c) && decide (c ≤ 271)) || fg_ c k) G G3 → mg_i G3 226 65 = nI (ps_n P).2.length → mg_i G3 226 66 = nI r → mg_i G3 226 51 = nI (rs_o (rr_ (ps_p P) (ps_t P) (ps_f P) r lo k).1).length → (∀ q, q < (rs_o (rr_ (ps_p P) (ps_t P) (ps_f P) r lo k).1).length → mg_i G3 258 q = (rs_o (rr_ (ps_p P) (ps_t P) (ps_f P) r lo k).1).getD q (nI 0)) → (∀ q, q < (ps_n P).2.length → mg_i G3 268 q = nI (sx_at (ps_n P) q).1 ∧ mD_ G3 269 270 271 q (od_ (ps_p P) (ps_t P) (ps_f P) r (sx_at (ps_n P) q).2 (sx_at (ps_n P) q).1)) → mg_i G3 268 (ps_n P).2.length = nI k → mg_i G3 269 (ps_n P).2.length = nI (rr_ (ps_p P) (ps_t P) (ps_f P) r lo k).2 → mg_i G3 270 (ps_n P).2.length = nI (rs_o (rr_ (ps_p P) (ps_t P) (ps_f P) r lo k).1).length → (∀ q, q < j → mg_i G3 271 (8 * (ps_n P).2.length + q) = (rs_o (rr_ (ps_p P) (ps_t P) (ps_f P) r lo k).1).getD q (nI 0)) → mV l κ true (d + 6) 0 0 m_X13_see 80 [some (.ref 226), some (.int (nI r)), some (.int (nI k)), some (.int (nI lo)), some (.int (nI j))] [] G3 (rI K) by
      have hf0 : fr_ (fun c k => (decide (c = 226) && (decide (k = 65) || decide (k = 66))) || (decide (268 ≤ c) && decide (c ≤ 271)) || fg_ c k) G G2 := g1.mono (fun c k q => by simp at q; simp [q.2])
      have hold : ∀ q, q < (ps_n P).2.length → (ps_n P).1 = r := fun q hq => by
        by_cases y : (ps_n P).1 = r
        · exact y
        · exact absurd ⟨by omega, y⟩ cz
      refine H _ 0 _ (Nat.zero_add _) ((((hf0.si (by simp)).si (by simp)).si (by simp)).si (by simp)) (by simp only [mg_i_i, mg_i_l, mg_i_r, mg_i_b, mg_l_i, mg_l_l, mg_l_r, mg_l_b, mg_r_i, mg_r_l, mg_r_r, mg_r_b, false_and, and_false, true_and, and_true, reduceCtorEq, if_true, if_false, reduceIte, Nat.reduceEqDiff, Nat.reduceAdd, Nat.succ_ne_self, ne_eq, not_false_eq_true, not_true_eq_false]; exact hS2.1) (by simp only [mg_i_i, mg_i_l, mg_i_r, mg_i_b, mg_l_i, mg_l_l, mg_l_r, mg_l_b, mg_r_i, mg_r_l, mg_r_r, mg_r_b, false_and, and_false, true_and, and_true, reduceCtorEq, if_true, if_false, reduceIte, Nat.reduceEqDiff, Nat.reduceAdd, Nat.succ_ne_self, ne_eq, not_false_eq_true, not_true_eq_false]) (by simp only [mg_i_i, mg_i_l, mg_i_r, mg_i_b, mg_l_i, mg_l_l, mg_l_r, mg_l_b, mg_r_i, mg_r_l, mg_r_r, mg_r_b, false_and, and_false, true_and, and_true, reduceCtorEq, if_true, if_false, reduceIte, Nat.reduceEqDiff, Nat.reduceAdd, Nat.succ_ne_self, ne_eq, not_false_eq_true, not_true_eq_false]; exact g2.1) (fun q hq => by simp only [mg_i_i, mg_i_l, mg_i_r, mg_i_b, mg_l_i, mg_l_l, mg_l_r, mg_l_b, mg_r_i, mg_r_l, mg_r_r, mg_r_b, false_and, and_false, true_and, and_true, reduceCtorEq, if_true, if_false, reduceIte, Nat.reduceEqDiff, Nat.reduceAdd, Nat.succ_ne_self, ne_eq, not_false_eq_true, not_true_eq_false]; exact g2.2.2.1 q hq) (fun q hq => ?_) (by simp only [mg_i_i, mg_i_l, mg_i_r, mg_i_b, mg_l_i, mg_l_l, mg_l_r, mg_l_b, mg_r_i, mg_r_l, mg_r_r, mg_r_b, false_and, and_false, true_and, and_true, reduceCtorEq, if_true, if_false, reduceIte, Nat.reduceEqDiff, Nat.reduceAdd, Nat.succ_ne_self, ne_eq, not_false_eq_true, not_true_eq_false]) (by simp only [mg_i_i, mg_i_l, mg_i_r, mg_i_b, mg_l_i, mg_l_l, mg_l_r, mg_l_b, mg_r_i, mg_r_l, mg_r_r, mg_r_b, false_and, and_false, true_and, and_true, reduceCtorEq, if_true, if_false, reduceIte, Nat.reduceEqDiff, Nat.reduceAdd, Nat.succ_ne_self, ne_eq, not_false_eq_true, not_true_eq_false]) (by simp only [mg_i_i, mg_i_l, mg_i_r, mg_i_b, mg_l_i, mg_l_l, mg_l_r, mg_l_b, mg_r_i, mg_r_l, mg_r_r, mg_r_b, false_and, and_false, true_and, and_true, reduceCtorEq, if_true, if_false, reduceIte, Nat.reduceEqDiff, Nat.reduceAdd, Nat.succ_ne_self, ne_eq, not_false_eq_true, not_true_eq_false]) (fun q hq => absurd hq (Nat.not_lt_zero q))
      obtain ⟨e1, e2, e3, e4⟩ := hS2.2.2 q hq
      rw [hold q hq] at e2 e3 e4
      refine ⟨by simp only [mg_i_i, mg_i_l, mg_i_r, mg_i_b, mg_l_i, mg_l_l, mg_l_r, mg_l_b, mg_r_i, mg_r_l, mg_r_r, mg_r_b, false_and, and_false, true_and, and_true, reduceCtorEq, if_true, if_false, reduceIte, Nat.reduceEqDiff, Nat.reduceAdd, Nat.succ_ne_self, ne_eq, not_false_eq_true, not_true_eq_false]; rw [if_neg (by omega)]; exact e1, by simp only [mg_i_i, mg_i_l, mg_i_r, mg_i_b, mg_l_i, mg_l_l, mg_l_r, mg_l_b, mg_r_i, mg_r_l, mg_r_r, mg_r_b, false_and, and_false, true_and, and_true, reduceCtorEq, if_true, if_false, reduceIte, Nat.reduceEqDiff, Nat.reduceAdd, Nat.succ_ne_self, ne_eq, not_false_eq_true, not_true_eq_false]; rw [if_neg (by omega)]; exact e2, by simp only [mg_i_i, mg_i_l, mg_i_r, mg_i_b, mg_l_i, mg_l_l, mg_l_r, mg_l_b, mg_r_i, mg_r_l, mg_r_r, mg_r_b, false_and, and_false, true_and, and_true, reduceCtorEq, if_true, if_false, reduceIte, Nat.reduceEqDiff, Nat.reduceAdd, Nat.succ_ne_self, ne_eq, not_false_eq_true, not_true_eq_false]; rw [if_neg (by omega)]; exact e3, fun j hj => by simp only [mg_i_i, mg_i_l, mg_i_r, mg_i_b, mg_l_i, mg_l_l, mg_l_r, mg_l_b, mg_r_i, mg_r_l, mg_r_r, mg_r_b, false_and, and_false, true_and, and_true, reduceCtorEq, if_true, if_false, reduceIte, Nat.reduceEqDiff, Nat.reduceAdd, Nat.succ_ne_self, ne_eq, not_false_eq_true, not_true_eq_false]; exact e4 j hj⟩
    intro n
    induction n with
    | zero =>
      intro j G3 hj hf b1 b2 b3 b4 b5 b6 b7 b8 b9
      refine p_X13_see_80 _ _ _ _ ⟨fun _ => ?_, fun z => absurd (by rw [b3]; exact nI_le (by omega) (by omega)) z⟩
      rw [b1, nI_add, ki_sub (by omega), Nat.add_sub_cancel]
      have hf2 : fr_ (fun c k => (decide (c = 226) && (decide (k = 65) || decide (k = 66))) || (decide (268 ≤ c) && decide (c ≤ 271)) || fg_ c k) G (ms_i G3 226 65 (nI ((ps_n P).2.length + 1))) := hf.si (by simp)
      refine h _ (hM.seen hf2 ⟨?_, fun _ => by simp only [mg_i_i, mg_i_l, mg_i_r, mg_i_b, mg_l_i, mg_l_l, mg_l_r, mg_l_b, mg_r_i, mg_r_l, mg_r_r, mg_r_b, false_and, and_false, true_and, and_true, reduceCtorEq, if_true, if_false, reduceIte, Nat.reduceEqDiff, Nat.reduceAdd, Nat.succ_ne_self, ne_eq, not_false_eq_true, not_true_eq_false]; exact b2, fun q hq => ?_⟩) (hf2.mono (fun c k q => ?_))
      · show _ = nI ((ps_n P).2 ++ [(k, lo)]).length
        rw [ld_len]
        simp only [mg_i_i, mg_i_l, mg_i_r, mg_i_b, mg_l_i, mg_l_l, mg_l_r, mg_l_b, mg_r_i, mg_r_l, mg_r_r, mg_r_b, false_and, and_false, true_and, and_true, reduceCtorEq, if_true, if_false, reduceIte, Nat.reduceEqDiff, Nat.reduceAdd, Nat.succ_ne_self, ne_eq, not_false_eq_true, not_true_eq_false]
      · have hq : q < ((ps_n P).2 ++ [(k, lo)]).length := hq
        rw [ld_len] at hq
        show mg_i (ms_i G3 226 65 (nI ((ps_n P).2.length + 1))) 268 q = nI (sx_at (r, (ps_n P).2 ++ [(k, lo)]) q).1 ∧ mD_ (ms_i G3 226 65 (nI ((ps_n P).2.length + 1))) 269 270 271 q (od_ (ps_p P) (ps_t P) (ps_f P) r (sx_at (r, (ps_n P).2 ++ [(k, lo)]) q).2 (sx_at (r, (ps_n P).2 ++ [(k, lo)]) q).1)
        unfold mD_
        simp only [mg_i_i, mg_i_l, mg_i_r, mg_i_b, mg_l_i, mg_l_l, mg_l_r, mg_l_b, mg_r_i, mg_r_l, mg_r_r, mg_r_b, false_and, and_false, true_and, and_true, reduceCtorEq, if_true, if_false, reduceIte, Nat.reduceEqDiff, Nat.reduceAdd, Nat.succ_ne_self, ne_eq, not_false_eq_true, not_true_eq_false]
        rcases Nat.lt_succ_iff_lt_or_eq.mp hq with z | z
        · rw [sx_app _ _ _ _ z]
          exact b5 q z
        · rw [z, sx_app']
          exact ⟨b6, b7, b8, fun w hw => b9 w (by have : w < (rs_o (rr_ (ps_p P) (ps_t P) (ps_f P) r lo k).1).length := hw; omega)⟩
      · have q2 := fM_F (c := c) (k := k)
        rcases Nat.lt_or_ge c 226 with z | z
        · simp [fg_F (c := c) (k := k) (by omega)]; omega
        · rcases Nat.lt_or_ge c 285 with z2 | z2
          · unfold fM_ at q; simp at q; omega
          · simp [fg_F (c := c) (k := k) (by omega)]; omega
    | succ n ih =>
      intro j G3 hj hf b1 b2 b3 b4 b5 b6 b7 b8 b9
      refine p_X13_see_80 _ _ _ _ ⟨fun z => absurd z (by rw [b3]; exact nI_ge (by omega) (by omega)), fun _ => ?_⟩
      rw [b1, ki_mul, nI_add, nI_add, nI_clamp (by omega), nI_clamp (by omega), b4 j (by omega)]
      refine ⟨(ki_vp (by omega)).2 (by omega), (ki_vp (by omega)).2 (by omega), ih (j + 1) _ (by omega) (hf.si (by simp)) (by simp only [mg_i_i, mg_i_l, mg_i_r, mg_i_b, mg_l_i, mg_l_l, mg_l_r, mg_l_b, mg_r_i, mg_r_l, mg_r_r, mg_r_b, false_and, and_false, true_and, and_true, reduceCtorEq, if_true, if_false, reduceIte, Nat.reduceEqDiff, Nat.reduceAdd, Nat.succ_ne_self, ne_eq, not_false_eq_true, not_true_eq_false]; exact b1) (by simp only [mg_i_i, mg_i_l, mg_i_r, mg_i_b, mg_l_i, mg_l_l, mg_l_r, mg_l_b, mg_r_i, mg_r_l, mg_r_r, mg_r_b, false_and, and_false, true_and, and_true, reduceCtorEq, if_true, if_false, reduceIte, Nat.reduceEqDiff, Nat.reduceAdd, Nat.succ_ne_self, ne_eq, not_false_eq_true, not_true_eq_false]; exact b2) (by simp only [mg_i_i, mg_i_l, mg_i_r, mg_i_b, mg_l_i, mg_l_l, mg_l_r, mg_l_b, mg_r_i, mg_r_l, mg_r_r, mg_r_b, false_and, and_false, true_and, and_true, reduceCtorEq, if_true, if_false, reduceIte, Nat.reduceEqDiff, Nat.reduceAdd, Nat.succ_ne_self, ne_eq, not_false_eq_true, not_true_eq_false]; exact b3) (fun q hq => by simp only [mg_i_i, mg_i_l, mg_i_r, mg_i_b, mg_l_i, mg_l_l, mg_l_r, mg_l_b, mg_r_i, mg_r_l, mg_r_r, mg_r_b, false_and, and_false, true_and, and_true, reduceCtorEq, if_true, if_false, reduceIte, Nat.reduceEqDiff, Nat.reduceAdd, Nat.succ_ne_self, ne_eq, not_false_eq_true, not_true_eq_false]; exact b4 q hq) (fun q hq => ?_) (by simp only [mg_i_i, mg_i_l, mg_i_r, mg_i_b, mg_l_i, mg_l_l, mg_l_r, mg_l_b, mg_r_i, mg_r_l, mg_r_r, mg_r_b, false_and, and_false, true_and, and_true, reduceCtorEq, if_true, if_false, reduceIte, Nat.reduceEqDiff, Nat.reduceAdd, Nat.succ_ne_self, ne_eq, not_false_eq_true, not_true_eq_false]; exact b6) (by simp only [mg_i_i, mg_i_l, mg_i_r, mg_i_b, mg_l_i, mg_l_l, mg_l_r, mg_l_b, mg_r_i, mg_r_l, mg_r_r, mg_r_b, false_and, and_false, true_and, and_true, reduceCtorEq, if_true, if_false, reduceIte, Nat.reduceEqDiff, Nat.reduceAdd, Nat.succ_ne_self, ne_eq, not_false_eq_true, not_true_eq_false]; exact b7) (by simp only [mg_i_i, mg_i_l, mg_i_r, mg_i_b, mg_l_i, mg_l_l, mg_l_r, mg_l_b, mg_r_i, mg_r_l, mg_r_r, mg_r_b, false_and, and_false, true_and, and_true, reduceCtorEq, if_true, if_false, reduceIte, Nat.reduceEqDiff, Nat.reduceAdd, Nat.succ_ne_self, ne_eq, not_false_eq_true, not_true_eq_false]; exact b8) (fun q hq => ?_)⟩
      · obtain ⟨e1, e2, e3, e4⟩ := b5 q hq
        have hsq := hP.2.2.2.1.2.2 q hq
        refine ⟨by simp only [mg_i_i, mg_i_l, mg_i_r, mg_i_b, mg_l_i, mg_l_l, mg_l_r, mg_l_b, mg_r_i, mg_r_l, mg_r_r, mg_r_b, false_and, and_false, true_and, and_true, reduceCtorEq, if_true, if_false, reduceIte, Nat.reduceEqDiff, Nat.reduceAdd, Nat.succ_ne_self, ne_eq, not_false_eq_true, not_true_eq_false]; exact e1, by simp only [mg_i_i, mg_i_l, mg_i_r, mg_i_b, mg_l_i, mg_l_l, mg_l_r, mg_l_b, mg_r_i, mg_r_l, mg_r_r, mg_r_b, false_and, and_false, true_and, and_true, reduceCtorEq, if_true, if_false, reduceIte, Nat.reduceEqDiff, Nat.reduceAdd, Nat.succ_ne_self, ne_eq, not_false_eq_true, not_true_eq_false]; exact e2, by simp only [mg_i_i, mg_i_l, mg_i_r, mg_i_b, mg_l_i, mg_l_l, mg_l_r, mg_l_b, mg_r_i, mg_r_l, mg_r_r, mg_r_b, false_and, and_false, true_and, and_true, reduceCtorEq, if_true, if_false, reduceIte, Nat.reduceEqDiff, Nat.reduceAdd, Nat.succ_ne_self, ne_eq, not_false_eq_true, not_true_eq_false]; exact e3, fun w hw => ?_⟩
        have hre : (ps_n P).1 = r := by
          by_cases y : (ps_n P).1 = r
          · exact y
          · exact absurd ⟨by omega, y⟩ cz
        rw [hre] at hsq
        obtain ⟨o8q, -⟩ := rr_ok (k := (sx_at (ps_n P) q).1) hP hr (lo_lt hP hsq.2)
        have hw8 : w < 8 := Nat.lt_of_lt_of_le hw o8q
        simp only [mg_i_i, mg_i_l, mg_i_r, mg_i_b, mg_l_i, mg_l_l, mg_l_r, mg_l_b, mg_r_i, mg_r_l, mg_r_r, mg_r_b, false_and, and_false, true_and, and_true, reduceCtorEq, if_true, if_false, reduceIte, Nat.reduceEqDiff, Nat.reduceAdd, Nat.succ_ne_self, ne_eq, not_false_eq_true, not_true_eq_false]
        rw [if_neg (by omega)]
        exact e4 w hw
      · simp only [mg_i_i, mg_i_l, mg_i_r, mg_i_b, mg_l_i, mg_l_l, mg_l_r, mg_l_b, mg_r_i, mg_r_l, mg_r_r, mg_r_b, false_and, and_false, true_and, and_true, reduceCtorEq, if_true, if_false, reduceIte, Nat.reduceEqDiff, Nat.reduceAdd, Nat.succ_ne_self, ne_eq, not_false_eq_true, not_true_eq_false]
        split
        · rename_i z; rw [show q = j by omega]
        · exact b9 q (by omega)
  refine e_X13_see _ _ _ ?_
  rw [hS.1, nI_eq (by omega) (by omega)]
  refine ⟨fun c1 => hbad (Or.inl c1) G fr_.rfl', fun c1 => ⟨fun c2 => ?_, fun c2 => ⟨fun c3 => ?_, fun c3 => ?_⟩⟩⟩
  · rw [ki_0, nI_leI (by omega) (by omega)] at c2
    exact hgo c1 (fun r lo k _ y => by omega)
  · rw [ki_0, nI_leI (by omega) (by omega)] at c2
    rw [hS.2.1 (by omega)] at c3
    cases e : ix3_ P a b c with
    | none => exact hbad (Or.inr (Or.inl e)) G fr_.rfl'
    | some x =>
      obtain ⟨r, lo, k⟩ := x
      obtain ⟨i1, i2, -⟩ := ix3_is hP e
      exact hbad (Or.inr (Or.inr ⟨r, lo, k, e, by omega, fun y => c3 (by rw [y, i2])⟩)) G fr_.rfl'
  · rw [ki_0, nI_leI (by omega) (by omega)] at c2
    rw [hS.2.1 (by omega)] at c3
    refine hgo c1 (fun r lo k e y => ?_)
    obtain ⟨i1, i2, -⟩ := ix3_is hP e
    have hr4 := (hP.2.2.2.1.2.1 (by omega))
    rw [i2, nI_eq (by omega) (by omega)] at c3
    exact y.2 c3
