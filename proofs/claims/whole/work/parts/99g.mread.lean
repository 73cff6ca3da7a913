/-! reading: the reference's notes and numbers -/
theorem t_wrong {l : Launch} {κ : mm_K} {d : Nat} {G : mm_G} {K : mm_G → Prop} {tb : tb_T} {nt : Option Nat} {t j k : Nat} (hT : tg_ tb) (hj : j ≤ 400) (ho : okt_ tb j) (hk : kf_ tb j = k) (hS : mP_ G tb nt t) (h : ∀ G', mP_ G' tb (nn_ nt j) t → fr_ fmr_ G G' → K G') : mC l κ true d 0 0 m_X13_wrong [.ref 226, .int (nI k), .int (nI j)] G (rV K) := by
  obtain ⟨a1, a2, a3, a4, a5, a6, a7⟩ := id hS
  have hp := (hT.1 j hj ho).2.1
  have e230 : mg_i G 230 j = nI (tkp_ tb j) := (a5 j hj ho).2.1
  refine e_X13_wrong _ _ ?_
  rw [nI_clamp (by omega), e230, a4]
  have hset : mP_ (ms_i (ms_i G 226 15 (nI k)) 226 16 (nI (tkp_ tb j))) tb (some j) t := by
    refine ⟨a1, a2, by simp only [mg_i_i, mg_i_l, mg_i_r, mg_i_b, mg_l_i, mg_l_l, mg_l_r, mg_l_b, mg_r_i, mg_r_l, mg_r_r, mg_r_b, false_and, and_false, true_and, and_true, reduceCtorEq, if_true, if_false, reduceIte, Nat.reduceEqDiff, Nat.reduceAdd, Nat.succ_ne_self, ne_eq, not_false_eq_true, not_true_eq_false]; exact a3, by simp only [mg_i_i, mg_i_l, mg_i_r, mg_i_b, mg_l_i, mg_l_l, mg_l_r, mg_l_b, mg_r_i, mg_r_l, mg_r_r, mg_r_b, false_and, and_false, true_and, and_true, reduceCtorEq, if_true, if_false, reduceIte, Nat.reduceEqDiff, Nat.reduceAdd, Nat.succ_ne_self, ne_eq, not_false_eq_true, not_true_eq_false]; exact a4, fun i hi h => by simp only [mg_i_i, mg_i_l, mg_i_r, mg_i_b, mg_l_i, mg_l_l, mg_l_r, mg_l_b, mg_r_i, mg_r_l, mg_r_r, mg_r_b, false_and, and_false, true_and, and_true, reduceCtorEq, if_true, if_false, reduceIte, Nat.reduceEqDiff, Nat.reduceAdd, Nat.succ_ne_self, ne_eq, not_false_eq_true, not_true_eq_false]; exact a5 i hi h, fun q => (by cases q), fun i q => ?_⟩
    cases q
    exact ⟨by simp only [mg_i_i, mg_i_l, mg_i_r, mg_i_b, mg_l_i, mg_l_l, mg_l_r, mg_l_b, mg_r_i, mg_r_l, mg_r_r, mg_r_b, false_and, and_false, true_and, and_true, reduceCtorEq, if_true, if_false, reduceIte, Nat.reduceEqDiff, Nat.reduceAdd, Nat.succ_ne_self, ne_eq, not_false_eq_true, not_true_eq_false]; rw [hk], by simp only [mg_i_i, mg_i_l, mg_i_r, mg_i_b, mg_l_i, mg_l_l, mg_l_r, mg_l_b, mg_r_i, mg_r_l, mg_r_r, mg_r_b, false_and, and_false, true_and, and_true, reduceCtorEq, if_true, if_false, reduceIte, Nat.reduceEqDiff, Nat.reduceAdd, Nat.succ_ne_self, ne_eq, not_false_eq_true, not_true_eq_false], hj, ho⟩
  have f1 : fr_ fmr_ G (ms_i (ms_i G 226 15 (nI k)) 226 16 (nI (tkp_ tb j))) := (fr_.rfl'.si (by decide)).si (by decide)
  refine ⟨(ki_vp (by omega)).2 (by omega), fun y => absurd y (by decide), fun _ => ?_⟩
  cases nt with
  | none =>
    rw [a6 rfl]
    exact ⟨fun _ => h _ hset f1, fun y => absurd (by decide) y⟩
  | some i =>
    obtain ⟨b1, b2, b3, b4⟩ := a7 i rfl
    have hpi := (hT.1 i b3 b4).2.1
    have hkf := kf_le (tb := tb) (j := i)
    have hkj := kf_le (tb := tb) (j := j)
    rw [b1, b2, ki_0, nI_eq (b := 0) (by omega) (by omega), nI_ltI (by omega) (by omega), nI_eq (by omega) (by omega), nI_ltI (by omega) (by omega)]
    have hkeep : ¬ j < i → K G := fun hn => by
      have e : nn_ (some i) j = some i := if_neg hn
      rw [e] at h
      exact h G hS fr_.rfl'
    have hnew : j < i → K (ms_i (ms_i G 226 15 (nI k)) 226 16 (nI (tkp_ tb j))) := fun hn => by
      have e : nn_ (some i) j = some j := if_pos hn
      rw [e] at h
      exact h _ hset f1
    have hmono : tkp_ tb j < tkp_ tb i ↔ j < i := by
      constructor
      · intro q
        rcases Nat.lt_trichotomy j i with z | z | z
        · exact z
        · subst z; omega
        · have := hT.2 i j z hj ho; omega
      · intro q; exact hT.2 j i q b3 b4
    have hsame : tkp_ tb j = tkp_ tb i → j = i := fun q => by
      rcases Nat.lt_trichotomy j i with z | z | z
      · have := hT.2 j i z b3 b4; omega
      · exact z
      · have := hT.2 i j z hj ho; omega
    refine ⟨fun y => by omega, fun _ => ⟨fun y => hkeep (fun q => by have := hmono.2 q; omega), fun y => ⟨fun z => hnew (hmono.1 (by omega)), fun z => ⟨fun w => ?_, fun w => hkeep (fun q => by have := hmono.2 q; omega)⟩⟩⟩⟩
    have e := hsame z
    subst e
    omega
theorem t_room {l : Launch} {κ : mm_K} {d : Nat} {G : mm_G} {K : mm_G → Prop} {tb : tb_T} {nt : Option Nat} {t a b : Nat} (ha : a < 100) (hb : b < 100) (hS : mP_ G tb nt t) (h1 : a ≠ b → K G) (h0 : ∀ G', a = b → mF_ G' tb (2, t) → fr_ fmr_ G G' → K G') : mC l κ true (d + 1) 0 0 m_X13_room [.ref 226, .int (nI a), .int (nI b)] G (rV K) := by
  refine e_X13_room _ _ ?_
  rw [nI_eq (by omega) (by omega)]
  exact ⟨h1, fun y => t_fail (Or.inr rfl) hS (fun G2 f2 g2 => h0 G2 y f2 g2)⟩
theorem t_signed {l : Launch} {κ : mm_K} {d : Nat} {G : mm_G} {K : Int32 → mm_G → Prop} {tb : tb_T} {nt : Option Nat} {t : Nat} (hT : tg_ tb) (hS : mP_ G tb nt t)
    (h1 : ∀ G' x t', nu_ tb t = .inr (x, t') → mP_ G' tb nt t' → t < t' → fr_ fmr_ G G' → K x G') (h0 : ∀ G' e x, nu_ tb t = .inl e → mF_ G' tb e → fr_ fmr_ G G' → K x G') : mC l κ true (d + 2) 0 0 m_X13_signed [.ref 226] G (rI K) := by
  have e5 : nI 5 = nI (mkk_ 8) := rfl
  have e2 : nI 2 = nI (mkk_ 3) := rfl
  refine e_X13_signed ?_
  rw [e5]
  refine t_is hT (by omega) hS ?_
  by_cases c : tkk_ tb t = 8
  · rw [if_pos c]
    refine ⟨fun y => absurd y (by decide), fun _ => t_goesOn (by omega) hS (fun G2 a2 p2 f2 => ?_) (fun G2 e a2 p2 f2 => ?_)⟩
    · rw [c] at a2
      obtain ⟨q3, q1, q4, q5, q6, q7⟩ := p2.rd
      rw [e2]
      refine t_is hT (by omega) p2 ?_
      by_cases c2 : tkk_ tb (t + 1) = 3
      · rw [if_pos c2]
        refine ⟨fun _ => ⟨fun _ => ?_, fun y => absurd (by rw [p2.2.2.2.1]; decide) y⟩, fun y => absurd y (by decide)⟩
        rw [q3, nI_clamp (by omega), q6 c2]
        refine ⟨(ki_vp (by omega)).2 (by omega), t_goesOn (by omega) p2 (fun G3 a3 p3 f3 => ⟨fun y => absurd y (by decide), fun _ => ?_⟩) (fun G3 e a3 p3 f3 => ⟨fun y => absurd y (by decide), fun _ => ?_⟩)⟩
        · rw [c2] at a3
          exact h1 G3 _ _ (by unfold nu_; rw [if_pos c, bd_r _ a2, bd_r _ a3]) p3 (by omega) (f2.trans f3)
        · rw [c2] at a3
          exact h0 G3 e _ (by unfold nu_; rw [if_pos c, bd_r _ a2, bd_l _ a3]) p3 (f2.trans f3)
      · rw [if_neg c2]
        refine ⟨fun y => absurd (by decide) y, fun _ => t_fail (Or.inl rfl) p2 (fun G3 f3 g3 => ⟨fun y => absurd y f3.ne.2.1, fun _ => h0 G3 (1, t + 1) _ (by unfold nu_; rw [if_pos c, bd_r _ a2]; unfold ac_; rw [if_neg c2]; rfl) f3 (f2.trans g3)⟩)⟩
    · rw [c] at a2
      refine t_isF _ p2 ⟨fun y => absurd (by decide) y, fun _ => t_failF _ p2 ⟨fun y => absurd y p2.ne.2.1, fun _ => h0 G2 e _ (by unfold nu_; rw [if_pos c, bd_l _ a2]) p2 f2⟩⟩
  · rw [if_neg c]
    refine ⟨fun _ => ?_, fun y => absurd (by decide) y⟩
    obtain ⟨q3, q1, q4, q5, q6, q7⟩ := hS.rd
    rw [e2]
    refine t_is hT (by omega) hS ?_
    by_cases c2 : tkk_ tb t = 3
    · rw [if_pos c2]
      refine ⟨fun _ => ⟨fun _ => ?_, fun y => absurd (by rw [hS.2.2.2.1]; decide) y⟩, fun y => absurd y (by decide)⟩
      rw [q3, nI_clamp (by omega), q6 c2]
      refine ⟨(ki_vp (by omega)).2 (by omega), t_goesOn (by omega) hS (fun G3 a3 p3 f3 => ⟨fun _ => ?_, fun y => absurd (by decide) y⟩) (fun G3 e a3 p3 f3 => ⟨fun _ => ?_, fun y => absurd (by decide) y⟩)⟩
      · rw [c2] at a3
        exact h1 G3 _ _ (by unfold nu_; rw [if_neg c, bd_r _ a3]) p3 (by omega) f3
      · rw [c2] at a3
        exact h0 G3 e _ (by unfold nu_; rw [if_neg c, bd_l _ a3]) p3 f3
    · rw [if_neg c2]
      refine ⟨fun y => absurd (by decide) y, fun _ => t_fail (Or.inl rfl) hS (fun G3 f3 g3 => ⟨fun y => absurd y f3.ne.2.1, fun _ => h0 G3 (1, t) _ (by unfold nu_; rw [if_neg c]; unfold ac_; rw [if_neg c2]; rfl) f3 g3⟩)⟩
