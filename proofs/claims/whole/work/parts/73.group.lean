/-! suspicion: a trial is grouped -/
theorem gU_.tr {G G1 : mm_G} {P : ps_T} {r n t z : Nat} (hP : ps_ok P) (hr : r < (ps_p P).length) (hz : z ≤ (sL_ P r n).length) (h : gU_ G P r n t z) (e8 : ∀ c, c < z → mg_i G1 178 (8 * c + t) = mg_i G 178 (8 * c + t)) (e9 : ∀ c, c < z → ∀ k, 10 * (8 * c + t) ≤ k → k < 10 * (8 * c + t) + 10 → mg_i G1 179 k = mg_i G 179 k) : gU_ G1 P r n t z := by
  intro c hc
  obtain ⟨h1, h2⟩ := h c hc
  refine ⟨by rw [e8 c hc]; exact h1, fun e => ?_⟩
  obtain ⟨r1, r2, r3⟩ := h2 e
  obtain ⟨d1, d2, d3⟩ := sD_ok (t := t) hP hr (show c < (sL_ P r n).length by omega)
  exact ⟨by rw [e9 c hc _ (by omega) (by omega)]; exact r1, by rw [e9 c hc _ (by omega) (by omega)]; exact r2, fun j hj => by rw [e9 c hc _ (by omega) (by omega)]; exact r3 j hj⟩
theorem kU_.tr {G G1 : mm_G} {P : ps_T} {r n : Nat} (t : Nat) (hP : ps_ok P) (hr : r < (ps_p P).length) (h : kU_ G P r n) (e5 : ∀ k, k ≠ 11 → mg_i G1 175 k = mg_i G 175 k) (e6 : ∀ i, mg_i G1 176 i = mg_i G 176 i) (e0 : ∀ u, u ≠ t → mg_i G1 180 u = mg_i G 180 u) (e8 : ∀ u, u < 8 → u ≠ t → ∀ c, mg_i G1 178 (8 * c + u) = mg_i G 178 (8 * c + u)) (e9 : ∀ u, u < 8 → u ≠ t → ∀ c k, 10 * (8 * c + u) ≤ k → k < 10 * (8 * c + u) + 10 → mg_i G1 179 k = mg_i G 179 k) (ht : t < 8 → mg_i G1 180 t = nI 0 ∨ (mg_i G1 180 t = nI 1 ∧ gU_ G1 P r n t (sL_ P r n).length)) : kU_ G1 P r n := by
  obtain ⟨h1, h2, h3, h4, h5⟩ := h
  refine ⟨by rw [e5 _ (by omega)]; exact h1, by rw [e5 _ (by omega)]; exact h2, by rw [e5 _ (by omega)]; exact h3, fun i hi => by rw [e6]; exact h4 i hi, fun u hu => ?_⟩
  by_cases c : u = t
  · subst c; exact ht hu
  · rcases h5 u hu with y | ⟨y, y2⟩
    · left; rw [e0 u c]; exact y
    · right
      exact ⟨by rw [e0 u c]; exact y, y2.tr hP hr (Nat.le_refl _) (fun c' _ => e8 u hu c c') (fun c' _ k k1 k2 => e9 u hu c c' k k1 k2)⟩
theorem kU_.fr {S : Nat → Nat → Bool} {G G1 : mm_G} {P : ps_T} {r n : Nat} (hP : ps_ok P) (hr : r < (ps_p P).length) (h : kU_ G P r n) (hf : fr_ S G G1) (h5 : ∀ k, k ≠ 11 → S 175 k = false) (hS : ∀ c k, c = 176 ∨ c = 178 ∨ c = 179 ∨ c = 180 → S c k = false) : kU_ G1 P r n := by
  refine h.tr 8 hP hr (fun k hk => hf.i _ _ (h5 k hk)) (fun i => hf.i _ _ (hS _ _ (by omega))) (fun u _ => hf.i _ _ (hS _ _ (by omega))) (fun u _ _ c => hf.i _ _ (hS _ _ (by omega))) (fun u _ _ c k _ _ => hf.i _ _ (hS _ _ (by omega))) (fun q => absurd q (Nat.lt_irrefl 8))
def fG_ (c k : Nat) : Bool := fc_ c k || (decide (178 ≤ c) && decide (c ≤ 180))
theorem fG_F {c k : Nat} (h : (c < 91 ∨ 97 < c) ∧ (c < 178 ∨ 180 < c)) : fG_ c k = false := by
  unfold fG_
  rw [fc_F h.1]
  rcases h.2 with z | z
  · rw [decide_eq_false (p := 178 ≤ c) (by omega)]; rfl
  · rw [decide_eq_false (p := c ≤ 180) (by omega), Bool.and_false]; rfl
theorem fG_T {c k : Nat} (h : 178 ≤ c ∧ c ≤ 180) : fG_ c k = true := by
  unfold fG_
  rw [decide_eq_true h.1, decide_eq_true h.2, Bool.and_true, Bool.or_true]
theorem fG_on {c k : Nat} (h : rgB c k = true) : fG_ c k = false := fG_F (by have := rgB_iff.1 h; omega)
theorem cB_.fG {G G1 : mm_G} {P : ps_T} (h : cB_ G P) (hP : ps_ok P) (hf : fr_ fG_ G G1) : cB_ G1 P := h.on hP (hf.on (fun c k q => fG_on q)) (by rw [hf.1]; exact Nat.le_refl _)
theorem fr_.cG {G G1 : mm_G} (h : fr_ fc_ G G1) : fr_ fG_ G G1 := h.mono (fun c k q => by unfold fG_ at q; exact (Bool.or_eq_false_iff.1 q).1)
theorem fr_.WG {G G1 : mm_G} {a : Nat} (h : fr_ (fW_ a) G G1) : fr_ fG_ G G1 := h.mono (fun c k q => fW_F (by
  by_cases z : 178 ≤ c ∧ c ≤ 180
  · rw [fG_T z] at q; cases q
  · omega))
theorem s_group {l : Launch} {κ : mm_K} {d : Nat} {G : mm_G} {K : mm_G → Prop} {P : ps_T} {r n t : Nat} (hP : ps_ok P) (hC : cB_ G P) (hr : r < (ps_p P).length) (hn : n ≤ 2) (hk : kU_ G P r n) (ht : t < (ps_t P).length)
    (h : ∀ G', kU_ G' P r n → gU_ G' P r n t (sL_ P r n).length → mg_i G' 180 t = nI 1 → fr_ fG_ G G' → K G') : mC l κ true (d + 3) 0 0 m_X9_group [.ref 175, .int (nI t)] G (rV K) := by
  have hp := hP.1.1
  have ht8 := hP.2.1.1
  have h120 : (sL_ P r n).length ≤ 120 := su_120 (hP.1.2.2 r) hn
  refine e_X9_group _ ?_
  rw [nI_clamp (by omega)]
  refine ⟨(ki_vp (by omega)).2 (by omega), fun y => ?_, fun y => ?_⟩
  · suffices H : ∀ w c G1, c + w = (sL_ P r n).length → fr_ fG_ G G1 → kU_ G1 P r n → mg_i G1 180 t = nI 0 → gU_ G1 P r n t c → mV l κ true (d + 3) 0 0 m_X9_group 12 [some (.ref 175), some (.int (nI t)), some (.int (nI c)), none] [] G1 (rV K) from
      H _ 0 G (Nat.zero_add _) fr_.rfl' hk (y.trans (by decide)) (fun c hc => absurd hc (Nat.not_lt_zero c))
    intro w
    induction w with
    | zero =>
      intro c G1 hc f1 k1 e1 g1
      obtain rfl : c = (sL_ P r n).length := by omega
      refine p_X9_group_12 _ _ ?_
      rw [k1.2.2.1, nI_clamp (by omega), show vp_nar .boolean (nI 1) = nI 1 by decide +kernel]
      refine ⟨fun _ => ⟨(ki_vp (by omega)).2 (by omega), ?_⟩, fun z => absurd (nI_le (by omega) (by omega)) z⟩
      have g2 : gU_ (ms_i G1 180 t (nI 1)) P r n t (sL_ P r n).length := g1.tr hP hr (Nat.le_refl _) (fun c _ => by simp only [mg_i_i, mg_i_l, mg_i_r, mg_i_b, mg_l_i, mg_l_l, mg_l_r, mg_l_b, mg_r_i, mg_r_l, mg_r_r, mg_r_b, false_and, and_false, true_and, and_true, reduceCtorEq, if_true, if_false, reduceIte, Nat.reduceEqDiff, Nat.reduceAdd, Nat.succ_ne_self, ne_eq, not_false_eq_true, not_true_eq_false]) (fun c _ k _ _ => by simp only [mg_i_i, mg_i_l, mg_i_r, mg_i_b, mg_l_i, mg_l_l, mg_l_r, mg_l_b, mg_r_i, mg_r_l, mg_r_r, mg_r_b, false_and, and_false, true_and, and_true, reduceCtorEq, if_true, if_false, reduceIte, Nat.reduceEqDiff, Nat.reduceAdd, Nat.succ_ne_self, ne_eq, not_false_eq_true, not_true_eq_false])
      have k2 : kU_ (ms_i G1 180 t (nI 1)) P r n := k1.tr t hP hr (fun k _ => by simp only [mg_i_i, mg_i_l, mg_i_r, mg_i_b, mg_l_i, mg_l_l, mg_l_r, mg_l_b, mg_r_i, mg_r_l, mg_r_r, mg_r_b, false_and, and_false, true_and, and_true, reduceCtorEq, if_true, if_false, reduceIte, Nat.reduceEqDiff, Nat.reduceAdd, Nat.succ_ne_self, ne_eq, not_false_eq_true, not_true_eq_false]) (fun i => by simp only [mg_i_i, mg_i_l, mg_i_r, mg_i_b, mg_l_i, mg_l_l, mg_l_r, mg_l_b, mg_r_i, mg_r_l, mg_r_r, mg_r_b, false_and, and_false, true_and, and_true, reduceCtorEq, if_true, if_false, reduceIte, Nat.reduceEqDiff, Nat.reduceAdd, Nat.succ_ne_self, ne_eq, not_false_eq_true, not_true_eq_false]) (fun u hu => by simp only [mg_i_i, mg_i_l, mg_i_r, mg_i_b, mg_l_i, mg_l_l, mg_l_r, mg_l_b, mg_r_i, mg_r_l, mg_r_r, mg_r_b, false_and, and_false, true_and, and_true, reduceCtorEq, if_true, if_false, reduceIte, Nat.reduceEqDiff, Nat.reduceAdd, Nat.succ_ne_self, ne_eq, not_false_eq_true, not_true_eq_false]; rw [if_neg hu]) (fun u _ _ c => by simp only [mg_i_i, mg_i_l, mg_i_r, mg_i_b, mg_l_i, mg_l_l, mg_l_r, mg_l_b, mg_r_i, mg_r_l, mg_r_r, mg_r_b, false_and, and_false, true_and, and_true, reduceCtorEq, if_true, if_false, reduceIte, Nat.reduceEqDiff, Nat.reduceAdd, Nat.succ_ne_self, ne_eq, not_false_eq_true, not_true_eq_false]) (fun u _ _ c k _ _ => by simp only [mg_i_i, mg_i_l, mg_i_r, mg_i_b, mg_l_i, mg_l_l, mg_l_r, mg_l_b, mg_r_i, mg_r_l, mg_r_r, mg_r_b, false_and, and_false, true_and, and_true, reduceCtorEq, if_true, if_false, reduceIte, Nat.reduceEqDiff, Nat.reduceAdd, Nat.succ_ne_self, ne_eq, not_false_eq_true, not_true_eq_false]) (fun _ => Or.inr ⟨by simp only [mg_i_i, mg_i_l, mg_i_r, mg_i_b, mg_l_i, mg_l_l, mg_l_r, mg_l_b, mg_r_i, mg_r_l, mg_r_r, mg_r_b, false_and, and_false, true_and, and_true, reduceCtorEq, if_true, if_false, reduceIte, Nat.reduceEqDiff, Nat.reduceAdd, Nat.succ_ne_self, ne_eq, not_false_eq_true, not_true_eq_false], g2⟩)
      exact h _ k2 g2 (by simp only [mg_i_i, mg_i_l, mg_i_r, mg_i_b, mg_l_i, mg_l_l, mg_l_r, mg_l_b, mg_r_i, mg_r_l, mg_r_r, mg_r_b, false_and, and_false, true_and, and_true, reduceCtorEq, if_true, if_false, reduceIte, Nat.reduceEqDiff, Nat.reduceAdd, Nat.succ_ne_self, ne_eq, not_false_eq_true, not_true_eq_false]) (f1.si (fG_T (by omega)))
    | succ w ih =>
      intro c G1 hc f1 k1 e1 g1
      obtain ⟨d1, d2, d3⟩ := sD_ok (t := t) hP hr (show c < (sL_ P r n).length by omega)
      have hgle : gr_ P r n t c ≤ c := fa_first_le _ _
      -- one set more
      have hnext : ∀ G2 G3, fr_ fG_ G G2 → kU_ G2 P r n → mg_i G2 180 t = nI 0 → gU_ G2 P r n t c → fr_ (fW_ (8 * c + t)) G2 G3 → mg_i G3 178 (8 * c + t) = nI (gr_ P r n t c) → (gr_ P r n t c = c → rc_d G3 (8 * c + t) (sD_ P r n c t)) → mV l κ true (d + 3) 0 0 m_X9_group 12 [some (.ref 175), some (.int (nI t)), some (.int (nI (c + 1))), none] [] G3 (rV K) := by
        intro G2 G3 f2 k2 e2 g2 fw w1 w2
        have e3 : mg_i G3 180 t = nI 0 := by rw [fw.i _ _ (fW_F (by omega))]; exact e2
        refine ih (c + 1) G3 (by omega) (f2.trans fw.WG) ?_ e3 (fun c' hc' => ?_)
        · exact k2.tr t hP hr (fun k _ => fw.i _ _ (fW_F (by omega))) (fun i => fw.i _ _ (fW_F (by omega))) (fun u _ => fw.i _ _ (fW_F (by omega))) (fun u hu hut c' => fw.i _ _ (fW_F (by omega))) (fun u hu hut c' k _ _ => fw.i _ _ (fW_F (by omega))) (fun _ => Or.inl e3)
        · rcases Nat.lt_succ_iff_lt_or_eq.mp hc' with z | z
          · exact (g2.tr hP hr (show c ≤ _ by omega) (fun c'' h'' => fw.i _ _ (fW_F (by omega))) (fun c'' h'' k _ _ => fw.i _ _ (fW_F (by omega)))) c' z
          · subst z; exact ⟨w1, w2⟩
      refine p_X9_group_12 _ _ ?_
      rw [k1.1, k1.2.2.1, nI_clamp (by omega), nI_clamp (by omega), nI_clamp (by omega), k1.2.2.2.1 c (by omega)]
      refine ⟨fun z => absurd z (nI_ge (by omega) (by omega)), fun _ => ⟨(ki_vp (by omega)).2 (by omega), (ki_vp (by omega)).2 (by omega), s_run0 hP (hC.fG hP f1) hr d3 ht (fun G2 c2 f2 s2 => ?_)⟩⟩
      have hd2 : dd_ G2 (sD_ P r n c t) := ⟨s2, c2.cd d2, d1⟩
      have k2 : kU_ G2 P r n := k1.fr hP hr f2 (fun k _ => fc_F (by omega)) (fun c k hc => fc_F (by omega))
      have e2 : mg_i G2 180 t = nI 0 := by rw [f2.i _ _ (fc_F (by omega))]; exact e1
      have g2 : gU_ G2 P r n t c := g1.tr hP hr (by omega) (fun c _ => f2.i _ _ (fc_F (by omega))) (fun c _ k _ _ => f2.i _ _ (fc_F (by omega)))
      have f12 := f1.trans f2.cG
      refine s_groupOf hP hr hn (by omega) (by omega) g2 hd2 ?_
      have egf : gf_ P r n t (sD_ P r n c t) c = gr_ P r n t c := rfl
      rw [egf, ki_mul, nI_add, nI_add, nI_clamp (by omega), show c * 8 + t = 8 * c + t by omega]
      by_cases cg : gr_ P r n t c < c
      · rw [if_pos cg]
        refine ⟨fun _ => ⟨(ki_vp (by omega)).2 (by omega), ?_⟩, fun z => absurd (by rw [ki_0, nI_leI (by omega) (by omega)]; omega) z⟩
        exact hnext G2 _ f12 k2 e2 g2 (fr_.rfl'.si (fW_T (Or.inl ⟨rfl, rfl⟩))) (by simp only [mg_i_i, mg_i_l, mg_i_r, mg_i_b, mg_l_i, mg_l_l, mg_l_r, mg_l_b, mg_r_i, mg_r_l, mg_r_r, mg_r_b, false_and, and_false, true_and, and_true, reduceCtorEq, if_true, if_false, reduceIte, Nat.reduceEqDiff, Nat.reduceAdd, Nat.succ_ne_self, ne_eq, not_false_eq_true, not_true_eq_false]) (fun e => absurd e (by omega))
      · rw [if_neg cg]
        refine ⟨fun z => absurd z (by decide), fun _ => s_keepDeed (by omega) (by omega) hd2 (fun G3 r3 f3 => ⟨(ki_vp (by omega)).2 (by omega), ?_⟩)⟩
        have ec : gr_ P r n t c = c := by omega
        refine hnext G2 _ f12 k2 e2 g2 (f3.si (fW_T (Or.inl ⟨rfl, rfl⟩))) (by simp only [mg_i_i, mg_i_l, mg_i_r, mg_i_b, mg_l_i, mg_l_l, mg_l_r, mg_l_b, mg_r_i, mg_r_l, mg_r_r, mg_r_b, false_and, and_false, true_and, and_true, reduceCtorEq, if_true, if_false, reduceIte, Nat.reduceEqDiff, Nat.reduceAdd, Nat.succ_ne_self, ne_eq, not_false_eq_true, not_true_eq_false]; rw [ec]) (fun _ => ?_)
        obtain ⟨u1, u2, u3⟩ := r3
        exact ⟨by simp only [mg_i_i, mg_i_l, mg_i_r, mg_i_b, mg_l_i, mg_l_l, mg_l_r, mg_l_b, mg_r_i, mg_r_l, mg_r_r, mg_r_b, false_and, and_false, true_and, and_true, reduceCtorEq, if_true, if_false, reduceIte, Nat.reduceEqDiff, Nat.reduceAdd, Nat.succ_ne_self, ne_eq, not_false_eq_true, not_true_eq_false]; exact u1, by simp only [mg_i_i, mg_i_l, mg_i_r, mg_i_b, mg_l_i, mg_l_l, mg_l_r, mg_l_b, mg_r_i, mg_r_l, mg_r_r, mg_r_b, false_and, and_false, true_and, and_true, reduceCtorEq, if_true, if_false, reduceIte, Nat.reduceEqDiff, Nat.reduceAdd, Nat.succ_ne_self, ne_eq, not_false_eq_true, not_true_eq_false]; exact u2, fun j hj => by simp only [mg_i_i, mg_i_l, mg_i_r, mg_i_b, mg_l_i, mg_l_l, mg_l_r, mg_l_b, mg_r_i, mg_r_l, mg_r_r, mg_r_b, false_and, and_false, true_and, and_true, reduceCtorEq, if_true, if_false, reduceIte, Nat.reduceEqDiff, Nat.reduceAdd, Nat.succ_ne_self, ne_eq, not_false_eq_true, not_true_eq_false]; exact u3 j hj⟩
  · rcases hk.2.2.2.2 t (by omega) with z | ⟨z, z2⟩
    · exact absurd (z.trans (by decide)) y
    · exact h G hk z2 z fr_.rfl'
