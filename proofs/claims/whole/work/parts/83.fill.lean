/-! groups: the reference fills them -/
theorem fg_mD {G G1 : mm_G} {n : Nat} {o : Nat × List Int32} (h : mD_ G 274 275 276 n o) (hf : fr_ fg_ G G1) : mD_ G1 274 275 276 n o := by
  obtain ⟨a1, a2, a3⟩ := h
  exact ⟨by rw [hf.i _ _ (fg_F (by omega))]; exact a1, by rw [hf.i _ _ (fg_F (by omega))]; exact a2, fun j hj => by rw [hf.i _ _ (fg_F (by omega))]; exact a3 j hj⟩
theorem t_fillGroups {l : Launch} {κ : mm_K} {d : Nat} {G : mm_G} {K : mm_G → Prop} {P : ps_T} {w r : Nat} {S : List Nat} (hP : ps_ok P) (hM : mB_ G P w) (hr : r < (ps_p P).length) (hS : S.length ≤ 120) (hSm : ∀ i, i < S.length → S.getD i 0 < 2 ^ (px_at (ps_p P) r).length) (hR : sR_ G S)
    (h : ∀ G', (∀ t, t < (ps_t P).length → mGr_ G' P r S t S.length) → sR_ G' S → fr_ fgr_ G G' → K G') : mC l κ true (d + 5) 0 0 m_X13_fillGroups [.ref 226, .int (nI r)] G (rV K) := by
  have ht8 := hP.2.1.1
  have hw := hM.1
  have h16 := px_len_lt (hP.1.2.2 r)
  refine e_X13_fillGroups _ ?_
  suffices H : ∀ m t G1, t + m = (ps_t P).length → sR_ G1 S → (∀ u, u < t → mGr_ G1 P r S u S.length) → fr_ fgr_ G G1 → mV l κ true (d + 5) 0 0 m_X13_fillGroups 2 [some (.ref 226), some (.int (nI r)), some (.int (nI t)), none, none] [] G1 (rV K) from H _ 0 G (Nat.zero_add _) hR (fun u hu => absurd hu (Nat.not_lt_zero u)) fr_.rfl'
  intro m
  induction m with
  | zero =>
    intro t G1 hm r1 g1 f1
    have hM1 := hM.fgr f1
    refine p_X13_fillGroups_2 _ _ ?_
    rw [hM1.2.1, nI_clamp (by omega), hM1.2.2.2.1.1]
    exact ⟨(ki_vp (by omega)).2 (by omega), fun _ => h G1 (fun u hu => g1 u (by omega)) r1 f1, fun y => absurd (nI_le (by omega) (by omega)) y⟩
  | succ m ih =>
    intro t G1 hm r1 g1 f1
    have hM1 := hM.fgr f1
    refine p_X13_fillGroups_2 _ _ ?_
    rw [hM1.2.1, nI_clamp (by omega), hM1.2.2.2.1.1]
    refine ⟨(ki_vp (by omega)).2 (by omega), fun y => absurd y (nI_ge (by omega) (by omega)), fun _ => ?_⟩
    suffices H : ∀ n c G2, c + n = S.length → sR_ G2 S → (∀ u, u < t → mGr_ G2 P r S u S.length) → mGr_ G2 P r S t c → (∀ j, j < c → mD_ G2 274 275 276 j (oD_ P r t (S.getD j 0))) → fr_ fgr_ G G2 → mV l κ true (d + 5) 0 0 m_X13_fillGroups 17 [some (.ref 226), some (.int (nI r)), some (.int (nI t)), some (.int (nI c)), none] [] G2 (rV K) from
      H _ 0 G1 (Nat.zero_add _) r1 g1 (fun c hc => absurd hc (Nat.not_lt_zero c)) (fun j hj => absurd hj (Nat.not_lt_zero j)) f1
    intro n
    induction n with
    | zero =>
      intro c G2 hc r2 g2 q2 d2 f2
      obtain rfl : c = S.length := by omega
      refine p_X13_fillGroups_17 _ _ _ ⟨fun _ => ?_, fun y => absurd (by rw [r2.1]; exact nI_le (by omega) (by omega)) y⟩
      rw [nI_add]
      refine ih (t + 1) G2 (by omega) r2 (fun u hu => ?_) f2
      rcases Nat.lt_succ_iff_lt_or_eq.mp hu with y | y
      · exact g2 u y
      · subst y; exact q2
    | succ n ihn =>
      intro c G2 hc r2 g2 q2 d2 f2
      have hcl : c < S.length := by omega
      have hsm := hSm c hcl
      have hM2 := hM.fgr f2
      refine p_X13_fillGroups_17 _ _ _ ⟨fun y => absurd y (by rw [r2.1]; exact nI_ge (by omega) (by omega)), fun _ => ⟨(ki_vp (by omega)).2 (by omega), ?_⟩⟩
      rw [nI_clamp (by omega), r2.2 c hcl]
      refine t_takesRow (d := d + 3) _ hP hM2 hr (fun G3 p3 f3 => ?_)
      refine t_run1 (d := d) hP (hM2.on (f3.on (fun c k q => ft_on q))) p3 hr (hP.1.2.2 r) (px_ok hP hr) (by omega) (by omega) (fun G4 k1 k2 k3 => ⟨(ki_vp (by omega)).2 (by omega), (ki_vp (by omega)).2 (by omega), ?_⟩)
      have f24 : fr_ fg_ G2 G4 := f3.tg.trans k2.mg
      have o51 : mg_i G4 226 51 = nI (oD_ P r t (S.getD c 0)).2.length := k1.1
      have o55 : mg_i G4 226 55 = nI (oD_ P r t (S.getD c 0)).1 := k3
      have o258 : ∀ j, j < (oD_ P r t (S.getD c 0)).2.length → mg_i G4 258 j = (oD_ P r t (S.getD c 0)).2.getD j (nI 0) := fun j hj => k1.2.2.1 j hj
      obtain ⟨w1, w8⟩ := oD_ok (t := t) hP hr hsm
      rw [o51, o55]
      have r4 := r2.fg f24
      have g4 : ∀ u, u < t → mGr_ G4 P r S u S.length := fun u hu c' hc' => by rw [f24.i _ _ (fg_F (by omega))]; exact g2 u hu c' hc'
      have q4 : mGr_ G4 P r S t c := fun c' hc' => by rw [f24.i _ _ (fg_F (by omega))]; exact q2 c' hc'
      have d4 : ∀ j, j < c → mD_ G4 274 275 276 j (oD_ P r t (S.getD j 0)) := fun j hj => fg_mD (d2 j hj) f24
      have f4 := f2.trans f24.ggr
      -- what it did is kept
      suffices H : ∀ v i G5, i + v = (oD_ P r t (S.getD c 0)).2.length → sR_ G5 S → (∀ u, u < t → mGr_ G5 P r S u S.length) → mGr_ G5 P r S t c → (∀ j, j < c → mD_ G5 274 275 276 j (oD_ P r t (S.getD j 0))) → mg_i G5 226 51 = nI (oD_ P r t (S.getD c 0)).2.length → (∀ j, j < (oD_ P r t (S.getD c 0)).2.length → mg_i G5 258 j = (oD_ P r t (S.getD c 0)).2.getD j (nI 0)) → mg_i G5 274 c = nI (oD_ P r t (S.getD c 0)).1 → mg_i G5 275 c = nI (oD_ P r t (S.getD c 0)).2.length → (∀ j, j < i → mg_i G5 276 (8 * c + j) = (oD_ P r t (S.getD c 0)).2.getD j (nI 0)) → fr_ fgr_ G G5 → mV l κ true (d + 5) 0 0 m_X13_fillGroups 64 [some (.ref 226), some (.int (nI r)), some (.int (nI t)), some (.int (nI c)), some (.int (nI i))] [] G5 (rV K) by
        refine H _ 0 _ (Nat.zero_add _) ⟨by simp only [mg_i_i, mg_i_l, mg_i_r, mg_i_b, mg_l_i, mg_l_l, mg_l_r, mg_l_b, mg_r_i, mg_r_l, mg_r_r, mg_r_b, false_and, and_false, true_and, and_true, reduceCtorEq, if_true, if_false, reduceIte, Nat.reduceEqDiff, Nat.reduceAdd, Nat.succ_ne_self, ne_eq, not_false_eq_true, not_true_eq_false]; exact r4.1, fun i hi => by simp only [mg_i_i, mg_i_l, mg_i_r, mg_i_b, mg_l_i, mg_l_l, mg_l_r, mg_l_b, mg_r_i, mg_r_l, mg_r_r, mg_r_b, false_and, and_false, true_and, and_true, reduceCtorEq, if_true, if_false, reduceIte, Nat.reduceEqDiff, Nat.reduceAdd, Nat.succ_ne_self, ne_eq, not_false_eq_true, not_true_eq_false]; exact r4.2 i hi⟩ (fun u hu c' hc' => by simp only [mg_i_i, mg_i_l, mg_i_r, mg_i_b, mg_l_i, mg_l_l, mg_l_r, mg_l_b, mg_r_i, mg_r_l, mg_r_r, mg_r_b, false_and, and_false, true_and, and_true, reduceCtorEq, if_true, if_false, reduceIte, Nat.reduceEqDiff, Nat.reduceAdd, Nat.succ_ne_self, ne_eq, not_false_eq_true, not_true_eq_false]; exact g4 u hu c' hc') (fun c' hc' => by simp only [mg_i_i, mg_i_l, mg_i_r, mg_i_b, mg_l_i, mg_l_l, mg_l_r, mg_l_b, mg_r_i, mg_r_l, mg_r_r, mg_r_b, false_and, and_false, true_and, and_true, reduceCtorEq, if_true, if_false, reduceIte, Nat.reduceEqDiff, Nat.reduceAdd, Nat.succ_ne_self, ne_eq, not_false_eq_true, not_true_eq_false]; exact q4 c' hc') (fun j hj => ?_) (by simp only [mg_i_i, mg_i_l, mg_i_r, mg_i_b, mg_l_i, mg_l_l, mg_l_r, mg_l_b, mg_r_i, mg_r_l, mg_r_r, mg_r_b, false_and, and_false, true_and, and_true, reduceCtorEq, if_true, if_false, reduceIte, Nat.reduceEqDiff, Nat.reduceAdd, Nat.succ_ne_self, ne_eq, not_false_eq_true, not_true_eq_false]; exact o51) (fun j hj => by simp only [mg_i_i, mg_i_l, mg_i_r, mg_i_b, mg_l_i, mg_l_l, mg_l_r, mg_l_b, mg_r_i, mg_r_l, mg_r_r, mg_r_b, false_and, and_false, true_and, and_true, reduceCtorEq, if_true, if_false, reduceIte, Nat.reduceEqDiff, Nat.reduceAdd, Nat.succ_ne_self, ne_eq, not_false_eq_true, not_true_eq_false]; exact o258 j hj) (by simp only [mg_i_i, mg_i_l, mg_i_r, mg_i_b, mg_l_i, mg_l_l, mg_l_r, mg_l_b, mg_r_i, mg_r_l, mg_r_r, mg_r_b, false_and, and_false, true_and, and_true, reduceCtorEq, if_true, if_false, reduceIte, Nat.reduceEqDiff, Nat.reduceAdd, Nat.succ_ne_self, ne_eq, not_false_eq_true, not_true_eq_false]) (by simp only [mg_i_i, mg_i_l, mg_i_r, mg_i_b, mg_l_i, mg_l_l, mg_l_r, mg_l_b, mg_r_i, mg_r_l, mg_r_r, mg_r_b, false_and, and_false, true_and, and_true, reduceCtorEq, if_true, if_false, reduceIte, Nat.reduceEqDiff, Nat.reduceAdd, Nat.succ_ne_self, ne_eq, not_false_eq_true, not_true_eq_false]) (fun j hj => absurd hj (Nat.not_lt_zero j)) ((f4.si (fgr_T (by omega))).si (fgr_T (by omega)))
        obtain ⟨a1, a2, a3⟩ := d4 j hj
        refine ⟨?_, ?_, fun i hi => by simp only [mg_i_i, mg_i_l, mg_i_r, mg_i_b, mg_l_i, mg_l_l, mg_l_r, mg_l_b, mg_r_i, mg_r_l, mg_r_r, mg_r_b, false_and, and_false, true_and, and_true, reduceCtorEq, if_true, if_false, reduceIte, Nat.reduceEqDiff, Nat.reduceAdd, Nat.succ_ne_self, ne_eq, not_false_eq_true, not_true_eq_false]; exact a3 i hi⟩
        · simp only [mg_i_i, mg_i_l, mg_i_r, mg_i_b, mg_l_i, mg_l_l, mg_l_r, mg_l_b, mg_r_i, mg_r_l, mg_r_r, mg_r_b, false_and, and_false, true_and, and_true, reduceCtorEq, if_true, if_false, reduceIte, Nat.reduceEqDiff, Nat.reduceAdd, Nat.succ_ne_self, ne_eq, not_false_eq_true, not_true_eq_false]; rw [if_neg (by omega)]; exact a1
        · simp only [mg_i_i, mg_i_l, mg_i_r, mg_i_b, mg_l_i, mg_l_l, mg_l_r, mg_l_b, mg_r_i, mg_r_l, mg_r_r, mg_r_b, false_and, and_false, true_and, and_true, reduceCtorEq, if_true, if_false, reduceIte, Nat.reduceEqDiff, Nat.reduceAdd, Nat.succ_ne_self, ne_eq, not_false_eq_true, not_true_eq_false]; rw [if_neg (by omega)]; exact a2
      intro v
      induction v with
      | zero =>
        intro i G5 hi r5 g5 q5 d5 b51 b258 b274 b275 b276 f5
        refine p_X13_fillGroups_64 _ _ _ _ ⟨fun _ => ?_, fun y => absurd (by rw [b51]; exact nI_le (by omega) (by omega)) y⟩
        have dc : mD_ G5 274 275 276 c (oD_ P r t (S.getD c 0)) := ⟨b274, b275, fun j hj => b276 j (by omega)⟩
        -- the first that did the same
        suffices H : ∀ e x, x + e = c → (∀ j, j < x → decide (oD_ P r t (S.getD j 0) = oD_ P r t (S.getD c 0)) = false) → mV l κ true (d + 5) 0 0 m_X13_fillGroups 101 [some (.ref 226), some (.int (nI r)), some (.int (nI t)), some (.int (nI c)), some (.int (nI x))] [] G5 (rV K) from
          H c 0 (Nat.zero_add _) (fun j hj => absurd hj (Nat.not_lt_zero j))
        have hput : ∀ x, x = gq_ P r t S c → x ≤ c → vp_in ((nI 140) * nI t + nI c) 1120 ∧ mV l κ true (d + 5) 0 0 m_X13_fillGroups 17 [some (.ref 226), some (.int (nI r)), some (.int (nI t)), some (.int (nI c + nI 1)), none] [] (ms_i G5 273 (((nI 140) * nI t + nI c).toNatClampNeg) (nI x)) (rV K) := by
          intro x hx hxc
          rw [ki_mul, nI_add, nI_add, nI_clamp (by omega)]
          refine ⟨(ki_vp (by omega)).2 (by omega), ihn (c + 1) _ (by omega) ⟨by simp only [mg_i_i, mg_i_l, mg_i_r, mg_i_b, mg_l_i, mg_l_l, mg_l_r, mg_l_b, mg_r_i, mg_r_l, mg_r_r, mg_r_b, false_and, and_false, true_and, and_true, reduceCtorEq, if_true, if_false, reduceIte, Nat.reduceEqDiff, Nat.reduceAdd, Nat.succ_ne_self, ne_eq, not_false_eq_true, not_true_eq_false]; exact r5.1, fun i hi => by simp only [mg_i_i, mg_i_l, mg_i_r, mg_i_b, mg_l_i, mg_l_l, mg_l_r, mg_l_b, mg_r_i, mg_r_l, mg_r_r, mg_r_b, false_and, and_false, true_and, and_true, reduceCtorEq, if_true, if_false, reduceIte, Nat.reduceEqDiff, Nat.reduceAdd, Nat.succ_ne_self, ne_eq, not_false_eq_true, not_true_eq_false]; exact r5.2 i hi⟩ (fun u hu c' hc' => ?_) (fun c' hc' => ?_) (fun j hj => ?_) (f5.si (fgr_T (by omega)))⟩
          · simp only [mg_i_i, mg_i_l, mg_i_r, mg_i_b, mg_l_i, mg_l_l, mg_l_r, mg_l_b, mg_r_i, mg_r_l, mg_r_r, mg_r_b, false_and, and_false, true_and, and_true, reduceCtorEq, if_true, if_false, reduceIte, Nat.reduceEqDiff, Nat.reduceAdd, Nat.succ_ne_self, ne_eq, not_false_eq_true, not_true_eq_false]; rw [if_neg (by omega)]; exact g5 u hu c' hc'
          · simp only [mg_i_i, mg_i_l, mg_i_r, mg_i_b, mg_l_i, mg_l_l, mg_l_r, mg_l_b, mg_r_i, mg_r_l, mg_r_r, mg_r_b, false_and, and_false, true_and, and_true, reduceCtorEq, if_true, if_false, reduceIte, Nat.reduceEqDiff, Nat.reduceAdd, Nat.succ_ne_self, ne_eq, not_false_eq_true, not_true_eq_false]
            by_cases y : c' = c
            · rw [if_pos (by omega), y, hx]
            · rw [if_neg (by omega)]; exact q5 c' (by omega)
          · have hd : mD_ G5 274 275 276 j (oD_ P r t (S.getD j 0)) := by
              rcases Nat.lt_succ_iff_lt_or_eq.mp hj with y | y
              · exact d5 j y
              · subst y; exact dc
            obtain ⟨a1, a2, a3⟩ := hd
            exact ⟨by simp only [mg_i_i, mg_i_l, mg_i_r, mg_i_b, mg_l_i, mg_l_l, mg_l_r, mg_l_b, mg_r_i, mg_r_l, mg_r_r, mg_r_b, false_and, and_false, true_and, and_true, reduceCtorEq, if_true, if_false, reduceIte, Nat.reduceEqDiff, Nat.reduceAdd, Nat.succ_ne_self, ne_eq, not_false_eq_true, not_true_eq_false]; exact a1, by simp only [mg_i_i, mg_i_l, mg_i_r, mg_i_b, mg_l_i, mg_l_l, mg_l_r, mg_l_b, mg_r_i, mg_r_l, mg_r_r, mg_r_b, false_and, and_false, true_and, and_true, reduceCtorEq, if_true, if_false, reduceIte, Nat.reduceEqDiff, Nat.reduceAdd, Nat.succ_ne_self, ne_eq, not_false_eq_true, not_true_eq_false]; exact a2, fun i hi => by simp only [mg_i_i, mg_i_l, mg_i_r, mg_i_b, mg_l_i, mg_l_l, mg_l_r, mg_l_b, mg_r_i, mg_r_l, mg_r_r, mg_r_b, false_and, and_false, true_and, and_true, reduceCtorEq, if_true, if_false, reduceIte, Nat.reduceEqDiff, Nat.reduceAdd, Nat.succ_ne_self, ne_eq, not_false_eq_true, not_true_eq_false]; exact a3 i hi⟩
        intro e
        induction e with
        | zero =>
          intro x hx hno
          obtain rfl : x = c := by omega
          refine p_X13_fillGroups_101 _ _ _ _ (t_didSame (by omega) (by omega) dc dc w1 w8 w1 w8 ?_)
          rw [if_pos rfl]
          exact ⟨fun _ => hput x (ff_no hno).symm (Nat.le_refl _), fun y => absurd y (by decide)⟩
        | succ e ihe =>
          intro x hx hno
          obtain ⟨x1, x8⟩ := oD_ok (t := t) hP hr (hSm x (by omega))
          refine p_X13_fillGroups_101 _ _ _ _ (t_didSame (by omega) (by omega) (d5 x (by omega)) dc x1 x8 w1 w8 ?_)
          by_cases y : oD_ P r t (S.getD x 0) = oD_ P r t (S.getD c 0)
          · rw [if_pos y]
            exact ⟨fun _ => hput x (ff_at hno (decide_eq_true y) (by omega)).symm (by omega), fun z => absurd z (by decide)⟩
          · rw [if_neg y]
            refine ⟨fun z => absurd rfl z, fun _ => ?_⟩
            rw [nI_add]
            refine ihe (x + 1) (by omega) (fun j hj => ?_)
            rcases Nat.lt_succ_iff_lt_or_eq.mp hj with z | z
            · exact hno j z
            · subst z; exact decide_eq_false y
      | succ v ihv =>
        intro i G5 hi r5 g5 q5 d5 b51 b258 b274 b275 b276 f5
        refine p_X13_fillGroups_64 _ _ _ _ ⟨fun y => absurd y (by rw [b51]; exact nI_ge (by omega) (by omega)), fun _ => ?_⟩
        rw [ki_mul, nI_add, nI_add, nI_clamp (by omega), nI_clamp (by omega), b258 i (by omega)]
        refine ⟨(ki_vp (by omega)).2 (by omega), (ki_vp (by omega)).2 (by omega), ihv (i + 1) _ (by omega) ⟨by simp only [mg_i_i, mg_i_l, mg_i_r, mg_i_b, mg_l_i, mg_l_l, mg_l_r, mg_l_b, mg_r_i, mg_r_l, mg_r_r, mg_r_b, false_and, and_false, true_and, and_true, reduceCtorEq, if_true, if_false, reduceIte, Nat.reduceEqDiff, Nat.reduceAdd, Nat.succ_ne_self, ne_eq, not_false_eq_true, not_true_eq_false]; exact r5.1, fun i hi => by simp only [mg_i_i, mg_i_l, mg_i_r, mg_i_b, mg_l_i, mg_l_l, mg_l_r, mg_l_b, mg_r_i, mg_r_l, mg_r_r, mg_r_b, false_and, and_false, true_and, and_true, reduceCtorEq, if_true, if_false, reduceIte, Nat.reduceEqDiff, Nat.reduceAdd, Nat.succ_ne_self, ne_eq, not_false_eq_true, not_true_eq_false]; exact r5.2 i hi⟩ (fun u hu c' hc' => by simp only [mg_i_i, mg_i_l, mg_i_r, mg_i_b, mg_l_i, mg_l_l, mg_l_r, mg_l_b, mg_r_i, mg_r_l, mg_r_r, mg_r_b, false_and, and_false, true_and, and_true, reduceCtorEq, if_true, if_false, reduceIte, Nat.reduceEqDiff, Nat.reduceAdd, Nat.succ_ne_self, ne_eq, not_false_eq_true, not_true_eq_false]; exact g5 u hu c' hc') (fun c' hc' => by simp only [mg_i_i, mg_i_l, mg_i_r, mg_i_b, mg_l_i, mg_l_l, mg_l_r, mg_l_b, mg_r_i, mg_r_l, mg_r_r, mg_r_b, false_and, and_false, true_and, and_true, reduceCtorEq, if_true, if_false, reduceIte, Nat.reduceEqDiff, Nat.reduceAdd, Nat.succ_ne_self, ne_eq, not_false_eq_true, not_true_eq_false]; exact q5 c' hc') (fun j hj => ?_) (by simp only [mg_i_i, mg_i_l, mg_i_r, mg_i_b, mg_l_i, mg_l_l, mg_l_r, mg_l_b, mg_r_i, mg_r_l, mg_r_r, mg_r_b, false_and, and_false, true_and, and_true, reduceCtorEq, if_true, if_false, reduceIte, Nat.reduceEqDiff, Nat.reduceAdd, Nat.succ_ne_self, ne_eq, not_false_eq_true, not_true_eq_false]; exact b51) (fun j hj => by simp only [mg_i_i, mg_i_l, mg_i_r, mg_i_b, mg_l_i, mg_l_l, mg_l_r, mg_l_b, mg_r_i, mg_r_l, mg_r_r, mg_r_b, false_and, and_false, true_and, and_true, reduceCtorEq, if_true, if_false, reduceIte, Nat.reduceEqDiff, Nat.reduceAdd, Nat.succ_ne_self, ne_eq, not_false_eq_true, not_true_eq_false]; exact b258 j hj) (by simp only [mg_i_i, mg_i_l, mg_i_r, mg_i_b, mg_l_i, mg_l_l, mg_l_r, mg_l_b, mg_r_i, mg_r_l, mg_r_r, mg_r_b, false_and, and_false, true_and, and_true, reduceCtorEq, if_true, if_false, reduceIte, Nat.reduceEqDiff, Nat.reduceAdd, Nat.succ_ne_self, ne_eq, not_false_eq_true, not_true_eq_false]; exact b274) (by simp only [mg_i_i, mg_i_l, mg_i_r, mg_i_b, mg_l_i, mg_l_l, mg_l_r, mg_l_b, mg_r_i, mg_r_l, mg_r_r, mg_r_b, false_and, and_false, true_and, and_true, reduceCtorEq, if_true, if_false, reduceIte, Nat.reduceEqDiff, Nat.reduceAdd, Nat.succ_ne_self, ne_eq, not_false_eq_true, not_true_eq_false]; exact b275) (fun j hj => ?_) (f5.si (fgr_T (by omega)))⟩
        · obtain ⟨a1, a2, a3⟩ := d5 j hj
          obtain ⟨y1, y8⟩ := oD_ok (t := t) hP hr (hSm j (by omega))
          refine ⟨by simp only [mg_i_i, mg_i_l, mg_i_r, mg_i_b, mg_l_i, mg_l_l, mg_l_r, mg_l_b, mg_r_i, mg_r_l, mg_r_r, mg_r_b, false_and, and_false, true_and, and_true, reduceCtorEq, if_true, if_false, reduceIte, Nat.reduceEqDiff, Nat.reduceAdd, Nat.succ_ne_self, ne_eq, not_false_eq_true, not_true_eq_false]; exact a1, by simp only [mg_i_i, mg_i_l, mg_i_r, mg_i_b, mg_l_i, mg_l_l, mg_l_r, mg_l_b, mg_r_i, mg_r_l, mg_r_r, mg_r_b, false_and, and_false, true_and, and_true, reduceCtorEq, if_true, if_false, reduceIte, Nat.reduceEqDiff, Nat.reduceAdd, Nat.succ_ne_self, ne_eq, not_false_eq_true, not_true_eq_false]; exact a2, fun u hu => ?_⟩
          simp only [mg_i_i, mg_i_l, mg_i_r, mg_i_b, mg_l_i, mg_l_l, mg_l_r, mg_l_b, mg_r_i, mg_r_l, mg_r_r, mg_r_b, false_and, and_false, true_and, and_true, reduceCtorEq, if_true, if_false, reduceIte, Nat.reduceEqDiff, Nat.reduceAdd, Nat.succ_ne_self, ne_eq, not_false_eq_true, not_true_eq_false]; rw [if_neg (by omega)]; exact a3 u hu
        · simp only [mg_i_i, mg_i_l, mg_i_r, mg_i_b, mg_l_i, mg_l_l, mg_l_r, mg_l_b, mg_r_i, mg_r_l, mg_r_r, mg_r_b, false_and, and_false, true_and, and_true, reduceCtorEq, if_true, if_false, reduceIte, Nat.reduceEqDiff, Nat.reduceAdd, Nat.succ_ne_self, ne_eq, not_false_eq_true, not_true_eq_false]
          by_cases y : j = i
          · rw [if_pos (by omega), y]
          · rw [if_neg (by omega)]; exact b276 j (by omega)
