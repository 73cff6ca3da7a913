/-! the greatest group: the component -/
def gc_ (P : ps_T) (r n t : Nat) (xs : List Nat) (g i : Nat) : Nat := fb_ct (fun j => decide (gr_ P r n t (xs.getD j 0) = g)) i
def isG_ (P : ps_T) (r n t : Nat) (xs : List Nat) (v i : Nat) : Prop := v ≤ i ∧ (∀ g, g < (sL_ P r n).length → gc_ P r n t xs g i ≤ v) ∧ (i ≠ 0 → ∃ g, g < (sL_ P r n).length ∧ gc_ P r n t xs g i = v)
def f8_ (c _k : Nat) : Bool := decide (c = 181)
theorem f8_F {c k : Nat} (h : c ≠ 181) : f8_ c k = false := decide_eq_false h
theorem s_greatest {l : Launch} {κ : mm_K} {d : Nat} {G : mm_G} {K : Int32 → mm_G → Prop} {P : ps_T} {r n t : Nat} {xs : List Nat} (hP : ps_ok P) (hn : n ≤ 2) (ht : t < 8) (hk : kU_ G P r n) (hg : gU_ G P r n t (sL_ P r n).length) (hx : lft_ G xs (sL_ P r n).length)
    (h : ∀ G' v, isG_ P r n t xs v xs.length → fr_ f8_ G G' → K (nI v) G') : mC l κ true (d + 1) 0 0 m_X9_greatestGroup [.ref 175, .int (nI t)] G (rI K) := by
  have h120 : (sL_ P r n).length ≤ 120 := su_120 (hP.1.2.2 r) hn
  obtain ⟨x1, x2, x3⟩ := hx
  refine e_X9_greatestGroup _ ?_
  have hcount : ∀ w i G1 v, i + w = xs.length → fr_ f8_ G G1 → (∀ g, g < (sL_ P r n).length → mg_i G1 181 g = nI (gc_ P r n t xs g i)) → isG_ P r n t xs v i → mV l κ true (d + 1) 0 0 m_X9_greatestGroup 27 [some (.ref 175), some (.int (nI t)), some (.int (nI v)), some (.int (nI i)), none] [] G1 (rI K) := by
    intro w
    induction w with
    | zero =>
      intro i G1 v hi f1 b1 hv
      obtain rfl : i = xs.length := by omega
      have e11 : mg_i G1 175 11 = nI xs.length := by rw [f1.i _ _ (f8_F (by omega))]; exact x1
      exact p_X9_greatestGroup_27 _ _ _ ⟨fun _ => h G1 v hv f1, fun y => absurd (by rw [e11]; exact nI_le (by omega) (by omega)) y⟩
    | succ w ih =>
      intro i G1 v hi f1 b1 hv
      have hil : i < xs.length := by omega
      obtain ⟨x4, x5⟩ := x3 i hil
      have e11 : mg_i G1 175 11 = nI xs.length := by rw [f1.i _ _ (f8_F (by omega))]; exact x1
      have e7 : mg_i G1 177 i = nI (xs.getD i 0) := by rw [f1.i _ _ (f8_F (by omega))]; exact x4
      have hgr : gr_ P r n t (xs.getD i 0) ≤ xs.getD i 0 := fa_first_le _ _
      have eg : mg_i G1 178 (8 * xs.getD i 0 + t) = nI (gr_ P r n t (xs.getD i 0)) := by rw [f1.i _ _ (f8_F (by omega))]; exact (hg _ x5).1
      refine p_X9_greatestGroup_27 _ _ _ ⟨fun y => absurd y (by rw [e11]; exact nI_ge (by omega) (by omega)), fun _ => ?_⟩
      have hstep : ∀ g, gc_ P r n t xs g (i + 1) = gc_ P r n t xs g i + (if gr_ P r n t (xs.getD i 0) = g then 1 else 0) := by
        intro g
        unfold gc_
        rw [fb_ct_succ]
        by_cases c : gr_ P r n t (xs.getD i 0) = g
        · rw [if_pos c, decide_eq_true c]; rfl
        · rw [if_neg c, decide_eq_false c]; rfl
      have hcle : ∀ g, gc_ P r n t xs g i ≤ i := fun g => fb_ct_le _ _
      have hc0 := hcle (gr_ P r n t (xs.getD i 0))
      rw [nI_clamp (by omega), e7, ki_mul, nI_add, nI_add, nI_clamp (by omega), show xs.getD i 0 * 8 + t = 8 * xs.getD i 0 + t by omega, eg, nI_clamp (by omega), b1 _ (by omega), nI_add]
      simp only [mg_i_i, mg_i_l, mg_i_r, mg_i_b, mg_l_i, mg_l_l, mg_l_r, mg_l_b, mg_r_i, mg_r_l, mg_r_r, mg_r_b, false_and, and_false, true_and, and_true, reduceCtorEq, if_true, if_false, reduceIte, Nat.reduceEqDiff, Nat.reduceAdd, Nat.succ_ne_self, ne_eq, not_false_eq_true, not_true_eq_false]
      refine ⟨(ki_vp (by omega)).2 (by omega), (ki_vp (by omega)).2 (by omega), (ki_vp (by omega)).2 (by omega), (ki_vp (by omega)).2 (by omega), (ki_vp (by omega)).2 (by omega), ?_⟩
      have hb : ∀ g, g < (sL_ P r n).length → mg_i (ms_i G1 181 (gr_ P r n t (xs.getD i 0)) (nI (gc_ P r n t xs (gr_ P r n t (xs.getD i 0)) i + 1))) 181 g = nI (gc_ P r n t xs g (i + 1)) := by
        intro g hgl
        simp only [mg_i_i, mg_i_l, mg_i_r, mg_i_b, mg_l_i, mg_l_l, mg_l_r, mg_l_b, mg_r_i, mg_r_l, mg_r_r, mg_r_b, false_and, and_false, true_and, and_true, reduceCtorEq, if_true, if_false, reduceIte, Nat.reduceEqDiff, Nat.reduceAdd, Nat.succ_ne_self, ne_eq, not_false_eq_true, not_true_eq_false]
        rw [hstep]
        by_cases c : g = gr_ P r n t (xs.getD i 0)
        · rw [if_pos c, if_pos c.symm, c]
        · rw [if_neg c, if_neg (fun q => c q.symm), Nat.add_zero]; exact b1 g hgl
      obtain ⟨v1, v2, v3⟩ := hv
      by_cases c : v < gc_ P r n t xs (gr_ P r n t (xs.getD i 0)) i + 1
      · rw [if_pos (by rw [nI_ltI (by omega) (by omega)]; exact c)]
        refine ih (i + 1) _ _ (by omega) (f1.si rfl) hb ⟨by omega, fun g hgl => ?_, fun _ => ⟨gr_ P r n t (xs.getD i 0), by omega, by rw [hstep, if_pos rfl]⟩⟩
        have := v2 g hgl
        rw [hstep]
        split
        · rename_i q; rw [← q]; omega
        · omega
      · rw [if_neg (by rw [nI_ltI (by omega) (by omega)]; exact c)]
        have hi0 : i ≠ 0 := by omega
        obtain ⟨g0, g1, g2⟩ := v3 hi0
        refine ih (i + 1) _ v (by omega) (f1.si rfl) hb ⟨by omega, fun g hgl => ?_, fun _ => ⟨g0, g1, ?_⟩⟩
        · have := v2 g hgl
          rw [hstep]
          split
          · rename_i q; rw [← q]; omega
          · omega
        · rw [hstep, if_neg (fun q => by rw [q] at c; omega), Nat.add_zero]
          exact g2
  suffices H : ∀ w i G1, i + w = (sL_ P r n).length → fr_ f8_ G G1 → (∀ g, g < i → mg_i G1 181 g = nI 0) → mV l κ true (d + 1) 0 0 m_X9_greatestGroup 2 [some (.ref 175), some (.int (nI t)), some (.int (nI i)), none, none] [] G1 (rI K) from H _ 0 G (Nat.zero_add _) fr_.rfl' (fun g hg => absurd hg (Nat.not_lt_zero g))
  intro w
  induction w with
  | zero =>
    intro i G1 hi f1 b1
    have e10 : mg_i G1 175 10 = nI (sL_ P r n).length := by rw [f1.i _ _ (f8_F (by omega))]; exact hk.2.2.1
    refine p_X9_greatestGroup_2 _ _ ⟨fun _ => ?_, fun y => absurd (by rw [e10]; exact nI_le (by omega) (by omega)) y⟩
    exact hcount _ 0 G1 0 (Nat.zero_add _) f1 (fun g hgl => b1 g (by omega)) ⟨Nat.le_refl _, fun g _ => Nat.le_refl _, fun q => absurd rfl q⟩
  | succ w ih =>
    intro i G1 hi f1 b1
    have e10 : mg_i G1 175 10 = nI (sL_ P r n).length := by rw [f1.i _ _ (f8_F (by omega))]; exact hk.2.2.1
    refine p_X9_greatestGroup_2 _ _ ⟨fun y => absurd y (by rw [e10]; exact nI_ge (by omega) (by omega)), fun _ => ⟨(ki_vp (by omega)).2 (by omega), ?_⟩⟩
    rw [nI_add, nI_clamp (by omega)]
    refine ih (i + 1) _ (by omega) (f1.si rfl) (fun g hgl => ?_)
    simp only [mg_i_i, mg_i_l, mg_i_r, mg_i_b, mg_l_i, mg_l_l, mg_l_r, mg_l_b, mg_r_i, mg_r_l, mg_r_r, mg_r_b, false_and, and_false, true_and, and_true, reduceCtorEq, if_true, if_false, reduceIte, Nat.reduceEqDiff, Nat.reduceAdd, Nat.succ_ne_self, ne_eq, not_false_eq_true, not_true_eq_false]
    split
    · rfl
    · exact b1 g (by omega)
