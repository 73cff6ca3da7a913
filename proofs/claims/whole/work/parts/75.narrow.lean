/-! suspicion: what was seen narrows -/
def fU_ (c k : Nat) : Bool := fc_ c k || (decide (175 ≤ c) && decide (c ≤ 187))
theorem fU_T {c k : Nat} (h : 175 ≤ c ∧ c ≤ 187) : fU_ c k = true := by
  unfold fU_
  rw [decide_eq_true h.1, decide_eq_true h.2, Bool.and_true, Bool.or_true]
theorem fU_F {c k : Nat} (h : (c < 91 ∨ 97 < c) ∧ (c < 175 ∨ 187 < c)) : fU_ c k = false := by
  unfold fU_
  rw [fc_F h.1]
  rcases h.2 with z | z
  · rw [decide_eq_false (p := 175 ≤ c) (by omega)]; rfl
  · rw [decide_eq_false (p := c ≤ 187) (by omega), Bool.and_false]; rfl
theorem fU_on {c k : Nat} (h : rgB c k = true) : fU_ c k = false := fU_F (by have := rgB_iff.1 h; omega)
theorem cB_.fU {G G1 : mm_G} {P : ps_T} (h : cB_ G P) (hP : ps_ok P) (hf : fr_ fU_ G G1) : cB_ G1 P := h.on hP (hf.on (fun c k q => fU_on q)) (by rw [hf.1]; exact Nat.le_refl _)
theorem fr_.toU {S : Nat → Nat → Bool} {G G1 : mm_G} (h : fr_ S G G1) (hS : ∀ c k, (c < 91 ∨ 97 < c) → (c < 175 ∨ 187 < c) → S c k = false) : fr_ fU_ G G1 := h.mono (fun c k q => by
  refine hS c k ?_ ?_
  · rcases Nat.lt_or_ge c 91 with z | z
    · exact Or.inl z
    · rcases Nat.lt_or_ge 97 c with y | y
      · exact Or.inr y
      · unfold fU_ at q
        have : fc_ c k = true := by unfold fc_; rw [decide_eq_true z, decide_eq_true y]; rfl
        rw [this] at q
        cases q
  · by_cases z : 175 ≤ c ∧ c ≤ 187
    · rw [fU_T z] at q; cases q
    · omega)
theorem fr_.cU {G G1 : mm_G} (h : fr_ fc_ G G1) : fr_ fU_ G G1 := h.toU (fun c k h1 _ => fc_F h1)
theorem fr_.GU {G G1 : mm_G} (h : fr_ fG_ G G1) : fr_ fU_ G G1 := h.toU (fun c k h1 h2 => fG_F ⟨h1, by omega⟩)
theorem fr_.LU {G G1 : mm_G} (h : fr_ fL_ G G1) : fr_ fU_ G G1 := h.toU (fun c k h1 h2 => fL_F (by omega))
theorem fr_.yU {G G1 : mm_G} (h : fr_ fyy_ G G1) : fr_ fU_ G G1 := h.toU (fun c k h1 h2 => fyy_F h2)
def se_ (P : ps_T) (r j : Nat) : Nat × List Int32 := od_ (ps_p P) (ps_t P) (ps_f P) r (sx_at (ps_n P) j).2 (sx_at (ps_n P) j).1
def nw_ (P : ps_T) (r n : Nat) : Nat → List Nat
  | 0 => List.range (sL_ P r n).length
  | j + 1 => (nw_ P r n j).filter (fun x => decide (sD_ P r n x (sx_at (ps_n P) j).1 = se_ P r j))
theorem lft_.fr {S : Nat → Nat → Bool} {G G1 : mm_G} {xs : List Nat} {z : Nat} (h : lft_ G xs z) (hf : fr_ S G G1) (h5 : S 175 11 = false) (h7 : ∀ k, S 177 k = false) : lft_ G1 xs z := by
  obtain ⟨h1, h2, h3⟩ := h
  exact ⟨by rw [hf.i _ _ h5]; exact h1, h2, fun i hi => ⟨by rw [hf.i _ _ (h7 i)]; exact (h3 i hi).1, (h3 i hi).2⟩⟩
theorem s_narrow {l : Launch} {κ : mm_K} {d : Nat} {G : mm_G} {K : Int32 → mm_G → Prop} {P : ps_T} {r n k : Nat} (hP : ps_ok P) (hC : cB_ G P) (hU : cU_ G P) (hr : r < (ps_p P).length) (hn : n ≤ 2) (hk : k ≤ (ps_n P).2.length) (hs : k ≠ 0 → (ps_n P).1 = r)
    (h : ∀ G', kU_ G' P r n → lft_ G' (nw_ P r n k) (sL_ P r n).length → fr_ fU_ G G' → K (nI (nw_ P r n k).length) G') : mC l κ true (d + 4) 0 0 m_X9_narrow [.ref 175, .int (nI r), .int (nI n), .int (nI k)] G (rI K) := by
  have hp := hP.1.1
  have ht8 := hP.2.1.1
  have hsx := hP.2.2.2.1
  have h20 := hsx.1
  have h120 : (sL_ P r n).length ≤ 120 := su_120 (hP.1.2.2 r) hn
  refine e_X9_narrow _ _ _ (s_gather (d := d + 2) hP hC hU hr hn (fun G2 k2 f2 => ?_))
  rw [k2.2.2.1]
  -- what was seen
  have hseen : ∀ w j G3, j + w = k → kU_ G3 P r n → lft_ G3 (nw_ P r n j) (sL_ P r n).length → fr_ fU_ G G3 → mV l κ true (d + 4) 0 0 m_X9_narrow 44 [some (.ref 175), some (.int (nI r)), some (.int (nI n)), some (.int (nI k)), some (.int (nI j)), none] [] G3 (rI K) := by
    intro w
    induction w with
    | zero =>
      intro j G3 hj k3 l3 f3
      obtain rfl : j = k := by omega
      refine p_X9_narrow_44 _ _ _ _ ⟨fun _ => ?_, fun y => absurd (nI_le (by omega) (by omega)) y⟩
      rw [l3.1]
      exact h G3 k3 l3 f3
    | succ w ih =>
      intro j G3 hj k3 l3 f3
      have hC3 := hC.fU hP f3
      obtain ⟨c1, c2⟩ := hC3.1.2.2.2.2 j (by omega)
      have c1 : mg_i G3 52 j = nI (sx_at (ps_n P) j).1 := c1
      obtain ⟨v1, v2⟩ := hsx.2.2 j (by omega)
      rw [hs (by omega)] at v2
      refine p_X9_narrow_44 _ _ _ _ ⟨fun y => absurd y (nI_ge (by omega) (by omega)), fun _ => ⟨(ki_vp (by omega)).2 (by omega), ?_⟩⟩
      rw [nI_clamp (by omega), nI_clamp (by omega), c1]
      refine s_group hP hC3 hr hn k3 v1 (fun G4 k4 g4 e4 f4 => ⟨(ki_vp (by omega)).2 (by omega), (ki_vp (by omega)).2 (by omega), ?_⟩)
      have f34 := f3.trans f4.GU
      have hC4 := hC.fU hP f34
      have c2 : mg_i G4 53 j = nI (sx_at (ps_n P) j).2 := (hC4.1.2.2.2.2 j (by omega)).2
      rw [c2]
      have l4 : lft_ G4 (nw_ P r n j) (sL_ P r n).length := l3.fr f4 (fG_F (by omega)) (fun k => fG_F (by omega))
      refine s_run0 hP hC4 hr v2 v1 (fun G5 c5 f5 s5 => ?_)
      have h16 := px_len_lt (hP.1.2.2 r)
      obtain ⟨o1, o2, o3, o4⟩ := rr_ok (k := (sx_at (ps_n P) j).1) (lo := (sx_at (ps_n P) j).2) hP hr (by omega)
      have hd5 : dd_ G5 (se_ P r j) := ⟨s5, c5.cd o1, Nat.lt_of_le_of_lt o3 (by decide)⟩
      have k5 : kU_ G5 P r n := k4.fr hP hr f5 (fun k _ => fc_F (by omega)) (fun c k hc => fc_F (by omega))
      have g5 : gU_ G5 P r n (sx_at (ps_n P) j).1 (sL_ P r n).length := g4.tr hP hr (Nat.le_refl _) (fun c _ => f5.i _ _ (fc_F (by omega))) (fun c _ k _ _ => f5.i _ _ (fc_F (by omega)))
      have l5 := l4.fr f5 (fc_F (by omega)) (fun k => fc_F (by omega))
      rw [k5.2.2.1]
      refine s_groupOf (d := d + 2) hP hr hn (by omega) (Nat.le_refl _) g5 hd5 (s_keepGroup hP hn (by omega) g5 l5 (fun G6 l6 f6 => ?_))
      rw [nI_add]
      exact ih (j + 1) G6 (by omega) (k5.fr hP hr f6 (fun k hk => fL_F (by omega)) (fun c k hc => fL_F (by omega))) l6 ((f34.trans f5.cU).trans f6.LU)
  -- all are left
  have f0 : fr_ fL_ G2 (ms_i G2 175 11 (nI (sL_ P r n).length)) := fr_.rfl'.si rfl
  suffices H : ∀ w i G3, i + w = (sL_ P r n).length → fr_ fL_ G2 G3 → mg_i G3 175 11 = nI (sL_ P r n).length → (∀ j, j < i → mg_i G3 177 j = nI j) → mV l κ true (d + 4) 0 0 m_X9_narrow 17 [some (.ref 175), some (.int (nI r)), some (.int (nI n)), some (.int (nI k)), some (.int (nI i)), none] [] G3 (rI K) from
    H _ 0 _ (Nat.zero_add _) f0 (by simp only [mg_i_i, mg_i_l, mg_i_r, mg_i_b, mg_l_i, mg_l_l, mg_l_r, mg_l_b, mg_r_i, mg_r_l, mg_r_r, mg_r_b, false_and, and_false, true_and, and_true, reduceCtorEq, if_true, if_false, reduceIte, Nat.reduceEqDiff, Nat.reduceAdd, Nat.succ_ne_self, ne_eq, not_false_eq_true, not_true_eq_false]) (fun j hj => absurd hj (Nat.not_lt_zero j))
  intro w
  induction w with
  | zero =>
    intro i G3 hi f3 e3 b3
    have k3 : kU_ G3 P r n := k2.fr hP hr f3 (fun k hk => fL_F (by omega)) (fun c k hc => fL_F (by omega))
    refine p_X9_narrow_17 _ _ _ _ ⟨fun _ => ?_, fun y => absurd (by rw [k3.2.2.1]; exact nI_le (by omega) (by omega)) y⟩
    have el : (nw_ P r n 0).length = (sL_ P r n).length := List.length_range
    refine hseen k 0 G3 (Nat.zero_add _) k3 ⟨by rw [el]; exact e3, by omega, fun j hj => ?_⟩ (f2.yU.trans f3.LU)
    rw [el] at hj
    have eg : (nw_ P r n 0).getD j 0 = j := by
      show (List.range (sL_ P r n).length).getD j 0 = j
      rw [List.getD_eq_getElem?_getD, List.getElem?_range hj]
      rfl
    rw [eg]
    exact ⟨b3 j (by omega), hj⟩
  | succ w ih =>
    intro i G3 hi f3 e3 b3
    have k3 : kU_ G3 P r n := k2.fr hP hr f3 (fun k hk => fL_F (by omega)) (fun c k hc => fL_F (by omega))
    refine p_X9_narrow_17 _ _ _ _ ⟨fun y => absurd y (by rw [k3.2.2.1]; exact nI_ge (by omega) (by omega)), fun _ => ⟨(ki_vp (by omega)).2 (by omega), ?_⟩⟩
    rw [nI_add, nI_clamp (by omega)]
    refine ih (i + 1) _ (by omega) (f3.si rfl) (by simp only [mg_i_i, mg_i_l, mg_i_r, mg_i_b, mg_l_i, mg_l_l, mg_l_r, mg_l_b, mg_r_i, mg_r_l, mg_r_r, mg_r_b, false_and, and_false, true_and, and_true, reduceCtorEq, if_true, if_false, reduceIte, Nat.reduceEqDiff, Nat.reduceAdd, Nat.succ_ne_self, ne_eq, not_false_eq_true, not_true_eq_false]; exact e3) (fun j hj => ?_)
    simp only [mg_i_i, mg_i_l, mg_i_r, mg_i_b, mg_l_i, mg_l_l, mg_l_r, mg_l_b, mg_r_i, mg_r_l, mg_r_r, mg_r_b, false_and, and_false, true_and, and_true, reduceCtorEq, if_true, if_false, reduceIte, Nat.reduceEqDiff, Nat.reduceAdd, Nat.succ_ne_self, ne_eq, not_false_eq_true, not_true_eq_false]
    by_cases c : j = i
    · rw [if_pos c, c]
    · rw [if_neg c]; exact b3 j (by omega)
