/-! the sets of as many lines -/
def su_ (n T : Nat) : List Nat := (List.range T).filter (fun s => decide (pc_ s = n))
theorem su_yes {n s : Nat} (h : pc_ s = n) : su_ n (s + 1) = su_ n s ++ [s] := by
  unfold su_
  rw [List.range_succ, List.filter_append]
  congr 1
  rw [List.filter_cons_of_pos (by exact decide_eq_true h), List.filter_nil]
theorem su_not {n s : Nat} (h : pc_ s ≠ n) : su_ n (s + 1) = su_ n s := by
  unfold su_
  rw [List.range_succ, List.filter_append, List.filter_cons_of_neg (by rw [decide_eq_false h]; decide), List.filter_nil, List.append_nil]
theorem su_skip {n a : Nat} : ∀ m, (∀ x, a ≤ x → x < a + m → pc_ x ≠ n) → su_ n (a + m) = su_ n a
  | 0, _ => rfl
  | m + 1, h => by
    show su_ n (a + m + 1) = _
    rw [su_not (h (a + m) (by omega) (by omega))]
    exact su_skip m (fun x h1 h2 => h x h1 (by omega))
theorem su_len_le {n a b : Nat} (h : a ≤ b) : (su_ n a).length ≤ (su_ n b).length := by
  obtain ⟨m, rfl⟩ : ∃ m, b = a + m := ⟨b - a, by omega⟩
  clear h
  induction m with
  | zero => exact Nat.le_refl _
  | succ m ih =>
    show _ ≤ (su_ n (a + m + 1)).length
    by_cases c : pc_ (a + m) = n
    · rw [su_yes c, List.length_append]; omega
    · rw [su_not c]; exact ih
/-- how many there are -/
def bnn_ : Nat → Nat → Nat
  | _, 0 => 1
  | 0, _ + 1 => 0
  | L + 1, n + 1 => bnn_ L (n + 1) + bnn_ L n
theorem su_ct (n : Nat) : ∀ T, (su_ n T).length = fb_ct (fun s => decide (pc_ s = n)) T
  | 0 => rfl
  | T + 1 => by
    rw [fb_ct_succ]
    by_cases c : pc_ T = n
    · rw [su_yes c, List.length_append, su_ct n T, decide_eq_true c]; rfl
    · rw [su_not c, su_ct n T, decide_eq_false c]; rfl
theorem fb_ct_cut (p : Nat → Bool) (m : Nat) : ∀ k, fb_ct p (m + k) = fb_ct p m + fb_ct (fun i => p (m + i)) k
  | 0 => rfl
  | k + 1 => by
    show fb_ct p (m + k + 1) = _
    rw [fb_ct_succ, fb_ct_succ, fb_ct_cut p m k]
    omega
theorem pc_1 : pc_ 1 = 1 := by decide +kernel
theorem su_bn : ∀ L n, L ≤ 16 → fb_ct (fun s => decide (pc_ s = n)) (2 ^ L) = bnn_ L n
  | 0, 0, _ => by decide +kernel
  | 0, n + 1, _ => by
    show fb_ct _ 1 = 0
    rw [fb_ct_succ, decide_eq_false (by rw [pc_0]; omega)]
    rfl
  | L + 1, n, h => by
    have e : 2 ^ (L + 1) = 2 ^ L + 2 ^ L := by rw [Nat.pow_succ]; omega
    have hp : ∀ i, i < 2 ^ L → pc_ (2 ^ L + i) = pc_ i + 1 := by
      intro i hi
      have := pc_add (a := i) (b := 1) (m := L) hi (by omega) (by have : 2 ^ 1 ≤ 2 ^ (20 - L) := Nat.pow_le_pow_right (by decide) (by omega); omega)
      rw [Nat.mul_one, pc_1] at this
      exact this
    rw [e, fb_ct_cut, su_bn L n (by omega)]
    cases n with
    | zero =>
      rw [fb_ct_cong (q := fun _ => false) (fun k hk => decide_eq_false (by rw [hp k hk]; omega))]
      have : ∀ T, fb_ct (fun _ => false) T = 0 := fun T => by
        induction T with
        | zero => rfl
        | succ T ih => rw [fb_ct_succ, ih]; rfl
      rw [this]
      cases L <;> rfl
    | succ n =>
      rw [fb_ct_cong (q := fun s => decide (pc_ s = n)) (fun k hk => by rw [hp k hk]; exact decide_eq_decide.2 (by omega)), su_bn L n (by omega)]
      rfl
theorem bnn_le : ∀ L, L < 17 → ∀ n, n < 3 → bnn_ L n ≤ 120 := by decide +kernel
theorem su_120 {L n : Nat} (hL : L ≤ 16) (hn : n ≤ 2) : (su_ n (2 ^ L)).length ≤ 120 := by
  rw [su_ct, su_bn L n hL]
  exact bnn_le L (by omega) n (by omega)
theorem su_mem {n T s : Nat} (h : s ∈ su_ n T) : s < T ∧ pc_ s = n := by
  unfold su_ at h
  rw [List.mem_filter, List.mem_range] at h
  exact ⟨h.1, of_decide_eq_true h.2⟩
theorem ap_lt {l : List Nat} {x i : Nat} (h : i < l.length) : (l ++ [x]).getD i 0 = l.getD i 0 := by
  rw [List.getD_eq_getElem?_getD, List.getD_eq_getElem?_getD, List.getElem?_append_left h]
theorem ap_eq {l : List Nat} {x : Nat} : (l ++ [x]).getD l.length 0 = x := by
  rw [List.getD_eq_getElem?_getD, List.getElem?_append_right (Nat.le_refl _), Nat.sub_self]
  rfl
theorem gd_mem {l : List Nat} {i : Nat} (h : i < l.length) : l.getD i 0 ∈ l := by
  rw [List.getD_eq_getElem?_getD, List.getElem?_eq_getElem h]
  exact List.getElem_mem h
/-! suspicion: what is kept -/
def sL_ (P : ps_T) (r n : Nat) : List Nat := su_ n (2 ^ (px_at (ps_p P) r).length)
def sv_ (P : ps_T) (r n i : Nat) : Nat := (sL_ P r n).getD i 0
def sD_ (P : ps_T) (r n i t : Nat) : Nat × List Int32 := od_ (ps_p P) (ps_t P) (ps_f P) r (sv_ P r n i) t
def gr_ (P : ps_T) (r n t c : Nat) : Nat := fa_first (fun j => decide (sD_ P r n j t = sD_ P r n c t)) c
def rc_d (G : mm_G) (at' : Nat) (o : Nat × List Int32) : Prop := mg_i G 179 (10 * at') = nI o.1 ∧ mg_i G 179 (10 * at' + 1) = nI o.2.length ∧ ∀ j, j < o.2.length → mg_i G 179 (10 * at' + 2 + j) = o.2.getD j (nI 0)
def gU_ (G : mm_G) (P : ps_T) (r n t z : Nat) : Prop := ∀ c, c < z → mg_i G 178 (8 * c + t) = nI (gr_ P r n t c) ∧ (gr_ P r n t c = c → rc_d G (8 * c + t) (sD_ P r n c t))
def kU_ (G : mm_G) (P : ps_T) (r n : Nat) : Prop := mg_i G 175 12 = nI r ∧ mg_i G 175 13 = nI n ∧ mg_i G 175 10 = nI (sL_ P r n).length ∧ (∀ i, i < (sL_ P r n).length → mg_i G 176 i = nI (sv_ P r n i)) ∧ ∀ t, t < 8 → mg_i G 180 t = nI 0 ∨ (mg_i G 180 t = nI 1 ∧ gU_ G P r n t (sL_ P r n).length)
def cU_ (G : mm_G) (P : ps_T) : Prop := mg_i G 175 12 = -1 ∨ ∃ r n, r < (ps_p P).length ∧ n ≤ 2 ∧ kU_ G P r n
def fyy_ (c _k : Nat) : Bool := decide (175 ≤ c) && decide (c ≤ 187)
theorem fyy_F {c k : Nat} (h : c < 175 ∨ 187 < c) : fyy_ c k = false := by
  unfold fyy_
  rcases h with z | z
  · rw [decide_eq_false (p := 175 ≤ c) (by omega)]; rfl
  · rw [decide_eq_false (p := c ≤ 187) (by omega), Bool.and_false]
theorem fyy_on {c k : Nat} (h : rgB c k = true) : fyy_ c k = false := fyy_F (by have := rgB_iff.1 h; omega)
theorem cB_.fyy {G G1 : mm_G} {P : ps_T} (h : cB_ G P) (hP : ps_ok P) (hf : fr_ fyy_ G G1) : cB_ G1 P := h.on hP (hf.on (fun c k q => fyy_on q)) (by rw [hf.1]; exact Nat.le_refl _)
theorem s_gather {l : Launch} {κ : mm_K} {d : Nat} {G : mm_G} {K : mm_G → Prop} {P : ps_T} {r n : Nat} (hP : ps_ok P) (hC : cB_ G P) (hU : cU_ G P) (hr : r < (ps_p P).length) (hn : n ≤ 2)
    (h : ∀ G', kU_ G' P r n → fr_ fyy_ G G' → K G') : mC l κ true (d + 1) 0 0 m_X9_gather [.ref 175, .int (nI r), .int (nI n)] G (rV K) := by
  have hp := hP.1.1
  have hlen := hP.1.2.2 r
  have h16 := px_len_lt hlen
  have hn16 := px_len_lt (n := n) (by omega)
  have hn1 := Nat.two_pow_pos n
  have h120 := su_120 (n := n) hlen hn
  have hgo : vp_in (nI r) 4 ∧ mV l κ true (d + 1) 0 0 m_X9_gather 54 [some (.ref 175), some (.int (nI r)), some (.int (nI n)), some (.int ((nI 1) <<< ((mg_i (ms_i (ms_i G 175 12 (nI r)) 175 13 (nI n)) (54 + 2 * (nI r).toNatClampNeg) 1) &&& 31))), some (.int (((nI 1) <<< (nI n &&& 31)) - (nI 1))), none] [] (ms_i (ms_i (ms_i G 175 12 (nI r)) 175 13 (nI n)) 175 10 (nI 0)) (rV K) := by
    have f00 : fr_ fyy_ G (ms_i (ms_i G 175 12 (nI r)) 175 13 (nI n)) := (fr_.rfl'.si rfl).si rfl
    have f0 : fr_ fyy_ G (ms_i (ms_i (ms_i G 175 12 (nI r)) 175 13 (nI n)) 175 10 (nI 0)) := f00.si rfl
    refine ⟨(ki_vp (by omega)).2 (by omega), ?_⟩
    rw [nI_clamp (by omega), ((hC.fyy hP f00).1.2.1 r hr).1, ki_shl _ (by omega), ki_shl _ (by omega), ki_sub (by omega)]
    -- the marks are cleared
    have hmarks : ∀ v G1, fr_ fyy_ G G1 → mg_i G1 175 12 = nI r → mg_i G1 175 13 = nI n → mg_i G1 175 10 = nI (sL_ P r n).length → (∀ i, i < (sL_ P r n).length → mg_i G1 176 i = nI (sv_ P r n i)) → mV l κ true (d + 1) 0 0 m_X9_gather 103 [some (.ref 175), some (.int (nI r)), some (.int (nI n)), some (.int (nI (2 ^ (px_at (ps_p P) r).length))), some (.int v), some (.int (nI 0))] [] G1 (rV K) := by
      intro v G1 f1 b12 b13 b10 b176
      suffices H : ∀ w t G2, t + w = 8 → fr_ fyy_ G G2 → mg_i G2 175 12 = nI r → mg_i G2 175 13 = nI n → mg_i G2 175 10 = nI (sL_ P r n).length → (∀ i, i < (sL_ P r n).length → mg_i G2 176 i = nI (sv_ P r n i)) → (∀ j, j < t → mg_i G2 180 j = nI 0) → mV l κ true (d + 1) 0 0 m_X9_gather 103 [some (.ref 175), some (.int (nI r)), some (.int (nI n)), some (.int (nI (2 ^ (px_at (ps_p P) r).length))), some (.int v), some (.int (nI t))] [] G2 (rV K) from
        H 8 0 G1 rfl f1 b12 b13 b10 b176 (fun j hj => absurd hj (Nat.not_lt_zero j))
      intro w
      induction w with
      | zero =>
        intro t G2 ht f2 b12 b13 b10 b176 b180
        exact p_X9_gather_103 _ _ _ _ _ ⟨fun _ => h G2 ⟨b12, b13, b10, b176, fun j hj => Or.inl (b180 j (by omega))⟩ f2, fun z => absurd (nI_le (by omega) (by omega)) z⟩
      | succ w ih =>
        intro t G2 ht f2 b12 b13 b10 b176 b180
        refine p_X9_gather_103 _ _ _ _ _ ⟨fun z => absurd z (nI_ge (by omega) (by omega)), fun _ => ⟨(ki_vp (by omega)).2 (by omega), ?_⟩⟩
        rw [nI_add, nI_clamp (by omega), show vp_nar .boolean (nI 0) = nI 0 by decide +kernel]
        refine ih (t + 1) _ (by omega) (f2.si rfl) (by simp only [mg_i_i, mg_i_l, mg_i_r, mg_i_b, mg_l_i, mg_l_l, mg_l_r, mg_l_b, mg_r_i, mg_r_l, mg_r_r, mg_r_b, false_and, and_false, true_and, and_true, reduceCtorEq, if_true, if_false, reduceIte, Nat.reduceEqDiff, Nat.reduceAdd, Nat.succ_ne_self, ne_eq, not_false_eq_true, not_true_eq_false]; exact b12) (by simp only [mg_i_i, mg_i_l, mg_i_r, mg_i_b, mg_l_i, mg_l_l, mg_l_r, mg_l_b, mg_r_i, mg_r_l, mg_r_r, mg_r_b, false_and, and_false, true_and, and_true, reduceCtorEq, if_true, if_false, reduceIte, Nat.reduceEqDiff, Nat.reduceAdd, Nat.succ_ne_self, ne_eq, not_false_eq_true, not_true_eq_false]; exact b13) (by simp only [mg_i_i, mg_i_l, mg_i_r, mg_i_b, mg_l_i, mg_l_l, mg_l_r, mg_l_b, mg_r_i, mg_r_l, mg_r_r, mg_r_b, false_and, and_false, true_and, and_true, reduceCtorEq, if_true, if_false, reduceIte, Nat.reduceEqDiff, Nat.reduceAdd, Nat.succ_ne_self, ne_eq, not_false_eq_true, not_true_eq_false]; exact b10) (fun i hi => by simp only [mg_i_i, mg_i_l, mg_i_r, mg_i_b, mg_l_i, mg_l_l, mg_l_r, mg_l_b, mg_r_i, mg_r_l, mg_r_r, mg_r_b, false_and, and_false, true_and, and_true, reduceCtorEq, if_true, if_false, reduceIte, Nat.reduceEqDiff, Nat.reduceAdd, Nat.succ_ne_self, ne_eq, not_false_eq_true, not_true_eq_false]; exact b176 i hi) (fun j hj => ?_)
        simp only [mg_i_i, mg_i_l, mg_i_r, mg_i_b, mg_l_i, mg_l_l, mg_l_r, mg_l_b, mg_r_i, mg_r_l, mg_r_r, mg_r_b, false_and, and_false, true_and, and_true, reduceCtorEq, if_true, if_false, reduceIte, Nat.reduceEqDiff, Nat.reduceAdd, Nat.succ_ne_self, ne_eq, not_false_eq_true, not_true_eq_false]
        split
        · rfl
        · exact b180 j (by omega)
    -- the sets
    suffices H : ∀ m s G1, 2 ^ (px_at (ps_p P) r).length - s ≤ m → s < 2 ^ 20 → fr_ fyy_ G G1 → mg_i G1 175 12 = nI r → mg_i G1 175 13 = nI n → mg_i G1 175 10 = nI (su_ n s).length → (∀ i, i < (su_ n s).length → mg_i G1 176 i = nI ((su_ n s).getD i 0)) → (s < 2 ^ (px_at (ps_p P) r).length → pc_ s = n) → (2 ^ (px_at (ps_p P) r).length ≤ s → su_ n s = sL_ P r n) → mV l κ true (d + 1) 0 0 m_X9_gather 54 [some (.ref 175), some (.int (nI r)), some (.int (nI n)), some (.int (nI (2 ^ (px_at (ps_p P) r).length))), some (.int (nI s)), none] [] G1 (rV K) by
      have e0 : su_ n (2 ^ n - 1) = [] := by
        have := su_skip (n := n) (a := 0) (2 ^ n - 1) (fun x _ h2 => by
          have := pc_lt (n := x) (m := n) (by omega) (by omega)
          omega)
        rw [Nat.zero_add] at this
        rw [this]; rfl
      refine H _ (2 ^ n - 1) _ (Nat.le_refl _) (by omega) f0 (by simp only [mg_i_i, mg_i_l, mg_i_r, mg_i_b, mg_l_i, mg_l_l, mg_l_r, mg_l_b, mg_r_i, mg_r_l, mg_r_r, mg_r_b, false_and, and_false, true_and, and_true, reduceCtorEq, if_true, if_false, reduceIte, Nat.reduceEqDiff, Nat.reduceAdd, Nat.succ_ne_self, ne_eq, not_false_eq_true, not_true_eq_false]) (by simp only [mg_i_i, mg_i_l, mg_i_r, mg_i_b, mg_l_i, mg_l_l, mg_l_r, mg_l_b, mg_r_i, mg_r_l, mg_r_r, mg_r_b, false_and, and_false, true_and, and_true, reduceCtorEq, if_true, if_false, reduceIte, Nat.reduceEqDiff, Nat.reduceAdd, Nat.succ_ne_self, ne_eq, not_false_eq_true, not_true_eq_false]) (by rw [e0]; simp only [mg_i_i, mg_i_l, mg_i_r, mg_i_b, mg_l_i, mg_l_l, mg_l_r, mg_l_b, mg_r_i, mg_r_l, mg_r_r, mg_r_b, false_and, and_false, true_and, and_true, reduceCtorEq, if_true, if_false, reduceIte, Nat.reduceEqDiff, Nat.reduceAdd, Nat.succ_ne_self, ne_eq, not_false_eq_true, not_true_eq_false]; rfl) (fun i hi => by rw [e0] at hi; exact absurd hi (Nat.not_lt_zero i)) (fun _ => pc_ones (by omega)) (fun hge => ?_)
      unfold sL_
      have e1 : su_ n (2 ^ (px_at (ps_p P) r).length) = [] := by
        have h1 := su_len_le (n := n) hge
        rw [e0] at h1
        exact List.length_eq_zero_iff.mp (by have : ([] : List Nat).length = 0 := rfl; omega)
      rw [e0, e1]
    intro m
    have hdone : ∀ s G1, s < 2 ^ 20 → 2 ^ (px_at (ps_p P) r).length ≤ s → fr_ fyy_ G G1 → mg_i G1 175 12 = nI r → mg_i G1 175 13 = nI n → mg_i G1 175 10 = nI (su_ n s).length → (∀ i, i < (su_ n s).length → mg_i G1 176 i = nI ((su_ n s).getD i 0)) → su_ n s = sL_ P r n → mV l κ true (d + 1) 0 0 m_X9_gather 54 [some (.ref 175), some (.int (nI r)), some (.int (nI n)), some (.int (nI (2 ^ (px_at (ps_p P) r).length))), some (.int (nI s)), none] [] G1 (rV K) := by
      intro s G1 hs hge f1 b12 b13 b10 b176 e
      rw [e] at b10 b176
      exact p_X9_gather_54 _ _ _ _ ⟨fun _ => hmarks _ G1 f1 b12 b13 b10 b176, fun _ => ⟨fun _ => hmarks _ G1 f1 b12 b13 b10 b176, fun z => absurd (nI_le (by omega) (by omega)) z⟩⟩
    induction m with
    | zero =>
      intro s G1 hm hs f1 b12 b13 b10 b176 hpc hend
      exact hdone s G1 hs (by omega) f1 b12 b13 b10 b176 (hend (by omega))
    | succ m ih =>
      intro s G1 hm hs f1 b12 b13 b10 b176 hpc hend
      rcases Nat.lt_or_ge s (2 ^ (px_at (ps_p P) r).length) with c | c
      · have hpc := hpc c
        have hle := su_len_le (n := n) (show s + 1 ≤ 2 ^ (px_at (ps_p P) r).length by omega)
        rw [su_yes hpc, List.length_append] at hle
        have e1 : [s].length = 1 := rfl
        refine p_X9_gather_54 _ _ _ _ ?_
        rw [b10, nI_leI (by omega) (by omega), nI_leI (by omega) (by omega), nI_clamp (by omega)]
        refine ⟨fun z => by omega, fun _ => ⟨fun z => by omega, fun _ => ⟨(ki_vp (by omega)).2 (by omega), s_setBehind (by omega) (fun nx n1 n2 n3 n4 n5 => ?_)⟩⟩⟩
        rw [show mg_i (ms_i G1 176 (su_ n s).length (nI s)) 175 10 = nI (su_ n s).length by simp only [mg_i_i, mg_i_l, mg_i_r, mg_i_b, mg_l_i, mg_l_l, mg_l_r, mg_l_b, mg_r_i, mg_r_l, mg_r_r, mg_r_b, false_and, and_false, true_and, and_true, reduceCtorEq, if_true, if_false, reduceIte, Nat.reduceEqDiff, Nat.reduceAdd, Nat.succ_ne_self, ne_eq, not_false_eq_true, not_true_eq_false]; exact b10, nI_add]
        have hsk : ∀ T, s + 1 ≤ T → T ≤ nx → T ≤ 65536 → su_ n T = su_ n s ++ [s] := by
          intro T h1 h2 h3
          rw [← su_yes hpc]
          have := su_skip (n := n) (a := s + 1) (T - (s + 1)) (fun x h4 h5 => ?_)
          · rw [show s + 1 + (T - (s + 1)) = T by omega] at this
            exact this
          · by_cases s0 : s = 0
            · have hn0 : n = 0 := by rw [← hpc, s0]; exact pc_0
              have := pc_pos (n := x) (m := 16) (by omega) (by omega) (by omega)
              omega
            · have := n4 s0 x (by omega) (by omega)
              omega
        have hlist : ∀ T, su_ n T = su_ n s ++ [s] → (mg_i (ms_i (ms_i G1 176 (su_ n s).length (nI s)) 175 10 (nI ((su_ n s).length + 1))) 175 10 = nI (su_ n T).length) ∧ ∀ i, i < (su_ n T).length → mg_i (ms_i (ms_i G1 176 (su_ n s).length (nI s)) 175 10 (nI ((su_ n s).length + 1))) 176 i = nI ((su_ n T).getD i 0) := by
          intro T e
          rw [e, List.length_append]
          refine ⟨by simp only [mg_i_i, mg_i_l, mg_i_r, mg_i_b, mg_l_i, mg_l_l, mg_l_r, mg_l_b, mg_r_i, mg_r_l, mg_r_r, mg_r_b, false_and, and_false, true_and, and_true, reduceCtorEq, if_true, if_false, reduceIte, Nat.reduceEqDiff, Nat.reduceAdd, Nat.succ_ne_self, ne_eq, not_false_eq_true, not_true_eq_false]; rfl, fun i hi => ?_⟩
          simp only [mg_i_i, mg_i_l, mg_i_r, mg_i_b, mg_l_i, mg_l_l, mg_l_r, mg_l_b, mg_r_i, mg_r_l, mg_r_r, mg_r_b, false_and, and_false, true_and, and_true, reduceCtorEq, if_true, if_false, reduceIte, Nat.reduceEqDiff, Nat.reduceAdd, Nat.succ_ne_self, ne_eq, not_false_eq_true, not_true_eq_false]
          by_cases ci : i = (su_ n s).length
          · rw [if_pos ci, ci, ap_eq]
          · rw [if_neg ci, ap_lt (by omega)]; exact b176 i (by omega)
        have f2 : fr_ fyy_ G (ms_i (ms_i G1 176 (su_ n s).length (nI s)) 175 10 (nI ((su_ n s).length + 1))) := (f1.si rfl).si rfl
        rcases Nat.lt_or_ge nx (2 ^ (px_at (ps_p P) r).length) with cn | cn
        · have e := hsk nx (by omega) (Nat.le_refl _) (by omega)
          obtain ⟨k1, k2⟩ := hlist nx e
          refine ih nx _ (by omega) n2 f2 (by simp only [mg_i_i, mg_i_l, mg_i_r, mg_i_b, mg_l_i, mg_l_l, mg_l_r, mg_l_b, mg_r_i, mg_r_l, mg_r_r, mg_r_b, false_and, and_false, true_and, and_true, reduceCtorEq, if_true, if_false, reduceIte, Nat.reduceEqDiff, Nat.reduceAdd, Nat.succ_ne_self, ne_eq, not_false_eq_true, not_true_eq_false]; exact b12) (by simp only [mg_i_i, mg_i_l, mg_i_r, mg_i_b, mg_l_i, mg_l_l, mg_l_r, mg_l_b, mg_r_i, mg_r_l, mg_r_r, mg_r_b, false_and, and_false, true_and, and_true, reduceCtorEq, if_true, if_false, reduceIte, Nat.reduceEqDiff, Nat.reduceAdd, Nat.succ_ne_self, ne_eq, not_false_eq_true, not_true_eq_false]; exact b13) k1 k2 (fun _ => ?_) (fun q => absurd q (by omega))
          by_cases s0 : s = 0
          · have := n3 s0
            omega
          · rw [n5 s0]; exact hpc
        · have e := hsk (2 ^ (px_at (ps_p P) r).length) (by omega) cn (by omega)
          obtain ⟨k1, k2⟩ := hlist _ e
          have hlast := fun v => hmarks v _ f2 (by simp only [mg_i_i, mg_i_l, mg_i_r, mg_i_b, mg_l_i, mg_l_l, mg_l_r, mg_l_b, mg_r_i, mg_r_l, mg_r_r, mg_r_b, false_and, and_false, true_and, and_true, reduceCtorEq, if_true, if_false, reduceIte, Nat.reduceEqDiff, Nat.reduceAdd, Nat.succ_ne_self, ne_eq, not_false_eq_true, not_true_eq_false]; exact b12) (by simp only [mg_i_i, mg_i_l, mg_i_r, mg_i_b, mg_l_i, mg_l_l, mg_l_r, mg_l_b, mg_r_i, mg_r_l, mg_r_r, mg_r_b, false_and, and_false, true_and, and_true, reduceCtorEq, if_true, if_false, reduceIte, Nat.reduceEqDiff, Nat.reduceAdd, Nat.succ_ne_self, ne_eq, not_false_eq_true, not_true_eq_false]; exact b13) k1 k2
          exact p_X9_gather_54 _ _ _ _ ⟨fun _ => hlast _, fun _ => ⟨fun _ => hlast _, fun z => absurd (nI_le (by omega) (by omega)) z⟩⟩
      · exact hdone s G1 hs c f1 b12 b13 b10 b176 (hend c)
  refine e_X9_gather _ _ ⟨fun _ => hgo, fun e12 => ⟨fun _ => hgo, fun e13 => ?_⟩⟩
  rcases hU with z | ⟨r', n', z1, z2, z3⟩
  · rw [z, ki_m1' (by omega)] at e12
    exact e12.elim
  · have er : r' = r := (nI_eq (by omega) (by omega)).1 (z3.1.symm.trans e12)
    have en : n' = n := (nI_eq (by omega) (by omega)).1 (z3.2.1.symm.trans e13)
    subst er en
    exact h G z3 fr_.rfl'
