/-! reading: the reference cuts a text into tokens -/
def mX_ (G : mm_G) (b : List Nat) : Prop := mg_i G 226 4 = nI b.length ∧ b.length ≤ 2000 ∧ (∀ j, j < b.length → mg_i G 228 j &&& nI 255 = nI (bq_ b j) ∧ bq_ b j < 256) ∧ ∀ k, k < 20 → mg_l G 233 k = lN (ky_.getD k 0)
def fcj_ (n c k : Nat) : Bool := decide ((c = 226 ∧ k = 10) ∨ (229 ≤ c ∧ c ≤ 232 ∧ k = n))
theorem fcj_F {n c k : Nat} (h : ¬ ((c = 226 ∧ k = 10) ∨ (229 ≤ c ∧ c ≤ 232 ∧ k = n))) : fcj_ n c k = false := decide_eq_false h
theorem fcj_T {n c k : Nat} (h : (c = 226 ∧ k = 10) ∨ (229 ≤ c ∧ c ≤ 232 ∧ k = n)) : fcj_ n c k = true := decide_eq_true h
theorem mX_.fr {S : Nat → Nat → Bool} {G G1 : mm_G} {b : List Nat} (h : mX_ G b) (hf : fr_ S G G1) (hS : ∀ c k, (c = 226 ∧ k = 4) ∨ c = 228 ∨ c = 233 → S c k = false) : mX_ G1 b := by
  obtain ⟨a1, a2, a3, a4⟩ := h
  exact ⟨by rw [hf.i _ _ (hS _ _ (by omega))]; exact a1, a2, fun j hj => by rw [hf.i _ _ (hS _ _ (by omega))]; exact a3 j hj, fun k hk => by rw [hf.l _ _ (hS _ _ (by omega))]; exact a4 k hk⟩
theorem bq_over {b : List Nat} {i : Nat} (h : b.length ≤ i) : bq_ b i = 0 := by
  unfold bq_
  rw [List.getD_eq_getElem?_getD, List.getElem?_eq_none h]
  rfl
theorem bq_lt {G : mm_G} {b : List Nat} (h : mX_ G b) (i : Nat) : bq_ b i < 256 := by
  by_cases c : i < b.length
  · exact (h.2.2.1 i c).2
  · rw [bq_over (by omega)]; omega
theorem t_byteAt {l : Launch} {κ : mm_K} {d : Nat} {G : mm_G} {K : Int32 → mm_G → Prop} {b : List Nat} {i : Nat} (hX : mX_ G b) (hi : i < 10000) (h : K (nI (bq_ b i)) G) : mC l κ true d 0 0 m_X13_byteAt [.ref 226, .int (nI i)] G (rI K) := by
  obtain ⟨a1, a2, a3, a4⟩ := hX
  refine e_X13_byteAt _ ?_
  rw [a1, nI_leI (by omega) (by omega), nI_clamp (by omega)]
  refine ⟨fun y => ?_, fun y => ⟨(ki_vp (by omega)).2 (by omega), ?_⟩⟩
  · rw [bq_over y] at h; exact h
  · rw [(a3 i (by omega)).1]; exact h
theorem t_isL {l : Launch} {κ : mm_K} {d : Nat} {G : mm_G} {K : Int32 → mm_G → Prop} {c : Nat} (hc : c < 256) (h : K (if isL_ c = true then nI 1 else nI 0) G) : mC l κ true d 0 0 m_X13_isLetter [.int (nI c)] G (rI K) := by
  refine e_X13_isLetter _ ?_
  rw [nI_ltI (by omega) (by omega), nI_ltI (by omega) (by omega)]
  unfold isL_ at h
  refine ⟨fun y => ?_, fun y => ⟨fun z => ?_, fun z => ?_⟩⟩
  · rw [decide_eq_false (by omega), if_neg (by decide)] at h; exact h
  · rw [decide_eq_false (by omega), if_neg (by decide)] at h; exact h
  · rw [decide_eq_true (by omega), if_pos rfl] at h; exact h
theorem t_isD {l : Launch} {κ : mm_K} {d : Nat} {G : mm_G} {K : Int32 → mm_G → Prop} {c : Nat} (hc : c < 256) (h : K (if isD_ c = true then nI 1 else nI 0) G) : mC l κ true d 0 0 m_X13_isDigit [.int (nI c)] G (rI K) := by
  refine e_X13_isDigit _ ?_
  rw [nI_ltI (by omega) (by omega), nI_ltI (by omega) (by omega)]
  unfold isD_ at h
  refine ⟨fun y => ?_, fun y => ⟨fun z => ?_, fun z => ?_⟩⟩
  · rw [decide_eq_false (by omega), if_neg (by decide)] at h; exact h
  · rw [decide_eq_false (by omega), if_neg (by decide)] at h; exact h
  · rw [decide_eq_true (by omega), if_pos rfl] at h; exact h
theorem t_token {l : Launch} {κ : mm_K} {d : Nat} {G : mm_G} {K : mm_G → Prop} {n : Nat} (a1 a2 a3 : Int32) (a4 : Int64) (hn : n ≤ 400) (h10 : mg_i G 226 10 = nI n) (h : ∀ G', mg_i G' 229 n = a1 → mg_i G' 230 n = a2 → mg_i G' 231 n = a3 → mg_l G' 232 n = a4 → mg_i G' 226 10 = nI (n + 1) → fr_ (fcj_ n) G G' → K G') : mC l κ true d 0 0 m_X13_token [.ref 226, .int a1, .int a2, .int a3, .long a4] G (rV K) := by
  refine e_X13_token _ _ _ _ ?_
  rw [h10, nI_clamp (n := n) (by omega), nI_add]
  have vp : vp_in (nI n) 403 := (ki_vp (by omega)).2 (by omega)
  exact ⟨vp, vp, vp, vp, h _ (by simp only [mg_i_i, mg_i_l, mg_i_r, mg_i_b, mg_l_i, mg_l_l, mg_l_r, mg_l_b, mg_r_i, mg_r_l, mg_r_r, mg_r_b, false_and, and_false, true_and, and_true, reduceCtorEq, if_true, if_false, reduceIte, Nat.reduceEqDiff, Nat.reduceAdd, Nat.succ_ne_self, ne_eq, not_false_eq_true, not_true_eq_false]) (by simp only [mg_i_i, mg_i_l, mg_i_r, mg_i_b, mg_l_i, mg_l_l, mg_l_r, mg_l_b, mg_r_i, mg_r_l, mg_r_r, mg_r_b, false_and, and_false, true_and, and_true, reduceCtorEq, if_true, if_false, reduceIte, Nat.reduceEqDiff, Nat.reduceAdd, Nat.succ_ne_self, ne_eq, not_false_eq_true, not_true_eq_false]) (by simp only [mg_i_i, mg_i_l, mg_i_r, mg_i_b, mg_l_i, mg_l_l, mg_l_r, mg_l_b, mg_r_i, mg_r_l, mg_r_r, mg_r_b, false_and, and_false, true_and, and_true, reduceCtorEq, if_true, if_false, reduceIte, Nat.reduceEqDiff, Nat.reduceAdd, Nat.succ_ne_self, ne_eq, not_false_eq_true, not_true_eq_false]) (by simp only [mg_i_i, mg_i_l, mg_i_r, mg_i_b, mg_l_i, mg_l_l, mg_l_r, mg_l_b, mg_r_i, mg_r_l, mg_r_r, mg_r_b, false_and, and_false, true_and, and_true, reduceCtorEq, if_true, if_false, reduceIte, Nat.reduceEqDiff, Nat.reduceAdd, Nat.succ_ne_self, ne_eq, not_false_eq_true, not_true_eq_false]) (by simp only [mg_i_i, mg_i_l, mg_i_r, mg_i_b, mg_l_i, mg_l_l, mg_l_r, mg_l_b, mg_r_i, mg_r_l, mg_r_r, mg_r_b, false_and, and_false, true_and, and_true, reduceCtorEq, if_true, if_false, reduceIte, Nat.reduceEqDiff, Nat.reduceAdd, Nat.succ_ne_self, ne_eq, not_false_eq_true, not_true_eq_false]) (((((fr_.rfl'.si (fcj_T (by omega))).si (fcj_T (by omega))).si (fcj_T (by omega))).sl (fcj_T (by omega))).si (fcj_T (by omega)))⟩
/-- token n lies at place i -/
def tkm_ (G : mm_G) (b : List Nat) (n i : Nat) : Prop := mg_i G 229 n = nI (mkk_ (tk3_ b i).1) ∧ mg_i G 230 n = nI i ∧ ((tk3_ b i).1 = 3 → mg_i G 231 n = nI (tk3_ b i).2.1) ∧ ((tk3_ b i).1 = 2 → mg_l G 232 n = lN (tk3_ b i).2.1)
theorem t_sign {l : Launch} {κ : mm_K} {d : Nat} {G : mm_G} {K : Int32 → mm_G → Prop} {b : List Nat} {i n : Nat} (hX : mX_ G b) (hi : i < b.length) (hn : n ≤ 400) (h10 : mg_i G 226 10 = nI n) (hL : isL_ (bq_ b i) = false) (hD : isD_ (bq_ b i) = false)
    (h : ∀ G' m, tkm_ G' b n i → i + m = (tk3_ b i).2.2 → mg_i G' 226 10 = nI (n + 1) → fr_ (fcj_ n) G G' → K (nI m) G') : mC l κ true (d + 1) 0 0 m_X13_sign [.ref 226, .int (nI i), .int (nI (bq_ b i)), .int (nI (bq_ b (i + 1)))] G (rI K) := by
  have hb1 := bq_lt hX i
  have hb2 := bq_lt hX (i + 1)
  have e3 : tk3_ b i = (sgk_ (bq_ b i) (eqs_ b i), 0, i + sgn2_ (bq_ b i) (eqs_ b i)) := by
    unfold tk3_
    rw [if_pos hi, if_neg (by rw [hL]; decide), if_neg (by rw [hD]; decide)]
  have heq : eqs_ b i = decide (bq_ b (i + 1) = 61) := by
    unfold eqs_
    by_cases c : i + 1 < b.length
    · exact decide_eq_decide.2 ⟨fun q => q.2, fun q => ⟨c, q⟩⟩
    · rw [bq_over (b := b) (i := i + 1) (by omega)]
      rw [decide_eq_false (by omega), decide_eq_false (by omega)]
  have hsg := sgk_le (c := bq_ b i) (e := eqs_ b i)
  have H : ∀ (k m : Nat) (v4 : Int32), nI k = nI (mkk_ (sgk_ (bq_ b i) (eqs_ b i))) → m = sgn2_ (bq_ b i) (eqs_ b i) → ((v4 ≤ 0 ∧ m = 1) ∨ (¬ v4 ≤ 0 ∧ m = 2)) → mV l κ true (d + 1) 0 0 m_X13_sign 134 [some (.ref 226), some (.int (nI i)), some (.int (nI (bq_ b i))), some (.int (nI (bq_ b (i + 1)))), some (.int v4), some (.int (nI k))] [] G (rI K) := by
    intro k m v4 hk hm hv
    refine p_X13_sign_134 _ _ _ _ _ (t_token _ _ _ _ hn h10 (fun G2 x1 x2 x3 x4 x5 f2 => ?_))
    have hT : tkm_ G2 b n i := ⟨by rw [x1, hk, e3], x2, fun q => by rw [e3] at q; exact absurd q hsg.2.2.2, fun q => by rw [e3] at q; exact absurd q hsg.2.2.1⟩
    have hh := h G2 m hT (by rw [e3, hm]) x5 f2
    rcases hv with ⟨v1, rfl⟩ | ⟨v1, rfl⟩
    · exact ⟨fun _ => hh, fun y => absurd v1 y⟩
    · exact ⟨fun y => absurd y v1, fun _ => hh⟩
  have H0 : (bq_ b (i + 1) = 61 → bq_ b i ≠ 60 ∧ bq_ b i ≠ 61 ∧ bq_ b i ≠ 33) → mV l κ true (d + 1) 0 0 m_X13_sign 46 [some (.ref 226), some (.int (nI i)), some (.int (nI (bq_ b i))), some (.int (nI (bq_ b (i + 1)))), some (.int (nI 0)), none] [] G (rI K) := by
    intro hne
    refine p_X13_sign_46 _ _ _ _ ?_
    rw [nI_eq (b := 59) (by omega) (by omega), nI_eq (b := 58) (by omega) (by omega), nI_eq (b := 123) (by omega) (by omega), nI_eq (b := 125) (by omega) (by omega), nI_eq (b := 45) (by omega) (by omega), nI_eq (b := 60) (by omega) (by omega)]
    have hs1 : sgn2_ (bq_ b i) (eqs_ b i) = 1 := by
      unfold sgn2_
      rw [if_neg]
      rintro ⟨q1, q2⟩
      rw [heq] at q1
      have := hne (of_decide_eq_true q1)
      omega
    refine ⟨fun _ => ⟨fun c1 => ⟨fun c2 => ⟨fun c3 => ⟨fun c4 => ⟨fun c5 => ⟨fun c6 => ?_, fun c6 => ?_⟩, fun c5 => ?_⟩, fun c4 => ?_⟩, fun c3 => ?_⟩, fun c2 => ?_⟩, fun c1 => ?_⟩, fun y => absurd (by decide) y⟩
    · refine H 3 1 _ ?_ hs1.symm (Or.inl ⟨by decide, rfl⟩)
      have : sgk_ (bq_ b i) (eqs_ b i) = 1 := by
        unfold sgk_
        rw [if_neg c1, if_neg c2, if_neg c3, if_neg c4, if_neg c5, if_neg c6]
        cases he : eqs_ b i with
        | false =>
          by_cases w1 : bq_ b i = 61
          · rw [if_pos w1]; rfl
          · rw [if_neg w1]
            by_cases w2 : bq_ b i = 33
            · rw [if_pos w2]; rfl
            · rw [if_neg w2]
        | true =>
          rw [heq] at he
          have := hne (of_decide_eq_true he)
          rw [if_neg (by omega), if_neg (by omega)]
      rw [this]; rfl
    · refine H 11 1 _ ?_ hs1.symm (Or.inl ⟨by decide, rfl⟩)
      have he : eqs_ b i = false := by
        rw [heq]
        exact decide_eq_false (fun q => (hne q).1 c6)
      rw [he, c6]; rfl
    · exact H 5 1 _ (by rw [c5]; rfl) hs1.symm (Or.inl ⟨by decide, rfl⟩)
    · exact H 8 1 _ (by rw [c4]; rfl) hs1.symm (Or.inl ⟨by decide, rfl⟩)
    · exact H 7 1 _ (by rw [c3]; rfl) hs1.symm (Or.inl ⟨by decide, rfl⟩)
    · exact H 6 1 _ (by rw [c2]; rfl) hs1.symm (Or.inl ⟨by decide, rfl⟩)
    · exact H 4 1 _ (by rw [c1]; rfl) hs1.symm (Or.inl ⟨by decide, rfl⟩)
  have H2 : ∀ k : Nat, 0 < k → k < 100 → mkk_ (sgk_ (bq_ b i) (eqs_ b i)) = k → sgn2_ (bq_ b i) (eqs_ b i) = 2 → mV l κ true (d + 1) 0 0 m_X13_sign 46 [some (.ref 226), some (.int (nI i)), some (.int (nI (bq_ b i))), some (.int (nI (bq_ b (i + 1)))), some (.int (nI k)), none] [] G (rI K) := by
    intro k hk hk2 he hs
    have hn0 : ¬ nI k ≤ 0 := by rw [ki_0, nI_leI (by omega) (by omega)]; omega
    exact p_X13_sign_46 _ _ _ _ ⟨fun y => absurd y hn0, fun _ => H k 2 _ (by rw [he]) hs.symm (Or.inr ⟨hn0, rfl⟩)⟩
  refine e_X13_sign _ _ _ ?_
  rw [nI_eq (a := bq_ b (i + 1)) (by omega) (by omega), nI_eq (a := bq_ b i) (b := 61) (by omega) (by omega), nI_eq (a := bq_ b i) (b := 33) (by omega) (by omega), nI_eq (a := bq_ b i) (b := 60) (by omega) (by omega)]
  refine ⟨fun y => ?_, fun y => H0 (fun q => absurd q y)⟩
  have he : eqs_ b i = true := by rw [heq]; exact decide_eq_true y
  refine ⟨fun c1 => ⟨fun c2 => ⟨fun c3 => H0 (fun _ => ⟨c3, c1, c2⟩), fun c3 => ?_⟩, fun c2 => ?_⟩, fun c1 => ?_⟩
  · exact H2 12 (by omega) (by omega) (by rw [he, c3]; rfl) (by rw [he, c3]; rfl)
  · exact H2 10 (by omega) (by omega) (by rw [he, c2]; rfl) (by rw [he, c2]; rfl)
  · exact H2 9 (by omega) (by omega) (by rw [he, c1]; rfl) (by rw [he, c1]; rfl)
/-! words -/
def kyv_ (v : Nat) : Nat → Nat
  | 0 => 1
  | w + 1 => if ky_.getD w 0 = v then 20 + w else kyv_ v w
theorem kyv_wd : ∀ w, w < 20 → kyv_ (wd_.getD w 0) 20 = mkk_ (wkd_ (wd_.getD w 0)) := by decide +kernel
theorem ky_wd : ∀ w, w < 20 → ∃ u, u < 20 ∧ ky_.getD w 0 = wd_.getD u 0 := by decide +kernel
theorem kyv_eq (v : Nat) : kyv_ v 20 = mkk_ (wkd_ v) := by
  by_cases c : wix_ v < 20
  · have hv := fa_first_yes (fun w => decide (wd_.getD w 0 = v)) 20 c
    have hv : wd_.getD (wix_ v) 0 = v := of_decide_eq_true hv
    rw [← hv]
    exact kyv_wd _ c
  · have hno : ∀ w, w < 20 → wd_.getD w 0 ≠ v := fun w hw => of_decide_eq_false (fa_first_no (fun w => decide (wd_.getD w 0 = v)) 20 w (by show w < wix_ v; omega))
    have H : ∀ n, n ≤ 20 → kyv_ v n = 1 := by
      intro n
      induction n with
      | zero => intro _; rfl
      | succ n ih =>
        intro hn
        obtain ⟨u, hu, e⟩ := ky_wd n (by omega)
        show (if ky_.getD n 0 = v then 20 + n else kyv_ v n) = 1
        rw [if_neg (by rw [e]; exact hno u hu)]
        exact ih (by omega)
    rw [H 20 (Nat.le_refl _)]
    unfold wkd_
    rw [if_neg c]
    rfl
theorem ky_lt : ∀ w, w < 20 → ky_.getD w 0 < 2 ^ 62 := by decide +kernel
theorem wd_big {v : Nat} (h : 10460353203 ≤ v) : wkd_ v = 2 := by
  have hb : ∀ w, w < 20 → wd_.getD w 0 < 10460353203 := by decide +kernel
  have e : wix_ v = 20 := ff_no (fun w hw => decide_eq_false (by have := hb w hw; omega))
  unfold wkd_
  rw [e, if_neg (by omega)]
theorem wkd_n3 {v : Nat} : ¬ wkd_ v = 3 := fun q => by
  have := wkd_le (v := v)
  omega
theorem t_keys {l : Launch} {κ : mm_K} {d : Nat} {G : mm_G} {K : mm_G → Prop} {b : List Nat} {i V R : Nat} (v2 : Int32) (hX : mX_ G b) (hV : V < 2 ^ 62) (h : mC l κ true (d + 1) 0 0 m_X13_token [.ref 226, .int (nI (mkk_ (wkd_ V))), .int (nI i), .int (nI 0), .long (lN V)] G (rV (fun G2 => mV l κ true (d + 2) 0 0 m_X13_cut 7 [some (.ref 226), some (.int (nI i + nI R)), none, none, none, none, none, none] [] G2 (rV K)))) : ∀ m w, w + m = 20 → mV l κ true (d + 2) 0 0 m_X13_cut 146 [some (.ref 226), some (.int (nI i)), some (.int v2), some (.int (nI R)), some (.long (lN V)), none, some (.int (nI (kyv_ V w))), some (.int (nI w))] [] G (rV K) := by
  rw [← kyv_eq V] at h
  intro m
  induction m with
  | zero =>
    intro w hw
    have hle : nI 20 ≤ nI w := nI_le (by omega) (by omega)
    refine p_X13_cut_146 _ _ _ _ _ _ ⟨fun _ => ?_, fun y => absurd hle y⟩
    have e : w = 20 := by omega
    rw [e]
    exact h
  | succ m ih =>
    intro w hw
    have hww := ky_lt w (by omega)
    have ih1 := ih (w + 1) (by omega)
    have ek : kyv_ V (w + 1) = if ky_.getD w 0 = V then 20 + w else kyv_ V w := rfl
    rw [ek] at ih1
    generalize kyv_ V w = z at ih1 ⊢
    have hnle : ¬ nI 20 ≤ nI w := nI_ge (by omega) (by omega)
    refine p_X13_cut_146 _ _ _ _ _ _ ⟨fun y => absurd y hnle, fun _ => ⟨(ki_vp (by omega)).2 (by omega), ?_⟩⟩
    rw [nI_clamp (by omega), hX.2.2.2 w (by omega), ki_0, ki_cmp, fb_lN_inj (by omega) (by omega), nI_add, nI_add]
    refine ⟨fun y => ?_, fun y => ?_⟩
    · rw [if_neg y] at ih1; exact ih1
    · rw [if_pos y] at ih1; exact ih1
theorem t_letters {l : Launch} {κ : mm_K} {d : Nat} {G : mm_G} {K : mm_G → Prop} {b : List Nat} {i n : Nat} (v2 : Int32) (hX : mX_ G b) (hi : i < b.length) (hn : n ≤ 400) (h10 : mg_i G 226 10 = nI n) (hL : isL_ (bq_ b i) = true)
    (h : ∀ G', tkm_ G' b n i → mg_i G' 226 10 = nI (n + 1) → fr_ (fcj_ n) G G' → mV l κ true (d + 2) 0 0 m_X13_cut 7 [some (.ref 226), some (.int (nI (tk3_ b i).2.2)), none, none, none, none, none, none] [] G' (rV K)) : mV l κ true (d + 2) 0 0 m_X13_cut 85 [some (.ref 226), some (.int (nI i)), some (.int v2), some (.int (nI 0)), some (.long (lN 0)), none, none, none] [] G (rV K) := by
  have hX2 := hX.2.1
  have hrl := rlen_le (f := isL_) (b := b) (i := i)
  have e3 : tk3_ b i = (if rlen_ isL_ b i ≤ 8 then wkd_ (nmc_ b i (rlen_ isL_ b i)) else 1, nmc_ b i (rlen_ isL_ b i), i + rlen_ isL_ b i) := by
    unfold tk3_
    rw [if_pos hi, if_pos hL]
  -- behind the letters
  have hend : ∀ m, m = rlen_ isL_ b i → ((nI m ≤ (nI 8) → (((nI 7) < nI m → mC l κ true (d + 1) 0 0 m_X13_token [.ref 226, .int (nI 1), .int (nI i), .int (nI 0), .long (lN (nmc_ b i (min m 8)))] G (rV (fun G6 => mV l κ true (d + 2) 0 0 m_X13_cut 7 [some (.ref 226), some (.int (nI i + nI m)), none, none, none, none, none, none] [] G6 (rV K)))) ∧ (¬ (nI 7) < nI m → mV l κ true (d + 2) 0 0 m_X13_cut 146 [some (.ref 226), some (.int (nI i)), some (.int v2), some (.int (nI m)), some (.long (lN (nmc_ b i (min m 8)))), none, some (.int (nI 1)), some (.int (nI 0))] [] G (rV K)))) ∧ (¬ nI m ≤ (nI 8) → (((nI 7) < nI m → mC l κ true (d + 1) 0 0 m_X13_token [.ref 226, .int (nI 3), .int (nI i), .int (nI 0), .long (lN (nmc_ b i (min m 8)))] G (rV (fun G8 => mV l κ true (d + 2) 0 0 m_X13_cut 7 [some (.ref 226), some (.int (nI i + nI m)), none, none, none, none, none, none] [] G8 (rV K)))) ∧ (¬ (nI 7) < nI m → mV l κ true (d + 2) 0 0 m_X13_cut 146 [some (.ref 226), some (.int (nI i)), some (.int v2), some (.int (nI m)), some (.long (lN (nmc_ b i (min m 8)))), none, some (.int (nI 3)), some (.int (nI 0))] [] G (rV K))))) := by
    intro m hm
    subst hm
    rw [nI_leI (by omega) (by omega), nI_ltI (by omega) (by omega), nI_add]
    refine ⟨fun h8 => ⟨fun h7 => ?_, fun h7 => ?_⟩, fun h8 => ⟨fun h7 => ?_, fun h7 => by omega⟩⟩
    · have e8 : rlen_ isL_ b i = 8 := by omega
      have hge := nmc_ge (b := b) (i := i) 7 (by omega)
      have hge : 10460353203 ≤ nmc_ b i 8 := hge
      rw [if_pos h8, e8, wd_big hge] at e3
      rw [show min (rlen_ isL_ b i) 8 = 8 by omega]
      refine t_token _ _ _ _ hn h10 (fun G2 x1 x2 x3 x4 x5 f2 => ?_)
      have hh := h G2 ⟨by rw [x1, e3]; rfl, x2, fun q => by rw [e3] at q; exact absurd (show 2 = 3 from q) (by decide), fun q => by rw [x4, e3]⟩ x5 f2
      rw [e3] at hh
      rw [e8]
      exact hh
    · rw [show min (rlen_ isL_ b i) 8 = rlen_ isL_ b i by omega]
      have hlt := nmc_lt (b := b) (i := i) _ (Nat.le_refl (rlen_ isL_ b i))
      have h27 := p27_le (m := rlen_ isL_ b i) (by omega)
      rw [if_pos (by omega)] at e3
      refine t_keys _ hX (by omega) ?_ 20 0 rfl
      rw [nI_add]
      refine t_token _ _ _ _ hn h10 (fun G2 x1 x2 x3 x4 x5 f2 => ?_)
      have y1 : mg_i G2 229 n = nI (mkk_ (tk3_ b i).1) := by rw [x1, e3]
      have y4 : mg_l G2 232 n = lN (tk3_ b i).2.1 := by rw [x4, e3]
      have y0 : (tk3_ b i).1 = wkd_ (nmc_ b i (rlen_ isL_ b i)) := by rw [e3]
      have y3 : ¬ (tk3_ b i).1 = 3 := fun q => wkd_n3 (y0.symm.trans q)
      have y5 : (tk3_ b i).2.2 = i + rlen_ isL_ b i := by rw [e3]
      have hh := h G2 ⟨y1, x2, fun q => absurd q y3, fun _ => y4⟩ x5 f2
      rw [y5] at hh
      exact hh
    · rw [if_neg h8] at e3
      refine t_token _ _ _ _ hn h10 (fun G2 x1 x2 x3 x4 x5 f2 => ?_)
      have hh := h G2 ⟨by rw [x1, e3]; rfl, x2, fun q => by rw [e3] at q; exact absurd (show 1 = 3 from q) (by decide), fun q => by rw [e3] at q; exact absurd (show 1 = 2 from q) (by decide)⟩ x5 f2
      rw [e3] at hh
      exact hh
  suffices H : ∀ q m, i + m + q = b.length → (∀ k, k < m → isL_ (bq_ b (i + k)) = true) → mV l κ true (d + 2) 0 0 m_X13_cut 85 [some (.ref 226), some (.int (nI i)), some (.int v2), some (.int (nI m)), some (.long (lN (nmc_ b i (min m 8)))), none, none, none] [] G (rV K) from H (b.length - i) 0 (by omega) (fun k hk => absurd hk (Nat.not_lt_zero k))
  intro q
  induction q with
  | zero =>
    intro m hm hk
    refine p_X13_cut_85 _ _ _ _ ?_
    have hend' := hend m (rlen_at hk (Or.inl (by omega)) (by omega)).symm
    rw [nI_add]
    rw [nI_add] at hend'
    refine t_byteAt hX (by omega) (t_isL (bq_lt hX _) ?_)
    rw [bq_over (show b.length ≤ i + m by omega), if_neg (by decide)]
    exact ⟨fun _ => hend', fun y => absurd (by decide) y⟩
  | succ q ih =>
    intro m hm hk
    refine p_X13_cut_85 _ _ _ _ ?_
    rw [nI_add]
    refine t_byteAt hX (by omega) (t_isL (bq_lt hX _) ?_)
    cases c : isL_ (bq_ b (i + m)) with
    | false =>
      have hend' := hend m (rlen_at hk (Or.inr c) (by omega)).symm
      rw [nI_add] at hend'
      rw [if_neg (by decide)]
      exact ⟨fun _ => hend', fun y => absurd (by decide) y⟩
    | true =>
      have hc := of_decide_eq_true c
      rw [if_pos rfl, nI_leI (a := 8) (b := m) (by omega) (by omega), nI_add]
      refine ⟨fun y => absurd y (by decide), fun _ => ?_⟩
      have ih1 := ih (m + 1) (by omega) (fun k hk2 => by
        rcases Nat.lt_succ_iff_lt_or_eq.mp hk2 with z | z
        · exact hk k z
        · subst z; exact c)
      refine ⟨fun y => ?_, fun y => t_byteAt hX (by omega) (e_X13_appends _ _ ?_)⟩
      · rw [show min (m + 1) 8 = min m 8 by omega] at ih1
        exact ih1
      · rw [ki_0, nI_eq (by omega) (by omega), ki_sub (by omega), nI_add, nI_l (by omega), lN_mul, lN_add, show min m 8 = m by omega, show 27 * nmc_ b i m + (bq_ b (i + m) - 97 + 1) = nmc_ b i (m + 1) by show _ = 27 * nmc_ b i m + (bq_ b (i + m) - 96); omega]
        rw [show min (m + 1) 8 = m + 1 by omega] at ih1
        exact ⟨fun _ => ih1, fun y => by omega⟩
theorem t_digits {l : Launch} {κ : mm_K} {d : Nat} {G : mm_G} {K : mm_G → Prop} {b : List Nat} {i n : Nat} (v2 : Int32) (hX : mX_ G b) (hi : i < b.length) (hn : n ≤ 400) (h10 : mg_i G 226 10 = nI n) (hL : isL_ (bq_ b i) = false) (hD : isD_ (bq_ b i) = true)
    (h : ∀ G', tkm_ G' b n i → mg_i G' 226 10 = nI (n + 1) → fr_ (fcj_ n) G G' → mV l κ true (d + 2) 0 0 m_X13_cut 7 [some (.ref 226), some (.int (nI (tk3_ b i).2.2)), none, none, none, none, none, none] [] G' (rV K)) : mV l κ true (d + 2) 0 0 m_X13_cut 208 [some (.ref 226), some (.int (nI i)), some (.int v2), some (.int (nI 0)), some (.int (nI 0)), none, none, none] [] G (rV K) := by
  have hX2 := hX.2.1
  have hrl := rlen_le (f := isD_) (b := b) (i := i)
  have e3 : tk3_ b i = (if rlen_ isD_ b i ≤ 4 then 3 else 1, dgc_ b i (rlen_ isD_ b i), i + rlen_ isD_ b i) := by
    unfold tk3_
    rw [if_pos hi, if_neg (by rw [hL]; decide), if_pos hD]
  have hend : ∀ m, m = rlen_ isD_ b i → ((nI m ≤ (nI 4) → mC l κ true (d + 1) 0 0 m_X13_token [.ref 226, .int (nI 2), .int (nI i), .int (nI (dgc_ b i (min m 4))), .long (lN 0)] G (rV (fun G6 => mV l κ true (d + 2) 0 0 m_X13_cut 7 [some (.ref 226), some (.int (nI (i + m))), none, none, none, none, none, none] [] G6 (rV K)))) ∧ (¬ nI m ≤ (nI 4) → mC l κ true (d + 1) 0 0 m_X13_token [.ref 226, .int (nI 3), .int (nI i), .int (nI (dgc_ b i (min m 4))), .long (lN 0)] G (rV (fun G8 => mV l κ true (d + 2) 0 0 m_X13_cut 7 [some (.ref 226), some (.int (nI (i + m))), none, none, none, none, none, none] [] G8 (rV K))))) := by
    intro m hm
    subst hm
    rw [nI_leI (by omega) (by omega)]
    refine ⟨fun h4 => ?_, fun h4 => ?_⟩
    · rw [if_pos h4] at e3
      rw [show min (rlen_ isD_ b i) 4 = rlen_ isD_ b i by omega]
      refine t_token _ _ _ _ hn h10 (fun G2 x1 x2 x3 x4 x5 f2 => ?_)
      have hh := h G2 ⟨by rw [x1, e3]; rfl, x2, fun q => by rw [x3, e3], fun q => by rw [e3] at q; exact absurd (show 3 = 2 from q) (by decide)⟩ x5 f2
      rw [e3] at hh
      exact hh
    · rw [if_neg h4] at e3
      refine t_token _ _ _ _ hn h10 (fun G2 x1 x2 x3 x4 x5 f2 => ?_)
      have hh := h G2 ⟨by rw [x1, e3]; rfl, x2, fun q => by rw [e3] at q; exact absurd (show 1 = 3 from q) (by decide), fun q => by rw [e3] at q; exact absurd (show 1 = 2 from q) (by decide)⟩ x5 f2
      rw [e3] at hh
      exact hh
  suffices H : ∀ q m, i + m + q = b.length → (∀ k, k < m → isD_ (bq_ b (i + k)) = true) → mV l κ true (d + 2) 0 0 m_X13_cut 208 [some (.ref 226), some (.int (nI i)), some (.int v2), some (.int (nI m)), some (.int (nI (dgc_ b i (min m 4)))), none, none, none] [] G (rV K) from H (b.length - i) 0 (by omega) (fun k hk => absurd hk (Nat.not_lt_zero k))
  intro q
  induction q with
  | zero =>
    intro m hm hk
    refine p_X13_cut_208 _ _ _ _ ?_
    have hend' := hend m (rlen_at hk (Or.inl (by omega)) (by omega)).symm
    rw [nI_add]
    refine t_byteAt hX (by omega) (t_isD (bq_lt hX _) ?_)
    rw [bq_over (show b.length ≤ i + m by omega), if_neg (by decide)]
    exact ⟨fun _ => hend', fun y => absurd (by decide) y⟩
  | succ q ih =>
    intro m hm hk
    refine p_X13_cut_208 _ _ _ _ ?_
    rw [nI_add]
    refine t_byteAt hX (by omega) (t_isD (bq_lt hX _) ?_)
    cases c : isD_ (bq_ b (i + m)) with
    | false =>
      have hend' := hend m (rlen_at hk (Or.inr c) (by omega)).symm
      rw [if_neg (by decide)]
      exact ⟨fun _ => hend', fun y => absurd (by decide) y⟩
    | true =>
      have hc := of_decide_eq_true c
      rw [if_pos rfl, nI_leI (a := 4) (b := m) (by omega) (by omega), nI_add]
      refine ⟨fun y => absurd y (by decide), fun _ => ?_⟩
      have ih1 := ih (m + 1) (by omega) (fun k hk2 => by
        rcases Nat.lt_succ_iff_lt_or_eq.mp hk2 with z | z
        · exact hk k z
        · subst z; exact c)
      refine ⟨fun y => ?_, fun y => t_byteAt hX (by omega) ?_⟩
      · rw [show min (m + 1) 4 = min m 4 by omega] at ih1
        exact ih1
      · rw [ki_mul, nI_add, ki_sub (by omega), show min m 4 = m by omega, show 10 * dgc_ b i m + bq_ b (i + m) - 48 = dgc_ b i (m + 1) by show _ = 10 * dgc_ b i m + (bq_ b (i + m) - 48); omega]
        rw [show min (m + 1) 4 = m + 1 by omega] at ih1
        exact ih1
/-! the whole text -/
theorem rlen_end {f : Nat → Bool} {b : List Nat} {i : Nat} (hi : i ≤ b.length) : b.length ≤ i + rlen_ f b i ∨ f (bq_ b (i + rlen_ f b i)) = false := by
  by_cases c : rlen_ f b i < b.length - i
  · have := fa_first_yes (fun k => !f (bq_ b (i + k))) (b.length - i) c
    have this : (!f (bq_ b (i + rlen_ f b i))) = true := this
    rw [Bool.not_eq_true'] at this
    exact Or.inr this
  · exact Or.inl (by omega)
theorem bl_step {b : List Nat} {i : Nat} (hi : i < b.length) (h : isB_ (bq_ b i) = true) : bl_ b (i + 1) = bl_ b i := by
  have hl := rlen_le (f := isB_) (b := b) (i := i + 1)
  have e : rlen_ isB_ b i = rlen_ isB_ b (i + 1) + 1 := by
    refine rlen_at (fun k hk => ?_) ?_ (by omega)
    · rcases Nat.eq_zero_or_pos k with z | z
      · subst z; exact h
      · have := rlen_in (f := isB_) (b := b) (i := i + 1) (k := k - 1) (by omega)
        rw [show i + 1 + (k - 1) = i + k by omega] at this
        exact this
    · have := rlen_end (f := isB_) (b := b) (i := i + 1) (by omega)
      rw [show i + 1 + rlen_ isB_ b (i + 1) = i + (rlen_ isB_ b (i + 1) + 1) by omega] at this
      exact this
  unfold bl_
  omega
theorem bl_none {b : List Nat} {i : Nat} (hi : i ≤ b.length) (h : b.length ≤ i ∨ isB_ (bq_ b i) = false) : bl_ b i = i := by
  unfold bl_
  rw [rlen_at (m := 0) (fun k hk => absurd hk (Nat.not_lt_zero k)) h hi, Nat.add_zero]
def fct_ (c k : Nat) : Bool := decide ((c = 226 ∧ k = 10) ∨ (229 ≤ c ∧ c ≤ 232))
theorem fct_F {c k : Nat} (h : ¬ ((c = 226 ∧ k = 10) ∨ (229 ≤ c ∧ c ≤ 232))) : fct_ c k = false := decide_eq_false h
theorem t_cut {l : Launch} {κ : mm_K} {d : Nat} {G : mm_G} {K : mm_G → Prop} {b : List Nat} (hX : mX_ G b) (h : ∀ G', mTk_ G' (tbb_ b) → fr_ fct_ G G' → K G') : mC l κ true (d + 2) 0 0 m_X13_cut [.ref 226] G (rV K) := by
  have hX2 := hX.2.1
  have fj : ∀ {n : Nat} {G1 G2 : mm_G}, fr_ (fcj_ n) G1 G2 → fr_ fct_ G1 G2 := fun f => f.mono (fun c k q => by
    have := of_decide_eq_false q
    exact fcj_F (by omega))
  refine e_X13_cut ?_
  suffices H : ∀ q i n G1, i + q = b.length → bl_ b i = bl_ b (nxp_ b n) → n ≤ 401 → mg_i G1 226 10 = nI n → (∀ j, j < n → tkm_ G1 b j (bl_ b (nxp_ b j))) → fr_ fct_ G G1 → mV l κ true (d + 2) 0 0 m_X13_cut 7 [some (.ref 226), some (.int (nI i)), none, none, none, none, none, none] [] G1 (rV K) from
    H b.length 0 0 _ (Nat.zero_add _) rfl (Nat.zero_le _) (by rw [mg_i_i, if_pos ⟨rfl, rfl⟩]) (fun j hj => absurd hj (Nat.not_lt_zero j)) (fr_.rfl'.si (by decide))
  intro q
  induction q using Nat.strongRecOn with
  | _ q ih =>
    intro i n G1 hi hbl hn h10 hk f1
    have X1 : mX_ G1 b := hX.fr f1 (fun c k z => fct_F (by omega))
    refine p_X13_cut_7 _ ?_
    rw [h10, nI_ltI (by omega) (by omega)]
    refine ⟨fun y => h G1 (fun j hj _ => ?_) f1, fun y => t_byteAt X1 (by omega) ?_⟩
    · exact hk j (by omega)
    rw [X1.1, nI_ltI (by omega) (by omega)]
    refine ⟨fun y2 => ?_, fun y2 => ?_⟩
    · have hc := bq_lt X1 i
      rw [nI_eq (b := 9) (by omega) (by omega), nI_eq (b := 10) (by omega) (by omega), nI_eq (b := 13) (by omega) (by omega), nI_eq (b := 32) (by omega) (by omega), nI_add]
      have hblank : isB_ (bq_ b i) = true → mV l κ true (d + 2) 0 0 m_X13_cut 7 [some (.ref 226), some (.int (nI (i + 1))), none, none, none, none, none, none] [] G1 (rV K) := fun hB =>
        ih (q - 1) (by omega) (i + 1) n G1 (by omega) (by rw [bl_step y2 hB]; exact hbl) hn h10 hk f1
      refine ⟨fun z => hblank (decide_eq_true (by omega)), fun z => ⟨fun z2 => hblank (decide_eq_true (by omega)), fun z2 => ⟨fun z3 => hblank (decide_eq_true (by omega)), fun z3 => ⟨fun z4 => ?_, fun z4 => hblank (decide_eq_true (by omega))⟩⟩⟩⟩
      have hBf : isB_ (bq_ b i) = false := decide_eq_false (by omega)
      have ebl : bl_ b (nxp_ b n) = i := by rw [← hbl]; exact bl_none (by omega) (Or.inr hBf)
      -- a token, and on
      have hnext : ∀ G2, tkm_ G2 b n i → mg_i G2 226 10 = nI (n + 1) → fr_ (fcj_ n) G1 G2 → i < (tk3_ b i).2.2 → mV l κ true (d + 2) 0 0 m_X13_cut 7 [some (.ref 226), some (.int (nI (tk3_ b i).2.2)), none, none, none, none, none, none] [] G2 (rV K) := by
        intro G2 t2 e2 f2 hlt
        have hle := (tk3_next (b := b) (i := i) (by omega)).2.1
        refine ih (b.length - (tk3_ b i).2.2) (by omega) (tk3_ b i).2.2 (n + 1) G2 (by omega) ?_ (by omega) e2 (fun j hj => ?_) (f1.trans (fj f2))
        · have : nxp_ b (n + 1) = (tk3_ b (bl_ b (nxp_ b n))).2.2 := rfl
          rw [this, ebl]
        · rcases Nat.lt_succ_iff_lt_or_eq.mp hj with w | w
          · obtain ⟨w1, w2, w3, w4⟩ := hk j w
            exact ⟨by rw [f2.i _ _ (fcj_F (by omega))]; exact w1, by rw [f2.i _ _ (fcj_F (by omega))]; exact w2, fun z => by rw [f2.i _ _ (fcj_F (by omega))]; exact w3 z, fun z => by rw [f2.l _ _ (fcj_F (by omega))]; exact w4 z⟩
          · subst w; rw [ebl]; exact t2
      refine t_isL hc ?_
      cases cL : isL_ (bq_ b i) with
      | true =>
        rw [if_pos rfl]
        refine ⟨fun w => absurd w (by decide), fun _ => t_letters _ X1 y2 (by omega) h10 cL (fun G2 t2 e2 f2 => hnext G2 t2 e2 f2 ?_)⟩
        have e3 : (tk3_ b i).2.2 = i + rlen_ isL_ b i := by unfold tk3_; rw [if_pos y2, if_pos cL]
        have := rlen_pos y2 cL
        omega
      | false =>
        rw [if_neg (by decide)]
        refine ⟨fun _ => t_isD hc ?_, fun w => absurd (by decide) w⟩
        cases cD : isD_ (bq_ b i) with
        | true =>
          rw [if_pos rfl]
          refine ⟨fun w => absurd w (by decide), fun _ => t_digits _ X1 y2 (by omega) h10 cL cD (fun G2 t2 e2 f2 => hnext G2 t2 e2 f2 ?_)⟩
          have e3 : (tk3_ b i).2.2 = i + rlen_ isD_ b i := by unfold tk3_; rw [if_pos y2, if_neg (by rw [cL]; decide), if_pos cD]
          have := rlen_pos y2 cD
          omega
        | false =>
          rw [if_neg (by decide)]
          refine ⟨fun _ => t_byteAt X1 (by omega) (t_sign X1 y2 (by omega) h10 cL cD (fun G2 m t2 e3 e2 f2 => ?_)), fun w => absurd (by decide) w⟩
          rw [nI_add, e3]
          refine hnext G2 t2 e2 f2 ?_
          have e4 : (tk3_ b i).2.2 = i + sgn2_ (bq_ b i) (eqs_ b i) := by unfold tk3_; rw [if_pos y2, if_neg (by rw [cL]; decide), if_neg (by rw [cD]; decide)]
          have : 1 ≤ sgn2_ (bq_ b i) (eqs_ b i) := by unfold sgn2_; split <;> omega
          omega
    · have ei : i = b.length := by omega
      have ebl : bl_ b (nxp_ b n) = i := by rw [← hbl]; exact bl_none (by omega) (Or.inl (by omega))
      have e3 : tk3_ b i = (0, 0, i) := by unfold tk3_; rw [if_neg y2]
      refine t_token _ _ _ _ (by omega) h10 (fun G2 x1 x2 x3 x4 x5 f2 => h G2 (fun j hj ho => ?_) (f1.trans (fj f2)))
      rcases Nat.lt_trichotomy j n with w | w | w
      · obtain ⟨w1, w2, w3, w4⟩ := hk j w
        exact ⟨by rw [f2.i _ _ (fcj_F (by omega))]; exact w1, by rw [f2.i _ _ (fcj_F (by omega))]; exact w2, fun z => by rw [f2.i _ _ (fcj_F (by omega))]; exact w3 z, fun z => by rw [f2.l _ _ (fcj_F (by omega))]; exact w4 z⟩
      · subst w
        have ek : tkk_ (tbb_ b) j = 0 := by show (tk3_ b (bl_ b (nxp_ b j))).1 = 0; rw [ebl, e3]
        have ep : tkp_ (tbb_ b) j = b.length := by show bl_ b (nxp_ b j) = _; rw [ebl, ei]
        exact ⟨by rw [x1, ek]; rfl, by rw [x2, ep], fun z => by omega, fun z => by omega⟩
      · have := ho n w
        have ek : tkk_ (tbb_ b) n = 0 := by show (tk3_ b (bl_ b (nxp_ b n))).1 = 0; rw [ebl, e3]
        omega
