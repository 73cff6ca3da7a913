/-! the component scans a token -/
def tks_ (G : mm_G) (b : List Nat) (j i : Nat) : Prop := mg_i G 3 j = nI (tk3_ b i).1 ∧ mg_i G 4 j = nI i ∧ ((tk3_ b i).1 = 2 ∨ (tk3_ b i).1 = 3 → mg_l G 5 j = lN (tk3_ b i).2.1)
theorem wd_lt : ∀ w, w < 20 → wd_.getD w 0 < 2 ^ 62 := by decide +kernel
theorem fsj_T {j c : Nat} (h : c = 3 ∨ c = 4 ∨ c = 5) : fsj_ j c j = true := by
  unfold fsj_
  rcases h with rfl | rfl | rfl <;> simp
theorem s_letters {l : Launch} {κ : mm_K} {d : Nat} {G : mm_G} {K : Int32 → mm_G → Prop} {b : List Nat} {i j : Nat} (hW : bW_ G b) (hi : i < b.length) (hj : j ≤ 400) (hL : isL_ (bq_ b i) = true) (h4 : mg_i G 4 j = nI i)
    (h : ∀ G', tks_ G' b j i → fr_ (fsj_ j) G G' → K (nI (tk3_ b i).2.2) G') : mC l κ true (d + 1) 0 0 m_X10_scanLetters [.ref 1, .int (nI j), .int (nI i)] G (rI K) := by
  obtain ⟨a1, a2, a3, a4⟩ := id hW
  have hrl := rlen_le (f := isL_) (b := b) (i := i)
  have e3 : tk3_ b i = (if rlen_ isL_ b i ≤ 8 then wkd_ (nmc_ b i (rlen_ isL_ b i)) else 1, nmc_ b i (rlen_ isL_ b i), i + rlen_ isL_ b i) := by
    unfold tk3_
    rw [if_pos hi, if_pos hL]
  have hvj : vp_in (nI j) 401 := (ki_vp (by omega)).2 (by omega)
  -- the words
  have hwords : rlen_ isL_ b i ≤ 8 → ∀ n w G2, w + n = 20 → (∀ u, u < w → decide (wd_.getD u 0 = nmc_ b i (rlen_ isL_ b i)) = false) → fr_ (fsj_ j) G G2 → mg_i G2 3 j = nI 2 → mg_i G2 4 j = nI i → mg_l G2 5 j = lN (nmc_ b i (rlen_ isL_ b i)) → mV l κ true (d + 1) 0 0 m_X10_scanLetters 71 [some (.ref 1), some (.int (nI j)), some (.int (nI i)), some (.long (lN (nmc_ b i (rlen_ isL_ b i)))), none, some (.int (nI (i + rlen_ isL_ b i))), some (.int (nI w))] [] G2 (rI K) := by
    intro h8 n
    have hlt := nmc_lt (b := b) (i := i) _ (Nat.le_refl (rlen_ isL_ b i))
    have h27 := p27_le h8
    rw [if_pos h8] at e3
    induction n with
    | zero =>
      intro w G2 hw hno f2 k2 p2 l2
      have e20 : wix_ (nmc_ b i (rlen_ isL_ b i)) = 20 := ff_no (fun u hu => hno u (by omega))
      have ek : wkd_ (nmc_ b i (rlen_ isL_ b i)) = 2 := by unfold wkd_; rw [e20, if_neg (by omega)]
      rw [ek] at e3
      refine p_X10_scanLetters_71 _ _ _ _ _ ⟨fun _ => ?_, fun y => absurd (nI_le (by omega) (by omega)) y⟩
      have hh := h G2 ⟨by rw [e3]; exact k2, p2, fun _ => by rw [e3]; exact l2⟩ f2
      rw [e3] at hh
      exact hh
    | succ n ih =>
      intro w G2 hw hno f2 k2 p2 l2
      have hww := wd_lt w (by omega)
      refine p_X10_scanLetters_71 _ _ _ _ _ ⟨fun y => absurd y (nI_ge (by omega) (by omega)), fun _ => ⟨hvj, ?_⟩⟩
      rw [nI_clamp (by omega), k2, nI_clamp (by omega), (hW.fr f2).2.2.2 w (by omega), ki_0, ki_cmp, fb_lN_inj (by omega) (by omega), nI_add, nI_add]
      refine ⟨fun y => absurd rfl y, fun _ => ⟨(ki_vp (by omega)).2 (by omega), fun y => ih (w + 1) G2 (by omega) (fun u hu => ?_) f2 k2 p2 l2, fun y => ⟨hvj, ?_⟩⟩⟩
      · rcases Nat.lt_succ_iff_lt_or_eq.mp hu with q | q
        · exact hno u q
        · subst q; exact decide_eq_false y
      · have ew : wix_ (nmc_ b i (rlen_ isL_ b i)) = w := ff_at hno (decide_eq_true y) (by omega)
        have ek : wkd_ (nmc_ b i (rlen_ isL_ b i)) = 20 + w := by unfold wkd_; rw [ew, if_pos (by omega)]
        rw [ek] at e3
        have F3 : fr_ (fsj_ j) G (ms_i G2 3 j (nI (20 + w))) := f2.si (fsj_T (by omega))
        have hh : K (nI (i + rlen_ isL_ b i)) (ms_i G2 3 j (nI (20 + w))) := by
          have hh := h (ms_i G2 3 j (nI (20 + w))) ⟨by rw [e3, mg_i_i, if_pos ⟨rfl, rfl⟩], by rw [mg_i_i, if_neg (by omega)]; exact p2, fun q => by rw [e3] at q; have q : 20 + w = 2 ∨ 20 + w = 3 := q; omega⟩ F3
          rw [e3] at hh
          exact hh
        refine p_X10_scanLetters_71 _ _ _ _ _ ⟨fun _ => hh, fun _ => ⟨hvj, fun _ => hh, fun z => ?_⟩⟩
        rw [nI_clamp (by omega), mg_i_i, if_pos ⟨rfl, rfl⟩, nI_eq (by omega) (by omega)] at z
        omega
  -- behind the letters
  have hend : ∀ m (G2 : mm_G), G2 = G → m = rlen_ isL_ b i → (vp_in (nI j) 401 ∧ (((nI (i + m) - nI i) ≤ (nI 8) → vp_in (nI j) 401 ∧ mV l κ true (d + 1) 0 0 m_X10_scanLetters 71 [some (.ref 1), some (.int (nI j)), some (.int (nI i)), some (.long (lN (nmc_ b i m))), none, some (.int (nI (i + m))), some (.int (nI 0))] [] (ms_i (ms_l G2 5 (nI j).toNatClampNeg (lN (nmc_ b i m))) 3 (nI j).toNatClampNeg (nI 2)) (rI K)) ∧ (¬ (nI (i + m) - nI i) ≤ (nI 8) → vp_in (nI j) 401 ∧ mV l κ true (d + 1) 0 0 m_X10_scanLetters 71 [some (.ref 1), some (.int (nI j)), some (.int (nI i)), some (.long (lN (nmc_ b i m))), none, some (.int (nI (i + m))), some (.int (nI 0))] [] (ms_i (ms_l G2 5 (nI j).toNatClampNeg (lN (nmc_ b i m))) 3 (nI j).toNatClampNeg (nI 1)) (rI K)))) := by
    intro m G2 hG hm
    subst hG hm
    rw [nI_clamp (by omega), ki_sub (by omega), show i + rlen_ isL_ b i - i = rlen_ isL_ b i by omega, nI_leI (by omega) (by omega)]
    refine ⟨hvj, fun h8 => ⟨hvj, ?_⟩, fun h8 => ⟨hvj, ?_⟩⟩
    · exact hwords h8 20 0 _ rfl (fun u hu => absurd hu (Nat.not_lt_zero u)) ((fr_.rfl'.sl (fsj_T (by omega))).si (fsj_T (by omega))) (by rw [mg_i_i, if_pos ⟨rfl, rfl⟩]) (by rw [mg_i_i, if_neg (by omega), mg_i_l]; exact h4) (by rw [mg_l_i, mg_l_l, if_pos ⟨rfl, rfl⟩])
    · rw [if_neg h8] at e3
      refine p_X10_scanLetters_71 _ _ _ _ _ ⟨fun y => absurd y (by decide), fun _ => ⟨hvj, fun _ => ?_, fun y => ?_⟩⟩
      · have hh := h _ ⟨by rw [e3, mg_i_i, if_pos ⟨rfl, rfl⟩], by rw [mg_i_i, if_neg (by omega), mg_i_l]; exact h4, fun q => by rw [e3] at q; have q : 1 = 2 ∨ 1 = 3 := q; omega⟩ ((fr_.rfl'.sl (v := lN (nmc_ b i (rlen_ isL_ b i))) (fsj_T (c := 5) (by omega))).si (v := nI 1) (fsj_T (c := 3) (by omega)))
        rw [e3] at hh
        exact hh
      · rw [nI_clamp (by omega), mg_i_i, if_pos ⟨rfl, rfl⟩] at y
        exact absurd y (by decide)
  refine e_X10_scanLetters _ _ ?_
  suffices H : ∀ n m, i + m + n = b.length → (∀ k, k < m → isL_ (bq_ b (i + k)) = true) → mV l κ true (d + 1) 0 0 m_X10_scanLetters 5 [some (.ref 1), some (.int (nI j)), some (.int (nI i)), some (.long (lN (nmc_ b i m))), none, some (.int (nI (i + m))), none] [] G (rI K) from H (b.length - i) 0 (by omega) (fun k hk => absurd hk (Nat.not_lt_zero k))
  intro n
  induction n with
  | zero =>
    intro m hm hk
    refine p_X10_scanLetters_5 _ _ _ _ ⟨fun _ => hend m G rfl (rlen_at hk (Or.inl (by omega)) (by omega)).symm, fun y => absurd (by rw [a1]; exact nI_le (by omega) (by omega)) y⟩
  | succ n ih =>
    intro m hm hk
    obtain ⟨b1, b2⟩ := a3 (i + m) (by omega)
    refine p_X10_scanLetters_5 _ _ _ _ ⟨fun y => absurd y (by rw [a1]; exact nI_ge (by omega) (by omega)), fun _ => s_isL hW (by omega) ?_⟩
    cases c : isL_ (bq_ b (i + m)) with
    | false =>
      rw [if_neg (by decide)]
      exact ⟨fun _ => hend m G rfl (rlen_at hk (Or.inr c) (by omega)).symm, fun y => absurd (by decide) y⟩
    | true =>
      have hc := of_decide_eq_true c
      rw [if_pos rfl]
      refine ⟨fun y => absurd y (by decide), fun _ => ⟨(ki_vp (by omega)).2 (by omega), e_X10_spelled _ _ ?_⟩⟩
      rw [nI_clamp (by omega), b1, ki_sub (by omega), nI_add, nI_add, nI_l (by omega), lN_mul, lN_add, show nmc_ b i m * 27 + (bq_ b (i + m) - 97 + 1) = nmc_ b i (m + 1) by show _ = 27 * nmc_ b i m + (bq_ b (i + m) - 96); omega]
      refine ih (m + 1) (by omega) (fun k hk2 => ?_)
      rcases Nat.lt_succ_iff_lt_or_eq.mp hk2 with q | q
      · exact hk k q
      · subst q; exact c
theorem s_digits {l : Launch} {κ : mm_K} {d : Nat} {G : mm_G} {K : Int32 → mm_G → Prop} {b : List Nat} {i j : Nat} (hW : bW_ G b) (hi : i < b.length) (hj : j ≤ 400) (hL : isL_ (bq_ b i) = false) (hD : isD_ (bq_ b i) = true) (h4 : mg_i G 4 j = nI i)
    (h : ∀ G', tks_ G' b j i → fr_ (fsj_ j) G G' → K (nI (tk3_ b i).2.2) G') : mC l κ true (d + 1) 0 0 m_X10_scanDigits [.ref 1, .int (nI j), .int (nI i)] G (rI K) := by
  obtain ⟨a1, a2, a3, a4⟩ := id hW
  have hrl := rlen_le (f := isD_) (b := b) (i := i)
  have e3 : tk3_ b i = (if rlen_ isD_ b i ≤ 4 then 3 else 1, dgc_ b i (rlen_ isD_ b i), i + rlen_ isD_ b i) := by
    unfold tk3_
    rw [if_pos hi, if_neg (by rw [hL]; decide), if_pos hD]
  have hvj : vp_in (nI j) 401 := (ki_vp (by omega)).2 (by omega)
  have hend : ∀ m (G2 : mm_G), G2 = G → m = rlen_ isD_ b i → (vp_in (nI j) 401 ∧ (((nI (i + m) - nI i) ≤ (nI 4) → vp_in (nI j) 401 ∧ K (nI (i + m)) (ms_i (ms_l G2 5 (nI j).toNatClampNeg (nI (dgc_ b i m)).toInt64) 3 (nI j).toNatClampNeg (nI 3))) ∧ (¬ (nI (i + m) - nI i) ≤ (nI 4) → vp_in (nI j) 401 ∧ K (nI (i + m)) (ms_i (ms_l G2 5 (nI j).toNatClampNeg (nI (dgc_ b i m)).toInt64) 3 (nI j).toNatClampNeg (nI 1))))) := by
    intro m G2 hG hm
    subst hG hm
    rw [nI_clamp (by omega), ki_sub (by omega), show i + rlen_ isD_ b i - i = rlen_ isD_ b i by omega, nI_leI (by omega) (by omega)]
    refine ⟨hvj, fun h8 => ⟨hvj, ?_⟩, fun h8 => ⟨hvj, ?_⟩⟩
    · have hlt := dgc_lt (b := b) (i := i) _ (Nat.le_refl (rlen_ isD_ b i))
      have h6 : 10 ^ rlen_ isD_ b i ≤ 10 ^ 4 := Nat.pow_le_pow_right (n := 10) (by decide) h8
      rw [if_pos h8] at e3
      have hh := h _ ⟨by rw [e3, mg_i_i, if_pos ⟨rfl, rfl⟩], by rw [mg_i_i, if_neg (by omega), mg_i_l]; exact h4, fun q => by rw [e3, mg_l_i, mg_l_l, if_pos ⟨rfl, rfl⟩]; exact nI_l (by omega)⟩ ((fr_.rfl'.sl (v := (nI (dgc_ b i (rlen_ isD_ b i))).toInt64) (fsj_T (c := 5) (by omega))).si (v := nI 3) (fsj_T (c := 3) (by omega)))
      rw [e3] at hh
      exact hh
    · rw [if_neg h8] at e3
      have hh := h _ ⟨by rw [e3, mg_i_i, if_pos ⟨rfl, rfl⟩], by rw [mg_i_i, if_neg (by omega), mg_i_l]; exact h4, fun q => by rw [e3] at q; have q : 1 = 2 ∨ 1 = 3 := q; omega⟩ ((fr_.rfl'.sl (v := (nI (dgc_ b i (rlen_ isD_ b i))).toInt64) (fsj_T (c := 5) (by omega))).si (v := nI 1) (fsj_T (c := 3) (by omega)))
      rw [e3] at hh
      exact hh
  refine e_X10_scanDigits _ _ ?_
  suffices H : ∀ n m, i + m + n = b.length → (∀ k, k < m → isD_ (bq_ b (i + k)) = true) → mV l κ true (d + 1) 0 0 m_X10_scanDigits 5 [some (.ref 1), some (.int (nI j)), some (.int (nI i)), some (.int (nI (dgc_ b i m))), some (.int (nI (i + m)))] [] G (rI K) from H (b.length - i) 0 (by omega) (fun k hk => absurd hk (Nat.not_lt_zero k))
  intro n
  induction n with
  | zero =>
    intro m hm hk
    refine p_X10_scanDigits_5 _ _ _ _ ⟨fun _ => hend m G rfl (rlen_at hk (Or.inl (by omega)) (by omega)).symm, fun y => absurd (by rw [a1]; exact nI_le (by omega) (by omega)) y⟩
  | succ n ih =>
    intro m hm hk
    obtain ⟨b1, b2⟩ := a3 (i + m) (by omega)
    refine p_X10_scanDigits_5 _ _ _ _ ⟨fun y => absurd y (by rw [a1]; exact nI_ge (by omega) (by omega)), fun _ => s_isD hW (by omega) ?_⟩
    cases c : isD_ (bq_ b (i + m)) with
    | false =>
      rw [if_neg (by decide)]
      exact ⟨fun _ => hend m G rfl (rlen_at hk (Or.inr c) (by omega)).symm, fun y => absurd (by decide) y⟩
    | true =>
      have hc := of_decide_eq_true c
      rw [if_pos rfl]
      refine ⟨fun y => absurd y (by decide), fun _ => ⟨(ki_vp (by omega)).2 (by omega), ?_⟩⟩
      rw [nI_clamp (by omega), b1, ki_mul, nI_add, nI_add, ki_sub (by omega), show dgc_ b i m * 10 + bq_ b (i + m) - 48 = dgc_ b i (m + 1) by show _ = 10 * dgc_ b i m + (bq_ b (i + m) - 48); omega]
      refine ih (m + 1) (by omega) (fun k hk2 => ?_)
      rcases Nat.lt_succ_iff_lt_or_eq.mp hk2 with q | q
      · exact hk k q
      · subst q; exact c
theorem s_sign {l : Launch} {κ : mm_K} {d : Nat} {G : mm_G} {K : Int32 → mm_G → Prop} {b : List Nat} {i j : Nat} (hW : bW_ G b) (hi : i < b.length) (hj : j ≤ 400) (hL : isL_ (bq_ b i) = false) (hD : isD_ (bq_ b i) = false) (h4 : mg_i G 4 j = nI i)
    (h : ∀ G' r, tks_ G' b j i → (2 ≤ (tk3_ b i).1 → r = nI (tk3_ b i).2.2) → fr_ (fsj_ j) G G' → K r G') : mC l κ true d 0 0 m_X10_scanSign [.ref 1, .int (nI j), .int (nI i)] G (rI K) := by
  obtain ⟨a1, a2, a3, a4⟩ := id hW
  obtain ⟨b1, b2⟩ := a3 i hi
  have e3 : tk3_ b i = (sgk_ (bq_ b i) (eqs_ b i), 0, i + sgn2_ (bq_ b i) (eqs_ b i)) := by
    unfold tk3_
    rw [if_pos hi, if_neg (by rw [hL]; decide), if_neg (by rw [hD]; decide)]
  have hvj : vp_in (nI j) 401 := (ki_vp (by omega)).2 (by omega)
  have hsg := sgk_le (c := bq_ b i) (e := eqs_ b i)
  have hput : ∀ (k : Nat) (r : Int32), sgk_ (bq_ b i) (eqs_ b i) = k → (2 ≤ k → r = nI (i + sgn2_ (bq_ b i) (eqs_ b i))) → K r (ms_i G 3 j (nI k)) := by
    intro k r hk hr
    refine h _ r ⟨by rw [e3, mg_i_i, if_pos ⟨rfl, rfl⟩, hk], by rw [mg_i_i, if_neg (by omega)]; exact h4, fun q => by rw [e3] at q; have q : sgk_ (bq_ b i) (eqs_ b i) = 2 ∨ sgk_ (bq_ b i) (eqs_ b i) = 3 := q; omega⟩ (fun q => by rw [e3] at q ⊢; exact hr (by rw [← hk]; exact q)) (fr_.rfl'.si (fsj_T (by omega)))
  have h29 : ∀ fl : Int32, (fl = nI 0 ∧ eqs_ b i = false) ∨ (fl = nI 1 ∧ eqs_ b i = true) → mV l κ true d 0 0 m_X10_scanSign 29 [some (.ref 1), some (.int (nI j)), some (.int (nI i)), some (.int fl)] [] G (rI K) := by
    intro fl hfl
    refine p_X10_scanSign_29 _ _ _ ?_
    rw [nI_clamp (n := i) (by omega), nI_clamp (n := j) (by omega), b1, nI_add, nI_add, nI_add, nI_add]
    rw [nI_eq (b := 33) (by omega) (by omega), nI_eq (b := 45) (by omega) (by omega), nI_eq (b := 58) (by omega) (by omega), nI_eq (b := 59) (by omega) (by omega), nI_eq (b := 60) (by omega) (by omega), nI_eq (b := 61) (by omega) (by omega), nI_eq (b := 123) (by omega) (by omega), nI_eq (b := 125) (by omega) (by omega)]
    rcases hfl with ⟨rfl, he⟩ | ⟨rfl, he⟩
    · rw [he] at hput
      refine ⟨(ki_vp (by omega)).2 (by omega), fun c => ⟨fun _ => ⟨hvj, hput 1 _ (by rw [c]; rfl) (fun q => by omega)⟩, fun y => absurd (by decide) y⟩, fun c => ⟨hvj, hput 8 _ (by rw [c]; rfl) (fun q => by rw [c]; rfl)⟩, fun c => ⟨hvj, hput 5 _ (by rw [c]; rfl) (fun q => by rw [c]; rfl)⟩, fun c => ⟨hvj, hput 4 _ (by rw [c]; rfl) (fun q => by rw [c]; rfl)⟩, fun c => ⟨fun _ => ⟨hvj, fun _ => hput 12 _ (by rw [c]; rfl) (fun q => by rw [c]; rfl), fun y => absurd (by decide) y⟩, fun y => absurd (by decide) y⟩, fun c => ⟨fun _ => ⟨hvj, hput 1 _ (by rw [c]; rfl) (fun q => by omega)⟩, fun y => absurd (by decide) y⟩, fun c => ⟨hvj, hput 6 _ (by rw [c]; rfl) (fun q => by rw [c]; rfl)⟩, fun c => ⟨hvj, hput 7 _ (by rw [c]; rfl) (fun q => by rw [c]; rfl)⟩, fun c => ⟨hvj, hput 1 _ ?_ (fun q => by omega)⟩⟩
      unfold sgk_
      rw [if_neg (by omega), if_neg (by omega), if_neg (by omega), if_neg (by omega), if_neg (by omega), if_neg (by omega), if_neg (by omega), if_neg (by omega)]
    · rw [he] at hput
      refine ⟨(ki_vp (by omega)).2 (by omega), fun c => ⟨fun y => absurd y (by decide), fun _ => ⟨hvj, hput 11 _ (by rw [c]; rfl) (fun q => by rw [c]; rfl)⟩⟩, fun c => ⟨hvj, hput 8 _ (by rw [c]; rfl) (fun q => by rw [c]; rfl)⟩, fun c => ⟨hvj, hput 5 _ (by rw [c]; rfl) (fun q => by rw [c]; rfl)⟩, fun c => ⟨hvj, hput 4 _ (by rw [c]; rfl) (fun q => by rw [c]; rfl)⟩, fun c => ⟨fun y => absurd y (by decide), fun _ => ⟨hvj, fun y => absurd y (by decide), fun _ => hput 13 _ (by rw [c]; rfl) (fun q => by rw [c]; rfl)⟩⟩, fun c => ⟨fun y => absurd y (by decide), fun _ => ⟨hvj, hput 10 _ (by rw [c]; rfl) (fun q => by rw [c]; rfl)⟩⟩, fun c => ⟨hvj, hput 6 _ (by rw [c]; rfl) (fun q => by rw [c]; rfl)⟩, fun c => ⟨hvj, hput 7 _ (by rw [c]; rfl) (fun q => by rw [c]; rfl)⟩, fun c => ⟨hvj, hput 1 _ ?_ (fun q => by omega)⟩⟩
      unfold sgk_
      rw [if_neg (by omega), if_neg (by omega), if_neg (by omega), if_neg (by omega), if_neg (by omega), if_neg (by omega), if_neg (by omega), if_neg (by omega)]
  refine e_X10_scanSign _ _ ?_
  rw [a1, nI_add, nI_leI (by omega) (by omega), nI_clamp (by omega)]
  refine ⟨fun y => h29 _ (Or.inl ⟨rfl, decide_eq_false (by omega)⟩), fun y => ?_⟩
  obtain ⟨d1, d2⟩ := a3 (i + 1) (by omega)
  rw [d1, nI_eq (by omega) (by omega)]
  exact ⟨(ki_vp (by omega)).2 (by omega), fun z => h29 _ (Or.inl ⟨rfl, decide_eq_false (fun q => z q.2)⟩), fun z => h29 _ (Or.inr ⟨rfl, decide_eq_true ⟨by omega, z⟩⟩)⟩
theorem s_token {l : Launch} {κ : mm_K} {d : Nat} {G : mm_G} {K : Int32 → mm_G → Prop} {b : List Nat} {i j : Nat} (hW : bW_ G b) (hi : i ≤ b.length) (hj : j ≤ 400)
    (h : ∀ G' r, tks_ G' b j i → (2 ≤ (tk3_ b i).1 → r = nI (tk3_ b i).2.2) → fr_ (fsj_ j) G G' → K r G') : mC l κ true (d + 2) 0 0 m_X10_scanToken [.ref 1, .int (nI j), .int (nI i)] G (rI K) := by
  obtain ⟨a1, a2, a3, a4⟩ := id hW
  have hvj : vp_in (nI j) 401 := (ki_vp (by omega)).2 (by omega)
  refine e_X10_scanToken _ _ ?_
  rw [nI_clamp (by omega), a1, nI_ltI (by omega) (by omega)]
  have f1 : fr_ (fsj_ j) G (ms_l (ms_i G 4 j (nI i)) 5 j (lN 0)) := (fr_.rfl'.si (fsj_T (by omega))).sl (fsj_T (by omega))
  have W1 := hW.fr f1
  have h41 : mg_i (ms_l (ms_i G 4 j (nI i)) 5 j (lN 0)) 4 j = nI i := by rw [mg_i_l, mg_i_i, if_pos ⟨rfl, rfl⟩]
  refine ⟨hvj, hvj, fun y => s_isL W1 y ?_, fun y => ⟨hvj, ?_⟩⟩
  · cases cL : isL_ (bq_ b i) with
    | true =>
      rw [if_pos rfl]
      exact ⟨fun z => absurd z (by decide), fun _ => s_letters W1 y hj cL h41 (fun G2 t2 f2 => h G2 _ t2 (fun _ => rfl) (f1.trans f2))⟩
    | false =>
      rw [if_neg (by decide)]
      refine ⟨fun _ => s_isD W1 y ?_, fun z => absurd (by decide) z⟩
      cases cD : isD_ (bq_ b i) with
      | true =>
        rw [if_pos rfl]
        exact ⟨fun z => absurd z (by decide), fun _ => s_digits W1 y hj cL cD h41 (fun G2 t2 f2 => h G2 _ t2 (fun _ => rfl) (f1.trans f2))⟩
      | false =>
        rw [if_neg (by decide)]
        exact ⟨fun _ => s_sign W1 y hj cL cD h41 (fun G2 r t2 e2 f2 => h G2 r t2 e2 (f1.trans f2)), fun z => absurd (by decide) z⟩
  · have e3 : tk3_ b i = (0, 0, i) := by unfold tk3_; rw [if_neg y]
    refine h _ _ ⟨by rw [e3, mg_i_i, if_pos ⟨rfl, rfl⟩], by rw [mg_i_i, if_neg (by omega)]; exact h41, fun q => by rw [e3] at q; have q : 0 = 2 ∨ 0 = 3 := q; omega⟩ (fun q => by rw [e3] at q; exact absurd (show 2 ≤ 0 from q) (by decide)) (f1.si (fsj_T (by omega)))
def fsc_ (c _k : Nat) : Bool := decide (c = 3) || decide (c = 4) || decide (c = 5)
theorem fsc_iff {c k : Nat} : fsc_ c k = false ↔ (c ≠ 3 ∧ c ≠ 4 ∧ c ≠ 5) := by
  unfold fsc_
  simp only [Bool.or_eq_false_iff, decide_eq_false_iff_not]
  omega
theorem s_scan {l : Launch} {κ : mm_K} {d : Nat} {G : mm_G} {K : mm_G → Prop} {b : List Nat} (hW : bW_ G b) (h : ∀ G', cTk_ G' (tbb_ b) → fr_ fsc_ G G' → K G') : mC l κ true (d + 3) 0 0 m_X10_scan [.ref 1] G (rV K) := by
  have hb := hW.2.1
  have hTg := tbb_ok hb
  have fsx : ∀ {j : Nat} {G1 G2 : mm_G}, fr_ (fsj_ j) G1 G2 → fr_ fsc_ G1 G2 := fun f => f.mono (fun c k q => fsj_iff.2 (Or.inl (fsc_iff.1 q)))
  have hWx : ∀ {G1 : mm_G}, fr_ fsc_ G G1 → bW_ G1 b := fun {G1} f => by
    obtain ⟨a1, a2, a3, a4⟩ := hW
    exact ⟨by rw [f.i _ _ (fsc_iff.2 (by omega))]; exact a1, a2, fun j hj => ⟨by rw [f.i _ _ (fsc_iff.2 (by omega))]; exact (a3 j hj).1, (a3 j hj).2⟩, fun w hw => by rw [f.l _ _ (fsc_iff.2 (by omega))]; exact a4 w hw⟩
  refine e_X10_scan ?_
  suffices H : ∀ n i G1, i + n = 401 → okt_ (tbb_ b) i → (∀ j, j < i → tks_ G1 b j (bl_ b (nxp_ b j))) → fr_ fsc_ G G1 → mV l κ true (d + 3) 0 0 m_X10_scan 4 [some (.ref 1), some (.int (nI (nxp_ b i))), some (.int (nI i))] [] G1 (rV K) from
    H 401 0 G rfl (fun i hi => absurd hi (Nat.not_lt_zero i)) (fun j hj => absurd hj (Nat.not_lt_zero j)) fr_.rfl'
  intro n
  induction n with
  | zero =>
    intro i G1 hi ho hk f1
    exact p_X10_scan_4 _ _ ⟨fun _ => h G1 (fun j hj _ => hk j (by omega)) f1, fun y => absurd (by rw [nI_ltI (by omega) (by omega)]; omega) y⟩
  | succ n ih =>
    intro i G1 hi ho hk f1
    have hnx := nxp_le b i
    have hbl := bl_le hnx
    have W1 := hWx f1
    refine p_X10_scan_4 _ _ ⟨fun y => absurd y (by rw [nI_ltI (by omega) (by omega)]; omega), fun _ => s_past (d := d + 1) W1 hnx (s_token W1 hbl.2 (by omega) (fun G4 r t4 e4 f4 => ?_))⟩
    have hkd := (hTg.1 i (by omega) ho).1
    have hkd : (tk3_ b (bl_ b (nxp_ b i))).1 < 40 := hkd
    have hk4 : ∀ j, j < i + 1 → tks_ G4 b j (bl_ b (nxp_ b j)) := fun j hj => by
      rcases Nat.lt_succ_iff_lt_or_eq.mp hj with q | q
      · obtain ⟨w1, w2, w3⟩ := hk j q
        exact ⟨by rw [f4.i _ _ (fsj_iff.2 (by omega))]; exact w1, by rw [f4.i _ _ (fsj_iff.2 (by omega))]; exact w2, fun z => by rw [f4.l _ _ (fsj_iff.2 (by omega))]; exact w3 z⟩
      · subst q; exact t4
    have f14 := f1.trans (fsx f4)
    have hstop : (tk3_ b (bl_ b (nxp_ b i))).1 < 2 → K G4 := fun hs => h G4 (fun j hj hoj => hk4 j (by
      rcases Nat.lt_or_ge i j with q | q
      · have := hoj i q
        have : 2 ≤ (tk3_ b (bl_ b (nxp_ b i))).1 := this
        omega
      · omega)) f14
    rw [nI_clamp (by omega), t4.1, ki_0, nI_eq (b := 0) (by omega) (by omega), nI_eq (b := 1) (by omega) (by omega), nI_add]
    have hvi : vp_in (nI i) 401 := (ki_vp (by omega)).2 (by omega)
    refine ⟨hvi, fun y => hstop (by omega), fun y => ⟨hvi, fun z => ?_, fun z => hstop (by omega)⟩⟩
    rw [e4 (by omega)]
    exact ih (i + 1) G4 (by omega) (okt_succ ho (by show 2 ≤ (tk3_ b (bl_ b (nxp_ b i))).1; omega)) hk4 f14
