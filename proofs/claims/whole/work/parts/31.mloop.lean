/-! the reference does a line, and runs -/
theorem ki_dm1 (x : Int32) : x / (-1) = -x := by
  apply Int32.toInt_inj.mp
  have e2 : (-1 : Int32).toInt = -1 := by decide +kernel
  rw [Int32.toInt_div, e2, Int.tdiv_neg, Int.tdiv_one, Int32.toInt_neg]
def mu_end (G : mm_G) (n : Nat) : Prop := (n = 0 → mg_i G 226 55 = -1) ∧ (n ≠ 0 → mg_i G 226 55 = nI (n - 1))
theorem t_a50 {l : Launch} {κ : mm_K} {d : Nat} {G : mm_G} {K : mm_G → Prop} {e : en_T} {a r t p k i : Nat} {pl : Nat → Nat} {s s' : rs_T} {x : ln_T} {v : Int32} (he : en_ok e r) (ham : en_am e = none) (hE : me_ G e a r t pl) (hS : mt_ G r t pl s') (hk : rs_ok2 e r s) (hkk : rs_k s < 1000) (hp : p < 320) (hx : rd_m G p = x) (hxo : ln_ok (rs_s s (rs_d s)).1 x) (ek : ln_or x = nI k) (hk10 : k ≤ 10) (hi : i < 4) (ei : ln_ct x = nI i) (h55 : mg_i G 226 55 = -1)
    (hv : k ≤ 5 ∨ k = 7 → v = ru_val e (ln_A x) s ∧ s' = ru_got (ln_A x) s) (hn : ¬ (k ≤ 5 ∨ k = 7) → s' = s)
    (h : ∀ G', mt_ G' r t pl (ru_do e x s).1 → fr_ fm_ G G' → mu_end G' (ru_do e x s).2 → K G') : mV l κ true (d + 3) 0 0 m_X13_acts 50 [some (.ref 226), some (.int (nI p)), some (.int (if k ≤ 4 then nI i else mg_i G 238 p)), some (.int v), none, none] [] G (rV K) := by
  have hw := hk.weak
  have hd := hw.dle
  have hr : r < 4 := by have := he.2.2.1; have := he.2.2.2.2.2.1; omega
  refine p_X13_acts_50 _ _ _ ?_
  rw [nI_clamp (by omega), rm_or hx, ek]
  have hvp : vp_in (nI p) 320 := (ki_vp (by omega)).2 hp
  have hvi : vp_in (nI i) 4 := (ki_vp (by omega)).2 hi
  have hne : ∀ m, m < 100 → k ≠ m → ¬ ln_or x = nI m := fun m h5 h10 z => by rw [ek, nI_eq (by omega) (by omega)] at z; omega
  have hctr : ∀ w, k ≤ 4 → ¬ (k = 4 ∧ v = nI 0) → w = ru_ctr (nI k) v (mg_i G 257 i) → K (ms_i G 257 i w) := by
    intro w hk4 hz hww
    obtain ⟨v1, v2⟩ := hv (by omega)
    subst v2
    have hd0 : ru_do e x s = ((ru_up (rs_c s) i w, rs_k (ru_got (ln_A x) s), rs_o s, rs_t s, rs_d s, rs_s s, rs_m s, rs_q s), 0) := by
      unfold ru_do
      rw [if_neg (hne 5 (by omega) (by omega)), if_neg (hne 6 (by omega) (by omega)), if_neg (hne 7 (by omega) (by omega)), if_neg (hne 8 (by omega) (by omega)), if_neg (hne 9 (by omega) (by omega)), if_neg (hne 10 (by omega) (by omega)), if_neg, ei, nI_clamp (by omega), ek, ← v1, hww, hS.1.2.2.2.1 i hi]
      · rfl
      · rintro ⟨z1, z2⟩
        rw [ek, nI_eq (by omega) (by omega)] at z1
        rw [← v1] at z2
        exact hz ⟨z1, z2⟩
    rw [hd0] at h
    refine h _ ?_ (fr_.rfl'.si rfl) ⟨fun _ => by simp only [mg_i_i, mg_i_l, mg_i_r, mg_i_b, mg_l_i, mg_l_l, mg_l_r, mg_l_b, mg_r_i, mg_r_l, mg_r_r, mg_r_b, false_and, and_false, true_and, and_true, reduceCtorEq, if_true, if_false, reduceIte, Nat.reduceEqDiff, Nat.reduceAdd, Nat.succ_ne_self, ne_eq, not_false_eq_true, not_true_eq_false]; exact h55, fun z => absurd rfl z⟩
    obtain ⟨⟨h1, h2, h3, h4, h5⟩, h6, h7, h8, h9, h10⟩ := hS
    refine ⟨⟨?_, ?_, ?_, ?_, ?_⟩, ?_, ?_, ?_, ?_, ?_⟩ <;> try simp only [mg_i_i, mg_i_l, mg_i_r, mg_i_b, mg_l_i, mg_l_l, mg_l_r, mg_l_b, mg_r_i, mg_r_l, mg_r_r, mg_r_b, false_and, and_false, true_and, and_true, reduceCtorEq, if_true, if_false, reduceIte, Nat.reduceEqDiff, Nat.reduceAdd, Nat.succ_ne_self, ne_eq, not_false_eq_true, not_true_eq_false] <;> try assumption
    intro j hj
    show (if j = i then w else mg_i G 257 j) = (if j = i then w else rs_c s j)
    rw [h4 j hj]
    rfl
  refine ⟨hvp, fun z => ?_, fun z => ?_, fun z => ?_, fun z => ?_, fun z => ?_, fun z => ?_, fun z => ?_, fun z => ?_, fun z => ?_, fun z => ?_, fun z => ?_⟩
  · rw [nI_eq (by omega) (by omega)] at z
    rw [if_pos (by omega), nI_clamp (by omega)]
    exact ⟨hvi, hctr _ (by omega) (by omega) (by subst z; rfl)⟩
  · rw [nI_eq (by omega) (by omega)] at z
    rw [if_pos (by omega), nI_clamp (by omega)]
    exact ⟨hvi, hvi, hctr _ (by omega) (by omega) (by subst z; rfl)⟩
  · rw [nI_eq (by omega) (by omega)] at z
    rw [if_pos (by omega), nI_clamp (by omega)]
    exact ⟨hvi, hvi, hctr _ (by omega) (by omega) (by subst z; rfl)⟩
  · rw [nI_eq (by omega) (by omega)] at z
    rw [if_pos (by omega), nI_clamp (by omega)]
    exact ⟨hvi, hvi, hctr _ (by omega) (by omega) (by subst z; rfl)⟩
  · rw [nI_eq (by omega) (by omega)] at z
    rw [if_pos (by omega), nI_clamp (by omega)]
    refine ⟨fun c0 => ⟨fun c1 => ⟨hvi, c0, hvi, hctr _ (by omega) (fun y => c0 y.2) (by subst z; rfl)⟩, fun c1 => ⟨hvi, hvi, hctr _ (by omega) (fun y => c0 y.2) ?_⟩⟩, fun c0 => ?_⟩
    · subst z
      rw [c1]
      exact (ki_dm1 _).symm
    · obtain ⟨v1, v2⟩ := hv (by omega)
      subst v2
      have hd0 : ru_do e x s = (ru_got (ln_A x) s, 3) := by
        unfold ru_do
        rw [if_neg (hne 5 (by omega) (by omega)), if_neg (hne 6 (by omega) (by omega)), if_neg (hne 7 (by omega) (by omega)), if_neg (hne 8 (by omega) (by omega)), if_neg (hne 9 (by omega) (by omega)), if_neg (hne 10 (by omega) (by omega)), if_pos]
        exact ⟨by rw [ek, z], by rw [← v1]; exact c0⟩
      rw [hd0] at h
      exact h _ (hS.stop _) (fr_.rfl'.si rfl) ⟨fun z => (nomatch z), fun _ => by simp only [mg_i_i, mg_i_l, mg_i_r, mg_i_b, mg_l_i, mg_l_l, mg_l_r, mg_l_b, mg_r_i, mg_r_l, mg_r_r, mg_r_b, false_and, and_false, true_and, and_true, reduceCtorEq, if_true, if_false, reduceIte, Nat.reduceEqDiff, Nat.reduceAdd, Nat.succ_ne_self, ne_eq, not_false_eq_true, not_true_eq_false]⟩
  · rw [nI_eq (by omega) (by omega)] at z
    obtain ⟨v1, v2⟩ := hv (by omega)
    subst v2
    have ho8 := hk.2.2.2.1
    have h51 : mg_i G 226 51 = nI (rs_o s).length := hS.1.1
    have hoff : ru_off e (ru_val e (ln_A x) s) (rs_o s) = false := by unfold ru_off; rw [ham]
    unfold ru_do at h
    rw [if_pos (by rw [ek, z]), hoff, ← v1] at h
    rw [h51, nI_eq (by omega) (by omega), nI_add, nI_clamp (by omega)]
    refine ⟨fun c0 => ⟨(ki_vp (by omega)).2 (by omega), ?_⟩, fun c0 => ?_⟩
    · rw [if_neg (by omega), if_neg (by decide)] at h
      refine h _ ?_ ((fr_.rfl'.si rfl).si rfl) ⟨fun _ => by simp only [mg_i_i, mg_i_l, mg_i_r, mg_i_b, mg_l_i, mg_l_l, mg_l_r, mg_l_b, mg_r_i, mg_r_l, mg_r_r, mg_r_b, false_and, and_false, true_and, and_true, reduceCtorEq, if_true, if_false, reduceIte, Nat.reduceEqDiff, Nat.reduceAdd, Nat.succ_ne_self, ne_eq, not_false_eq_true, not_true_eq_false]; exact h55, fun z => absurd rfl z⟩
      obtain ⟨⟨h1, h2, h3, h4, h5⟩, h6, h7, h8, h9, h10⟩ := hS
      refine ⟨⟨?_, ?_, ?_, ?_, ?_⟩, ?_, ?_, ?_, ?_, ?_⟩ <;> try simp only [mg_i_i, mg_i_l, mg_i_r, mg_i_b, mg_l_i, mg_l_l, mg_l_r, mg_l_b, mg_r_i, mg_r_l, mg_r_r, mg_r_b, false_and, and_false, true_and, and_true, reduceCtorEq, if_true, if_false, reduceIte, Nat.reduceEqDiff, Nat.reduceAdd, Nat.succ_ne_self, ne_eq, not_false_eq_true, not_true_eq_false] <;> try assumption
      · show _ = nI (rs_o s ++ [v]).length
        rw [ld_len]
      · intro j hj
        have hj : j < (rs_o s ++ [v]).length := hj
        rw [ld_len] at hj
        show (if j = (rs_o s).length then v else mg_i G 258 j) = (rs_o s ++ [v]).getD j (nI 0)
        split
        · rename_i cj
          rw [cj, ld_r]
        · rw [ld_l _ _ (by omega)]
          exact h3 j (show j < (rs_o s).length by omega)
    · rw [if_pos (by omega)] at h
      exact h _ (hS.stop _) (fr_.rfl'.si rfl) ⟨fun z => (nomatch z), fun _ => by simp only [mg_i_i, mg_i_l, mg_i_r, mg_i_b, mg_l_i, mg_l_l, mg_l_r, mg_l_b, mg_r_i, mg_r_l, mg_r_r, mg_r_b, false_and, and_false, true_and, and_true, reduceCtorEq, if_true, if_false, reduceIte, Nat.reduceEqDiff, Nat.reduceAdd, Nat.succ_ne_self, ne_eq, not_false_eq_true, not_true_eq_false]⟩
  · rw [nI_eq (by omega) (by omega)] at z
    subst z
    obtain rfl := hn (by omega)
    rw [← rm_6 hx ek]
    unfold ru_do at h
    rw [if_neg (hne 5 (by omega) (by omega)), if_pos ek] at h
    exact ⟨hvp, t_jumps x he hE hS hw (fun G' g1 g2 g3 => h G' g1 g2 ⟨fun _ => g3.trans h55, fun z => absurd rfl z⟩)⟩
  · rw [nI_eq (by omega) (by omega)] at z
    subst z
    obtain ⟨v1, v2⟩ := hv (by omega)
    subst v2
    obtain ⟨eB, eT, eL⟩ := rm_7 hx ek
    obtain ⟨j, hj, ej⟩ := hxo.2.2.2.2.1
    have e243 : mg_i G 243 p = nI (j + 9) := by
      rw [ej] at eT
      rw [← nI_add, eT, Int32.sub_add_cancel]
    unfold ru_do at h
    rw [if_neg (hne 5 (by omega) (by omega)), if_neg (hne 6 (by omega) (by omega)), if_pos ek, ← v1] at h
    have hkg := ru_got_k (ln_A x) s
    have hs := t_valueOf (l := l) (κ := κ) (d := d + 2) (ln_B x) hxo.2.2.2.1 he hE hS (by omega) (K := fun r3 G4 => vp_in (nI p) 320 ∧ ((¬ (mg_i G4 243 p) = (nI 9) → ((¬ (mg_i G4 243 p) = (nI 10) → ((¬ (mg_i G4 243 p) = (nI 11) → ((r3 < v → K G4) ∧ (¬ r3 < v → mV l κ true (d + 3) 0 0 m_X13_acts 338 [some (.ref 226), some (.int (nI p)), some (.int (if 7 ≤ 4 then nI i else mg_i G 238 p)), some (.int v), some (.int r3), some (.int (mg_i G4 243 p))] [] G4 (rV K)))) ∧ ((mg_i G4 243 p) = (nI 11) → ((r3 ≤ v → K G4) ∧ (¬ r3 ≤ v → mV l κ true (d + 3) 0 0 m_X13_acts 338 [some (.ref 226), some (.int (nI p)), some (.int (if 7 ≤ 4 then nI i else mg_i G 238 p)), some (.int v), some (.int r3), some (.int (mg_i G4 243 p))] [] G4 (rV K)))))) ∧ ((mg_i G4 243 p) = (nI 10) → ((v = r3 → K G4) ∧ (¬ v = r3 → mV l κ true (d + 3) 0 0 m_X13_acts 338 [some (.ref 226), some (.int (nI p)), some (.int (if 7 ≤ 4 then nI i else mg_i G 238 p)), some (.int v), some (.int r3), some (.int (mg_i G4 243 p))] [] G4 (rV K)))))) ∧ ((mg_i G4 243 p) = (nI 9) → ((¬ v = r3 → K G4) ∧ (v = r3 → mV l κ true (d + 3) 0 0 m_X13_acts 338 [some (.ref 226), some (.int (nI p)), some (.int (if 7 ≤ 4 then nI i else mg_i G 238 p)), some (.int v), some (.int r3), some (.int (mg_i G4 243 p))] [] G4 (rV K)))))) (by
      intro G4 g1 g2 g3
      generalize ru_val e (ln_B x) (ru_got (ln_A x) s) = w at h
      have eL4 : mg_l G4 247 p = ln_lb x := by rw [g2.l _ _ (fm_F (by omega))]; exact eL.symm
      have hno : ru_holds (nI j) v w = false → K G4 := by
        intro hh
        rw [ej, hh] at h
        exact h G4 g1 g2 ⟨fun _ => g3.trans h55, fun z => absurd rfl z⟩
      have hyes : ru_holds (nI j) v w = true → ∀ v2 v4 v5, mV l κ true (d + 3) 0 0 m_X13_acts 338 [some (.ref 226), some (.int (nI p)), some (.int v2), some (.int v), some (.int v4), some (.int v5)] [] G4 (rV K) := by
        intro hh v2 v4 v5
        rw [ej, hh] at h
        refine p_X13_acts_338 _ _ _ _ _ ⟨hvp, ?_⟩
        rw [nI_clamp (by omega), eL4]
        exact t_jumps (s := ru_got (ln_B x) (ru_got (ln_A x) s)) x he (hE.fm g2) g1 (hk.got2 _ _) (fun G' k1 k2 k3 => h G' k1 (g2.trans k2) ⟨fun _ => (k3.trans g3).trans h55, fun z => absurd rfl z⟩)
      rw [g2.i 243 p (fm_F (by omega)), e243]
      simp only [nI_eq (show j + 9 < 2 ^ 31 by omega) (show 9 < 2 ^ 31 by omega), nI_eq (show j + 9 < 2 ^ 31 by omega) (show 10 < 2 ^ 31 by omega), nI_eq (show j + 9 < 2 ^ 31 by omega) (show 11 < 2 ^ 31 by omega)]
      refine ⟨hvp, fun q9 => ⟨fun q10 => ⟨fun q11 => ?_, fun q11 => ?_⟩, fun q10 => ?_⟩, fun q9 => ?_⟩
      · obtain rfl : j = 3 := by omega
        have hh : ru_holds (nI 3) v w = decide (v ≤ w) := rfl
        rw [hh] at hno hyes
        exact ⟨fun y => hno (decide_eq_false (by rw [fa_le]; rw [fa_lt] at y; omega)), fun y => hyes (decide_eq_true (by rw [fa_le]; rw [fa_lt] at y; omega)) _ _ _⟩
      · obtain rfl : j = 2 := by omega
        have hh : ru_holds (nI 2) v w = decide (v < w) := rfl
        rw [hh] at hno hyes
        exact ⟨fun y => hno (decide_eq_false (by rw [fa_lt]; rw [fa_le] at y; omega)), fun y => hyes (decide_eq_true (by rw [fa_lt]; rw [fa_le] at y; omega)) _ _ _⟩
      · obtain rfl : j = 1 := by omega
        have hh : ru_holds (nI 1) v w = decide (v ≠ w) := rfl
        rw [hh] at hno hyes
        exact ⟨fun y => hno (decide_eq_false (fun y2 => y2 y)), fun y => hyes (decide_eq_true y) _ _ _⟩
      · obtain rfl : j = 0 := by omega
        have hh : ru_holds (nI 0) v w = decide (v = w) := rfl
        rw [hh] at hno hyes
        exact ⟨fun y => hno (decide_eq_false y), fun y => hyes (decide_eq_true y) _ _ _⟩)
    rw [eB] at hs
    exact ⟨hvp, hvp, hs⟩
  · rw [nI_eq (by omega) (by omega)] at z
    subst z
    obtain rfl := hn (by omega)
    obtain ⟨i8, hi8, ei8⟩ := hxo.2.2.2.2.2 ek
    have hb := (mt_top he hS hw).2.2
    have h8 := hS.2.2.2.1
    unfold ru_do at h
    rw [if_neg (hne 5 (by omega) (by omega)), if_neg (hne 6 (by omega) (by omega)), if_neg (hne 7 (by omega) (by omega)), if_pos ek, ei8, nI_clamp (by omega)] at h
    rw [← rm_8 hx ek, ei8, h8, nI_add, nI_clamp (by omega)]
    refine ⟨hvp, (ki_vp (by omega)).2 (by omega), (ki_vp (by omega)).2 (by omega), h _ ?_ (((fr_.rfl'.si rfl).si rfl).si rfl) ⟨fun _ => by simp only [mg_i_i, mg_i_l, mg_i_r, mg_i_b, mg_l_i, mg_l_l, mg_l_r, mg_l_b, mg_r_i, mg_r_l, mg_r_r, mg_r_b, false_and, and_false, true_and, and_true, reduceCtorEq, if_true, if_false, reduceIte, Nat.reduceEqDiff, Nat.reduceAdd, Nat.succ_ne_self, ne_eq, not_false_eq_true, not_true_eq_false]; exact h55, fun z => absurd rfl z⟩⟩
    obtain ⟨⟨h1, h2, h3, h4, h5⟩, h6, h7, h8, h9, h10⟩ := hS
    refine ⟨⟨?_, ?_, ?_, ?_, ?_⟩, ?_, ?_, ?_, ?_, ?_⟩ <;> try simp only [mg_i_i, mg_i_l, mg_i_r, mg_i_b, mg_l_i, mg_l_l, mg_l_r, mg_l_b, mg_r_i, mg_r_l, mg_r_r, mg_r_b, false_and, and_false, true_and, and_true, reduceCtorEq, if_true, if_false, reduceIte, Nat.reduceEqDiff, Nat.reduceAdd, Nat.succ_ne_self, ne_eq, not_false_eq_true, not_true_eq_false] <;> try assumption
    · rfl
    · intro j hj
      show (if j = rs_d s' + 1 then nI i8 else mg_i G 260 j) = if j = 0 then -1 else nI (ru_up (rs_s s') (rs_d s' + 1) (i8, 0) j).1
      by_cases cj : j = rs_d s' + 1
      · rw [if_pos cj, if_neg (by omega), cj, ru_up_eq]
      · rw [if_neg cj, ru_up_ne _ _ cj]
        exact h9 j (by simp only [rs_d] at hj cj ⊢; omega)
    · intro j hj
      show (if j = rs_d s' + 1 then nI 0 else mg_i G 261 j) = nI (ru_up (rs_s s') (rs_d s' + 1) (i8, 0) j).2
      by_cases cj : j = rs_d s' + 1
      · rw [if_pos cj, cj, ru_up_eq]
      · rw [if_neg cj, ru_up_ne _ _ cj]
        exact h10 j (by simp only [rs_d] at hj cj ⊢; omega)
  · rw [nI_eq (by omega) (by omega)] at z
    subst z
    obtain rfl := hn (by omega)
    have h8 := hS.2.2.2.1
    unfold ru_do at h
    rw [if_neg (hne 5 (by omega) (by omega)), if_neg (hne 6 (by omega) (by omega)), if_neg (hne 7 (by omega) (by omega)), if_neg (hne 8 (by omega) (by omega)), if_pos ek] at h
    refine t_topLines he hE hS hw ?_
    rw [h8, nI_clamp (by omega)]
    exact ⟨(ki_vp (by omega)).2 (by omega), h _ (hS.at' _ _ _) (fr_.rfl'.si rfl) ⟨fun _ => by simp only [mg_i_i, mg_i_l, mg_i_r, mg_i_b, mg_l_i, mg_l_l, mg_l_r, mg_l_b, mg_r_i, mg_r_l, mg_r_r, mg_r_b, false_and, and_false, true_and, and_true, reduceCtorEq, if_true, if_false, reduceIte, Nat.reduceEqDiff, Nat.reduceAdd, Nat.succ_ne_self, ne_eq, not_false_eq_true, not_true_eq_false]; exact h55, fun z => absurd rfl z⟩⟩
  · rw [nI_toInt (by omega)] at z
    obtain rfl : k = 10 := by omega
    obtain rfl := hn (by omega)
    unfold ru_do at h
    rw [if_neg (hne 5 (by omega) (by omega)), if_neg (hne 6 (by omega) (by omega)), if_neg (hne 7 (by omega) (by omega)), if_neg (hne 8 (by omega) (by omega)), if_neg (hne 9 (by omega) (by omega)), if_pos ek] at h
    exact h _ hS fr_.rfl' ⟨fun _ => h55, fun z => absurd rfl z⟩
