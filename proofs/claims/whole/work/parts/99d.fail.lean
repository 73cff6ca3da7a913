/-! read: a text with a fault changes nothing but the tape and the place -/
theorem cR_.fz {S : Nat → Nat → Bool} {G G1 : mm_G} {x : Nat} {p : px_T} {s : sx_T} (h : cR_ G x p s) (hp : p.length ≤ 4) (hf : fnz_ S G G1) (hn : 285 ≤ mg_n G) (hx : x + 12 ≤ 226) (h1 : ∀ c k, x ≤ c → c < x + 12 → S c k = false) (h3 : ∀ t k, 285 ≤ t → S t k = false) : cR_ G1 x p s := by
  obtain ⟨a1, a2, a3, a4, a5⟩ := h
  refine ⟨?_, fun j hj => (a2 j hj).fz hf (by omega) (h1 _ _ (by omega) (by omega)) (fun k => h1 _ _ (by omega) (by omega)) (fun u k hu _ => h3 u k hu), ?_, fun q => ?_, fun k hk => ⟨?_, ?_⟩⟩
  · rw [hf.i _ _ (by omega) (h1 _ _ (by omega) (by omega))]; exact a1
  · rw [hf.i _ _ (by omega) (h1 _ _ (by omega) (by omega))]; exact a3
  · rw [hf.i _ _ (by omega) (h1 _ _ (by omega) (by omega))]; exact a4 q
  · rw [hf.i _ _ (by omega) (h1 _ _ (by omega) (by omega))]; exact (a5 k hk).1
  · rw [hf.i _ _ (by omega) (h1 _ _ (by omega) (by omega))]; exact (a5 k hk).2
def fRf_ (c k : Nat) : Bool := (decide (c = 0) && decide (k = 11)) || (decide (c = 1) && decide (k = 4)) || decide (c = 3) || decide (c = 4) || decide (c = 5) || fRd_ c k
theorem fRf_iff {c k : Nat} : fRf_ c k = false ↔ ((c ≠ 0 ∨ k ≠ 11) ∧ (c ≠ 1 ∨ k ≠ 4) ∧ c ≠ 3 ∧ c ≠ 4 ∧ c ≠ 5 ∧ c ≠ 7 ∧ (c < 8 ∨ 49 < c ∨ ((c = 12 ∨ c = 14 ∨ c = 16 ∨ c = 18) ∧ k = 2))) := by
  unfold fRf_
  simp only [Bool.or_eq_false_iff, Bool.and_eq_false_iff, decide_eq_false_iff_not, fRd_iff]
  constructor
  · rintro ⟨⟨⟨⟨⟨h1, h2⟩, h3⟩, h4⟩, h5⟩, h6, h7⟩
    exact ⟨h1, h2, h3, h4, h5, h6, h7⟩
  · rintro ⟨h1, h2, h3, h4, h5, h6, h7⟩
    exact ⟨⟨⟨⟨⟨h1, h2⟩, h3⟩, h4⟩, h5⟩, h6, h7⟩
theorem cB_fail {G G1 : mm_G} {P : ps_T} {pl : Nat} (hP : ps_ok P) (hC : cB_ G P) (hn : 285 ≤ mg_n G) (hf : fnz_ fRf_ G G1) (h14 : mg_i G1 1 4 = nI 0) (h11 : mg_i G1 0 11 = nI pl) : cB_ G1 (wfl_ P pl) := by
  obtain ⟨a1, a2, a3, a4, a5, a6, a7⟩ := hC
  refine ⟨a1.fz hP.1.1 hf hn (by omega) (fun c k q1 q2 => fRf_iff.2 (by omega)) (fun t k q => fRf_iff.2 (by omega)), a2.on (S := fun c _ => decide (62 ≤ c ∧ c < 91)) hP.2.1.1 (fun c k hc => hf.2 c k (by have := of_decide_eq_true hc; omega) (fRf_iff.2 (by have := of_decide_eq_true hc; omega))) (fun c k q1 q2 => decide_eq_true ⟨q1, by omega⟩), fun j hj => ?_, fun i hi => ⟨fun q => ?_, fun p s q => ?_⟩, ⟨h14, fun j hj => absurd hj (Nat.not_lt_zero j)⟩, h11, fun w hw => ?_⟩
  · obtain ⟨b1, b2, b3⟩ := a3 j hj
    exact ⟨by rw [hf.i _ _ (by omega) (fRf_iff.2 (by omega))]; exact b1, by rw [hf.i _ _ (by omega) (fRf_iff.2 (by omega))]; exact b2, fun i hi => by rw [hf.i _ _ (by omega) (fRf_iff.2 (by omega))]; exact b3 i hi⟩
  · rw [hf.i _ _ (by omega) (fRf_iff.2 (by omega))]; exact (a4 i hi).1 q
  · obtain ⟨c1, c2⟩ := (a4 i hi).2 p s q
    exact ⟨by rw [hf.i _ _ (by omega) (fRf_iff.2 (by omega))]; exact c1, c2.fz (hP.2.2.2.2.1 i p s q).1.1 hf hn (by omega) (fun c k q1 q2 => fRf_iff.2 (by omega)) (fun t k q => fRf_iff.2 (by omega))⟩
  · rw [hf.l _ _ (by omega) (fRf_iff.2 (by omega))]; exact a7 w hw
/-- the tape is read -/
theorem s_readTape {l : Launch} {κ : mm_K} {d : Nat} {G : mm_G} {K : mm_G → Prop} {P : ps_T} (hP : ps_ok P) (hC : cB_ G P) (hz : zG_ G) (hn : 285 ≤ mg_n G) (hgz : gz_ G)
    (h0 : ∀ G' e, rdw_ P = .inl e → (e.1 = 1 ∨ e.1 = 2) → mg_i G' 7 2 = nI e.1 → mg_i G' 7 3 = nI (tkp_ (tbb_ (ps_b P)) e.2) → fnz_ fRf_ G G' → zG_ G' → gz_ G' → K G')
    (h1 : ∀ G' s, rdw_ P = .inr s → (s.2.2.2.2.1 = none → mg_i G' 7 2 = nI 0) → (∀ j, s.2.2.2.2.1 = some j → mg_i G' 7 2 = nI (kf_ (tbb_ (ps_b P)) j) ∧ mg_i G' 7 3 = nI (tkp_ (tbb_ (ps_b P)) j)) → rdR_ G' s → fnz_ fRf_ G G' → zG_ G' → gz_ G' → K G') : mC l κ true (d + 6) 64 704 m_X5_readTape [.ref 7] G (rV K) := by
  have h2000 := hP.2.2.2.2.2.1
  have hbW : bW_ G (ps_b P) := ⟨hC.2.2.2.2.1.1, h2000, fun j hj => ⟨hC.2.2.2.2.1.2 j hj, hP.2.2.2.2.2.2 j hj⟩, hC.2.2.2.2.2.2⟩
  refine e_X5_readTape (s_scan (d := d + 2) hbW (fun G2 t2 f2 => e_X7_clear (e_X11_clear ?_)))
  have g : fr_ (fun c k => decide (c = 7) || decide (c = 8) || decide (c = 20)) G2 (ms_i (ms_i (ms_i (ms_i (ms_i (ms_i (ms_i G2 8 1 (nI 0)) 8 4 (nI 0)) 20 4 (nI 0)) 20 5 (nI 100)) 7 2 (nI 0)) 7 8 (nI 0)) 7 6 (nI 0)) := ((((((fr_.rfl'.si (by decide)).si (by decide)).si (by decide)).si (by decide)).si (by decide)).si (by decide)).si (by decide)
  have hg : ∀ c k : Nat, c ≠ 7 → c ≠ 8 → c ≠ 20 → ((fun c (_ : Nat) => decide (c = 7) || decide (c = 8) || decide (c = 20)) c k) = false := fun c k z1 z2 z3 => by
    show (decide (c = 7) || decide (c = 8) || decide (c = 20)) = false
    rw [decide_eq_false z1, decide_eq_false z2, decide_eq_false z3]
    rfl
  have n2 : 285 ≤ mg_n G2 := by rw [f2.1]; exact hn
  have F : fnz_ fRf_ G (ms_i (ms_i (ms_i (ms_i (ms_i (ms_i (ms_i G2 8 1 (nI 0)) 8 4 (nI 0)) 20 4 (nI 0)) 20 5 (nI 100)) 7 2 (nI 0)) 7 8 (nI 0)) 7 6 (nI 0)) := (f2.fz.tr2 g (fun c k hc q => by
    have := fRf_iff.1 q
    exact ⟨fsc_iff.2 (by omega), hg c k (by omega) (by omega) (by omega)⟩))
  have z2 : zG_ G2 := hz.fr f2 (fun c k hc => fsc_iff.2 (by omega))
  have up : ∀ {G' : mm_G}, fnz_ fRd_ (ms_i (ms_i (ms_i (ms_i (ms_i (ms_i (ms_i G2 8 1 (nI 0)) 8 4 (nI 0)) 20 4 (nI 0)) 20 5 (nI 100)) 7 2 (nI 0)) 7 8 (nI 0)) 7 6 (nI 0)) G' → fnz_ fRf_ G G' := fun f => F.trans (f.mono (fun c k hc q => fRd_iff.2 (by have := fRf_iff.1 q; omega)))
  refine s_text (s0 := rs0_) (tbb_ok h2000) rfl (z2.fr g (fun c k hc => hg c k (by omega) (by omega) (by omega))) n2 ((hgz.fz f2.fz hn (fun c k _ _ => fsc_iff.2 (by omega))).fz g.fz n2 (fun c k _ _ => hg c k (by omega) (by omega) (by omega))) ⟨Nat.zero_le _, fun i hi => absurd hi (Nat.not_lt_zero i), by simp only [mg_i_i, mg_i_l, mg_i_r, mg_i_b, mg_l_i, mg_l_l, mg_l_r, mg_l_b, mg_r_i, mg_r_l, mg_r_r, mg_r_b, false_and, and_false, true_and, and_true, reduceCtorEq, if_true, if_false, reduceIte, Nat.reduceEqDiff, Nat.reduceAdd, Nat.succ_ne_self, ne_eq, not_false_eq_true, not_true_eq_false], by simp only [mg_i_i, mg_i_l, mg_i_r, mg_i_b, mg_l_i, mg_l_l, mg_l_r, mg_l_b, mg_r_i, mg_r_l, mg_r_r, mg_r_b, false_and, and_false, true_and, and_true, reduceCtorEq, if_true, if_false, reduceIte, Nat.reduceEqDiff, Nat.reduceAdd, Nat.succ_ne_self, ne_eq, not_false_eq_true, not_true_eq_false], t2.fr g (fun c k q => hg c k (by omega) (by omega) (by omega)), fun _ => by simp only [mg_i_i, mg_i_l, mg_i_r, mg_i_b, mg_l_i, mg_l_l, mg_l_r, mg_l_b, mg_r_i, mg_r_l, mg_r_r, mg_r_b, false_and, and_false, true_and, and_true, reduceCtorEq, if_true, if_false, reduceIte, Nat.reduceEqDiff, Nat.reduceAdd, Nat.succ_ne_self, ne_eq, not_false_eq_true, not_true_eq_false], fun j q => (by cases q)⟩ ⟨⟨by simp only [mg_i_i, mg_i_l, mg_i_r, mg_i_b, mg_l_i, mg_l_l, mg_l_r, mg_l_b, mg_r_i, mg_r_l, mg_r_r, mg_r_b, false_and, and_false, true_and, and_true, reduceCtorEq, if_true, if_false, reduceIte, Nat.reduceEqDiff, Nat.reduceAdd, Nat.succ_ne_self, ne_eq, not_false_eq_true, not_true_eq_false]; rfl, Nat.zero_le _, fun i hi => absurd hi (Nat.not_lt_zero i)⟩, rfl, fun j hj => absurd hj (Nat.not_lt_zero j), ⟨by simp only [mg_i_i, mg_i_l, mg_i_r, mg_i_b, mg_l_i, mg_l_l, mg_l_r, mg_l_b, mg_r_i, mg_r_l, mg_r_r, mg_r_b, false_and, and_false, true_and, and_true, reduceCtorEq, if_true, if_false, reduceIte, Nat.reduceEqDiff, Nat.reduceAdd, Nat.succ_ne_self, ne_eq, not_false_eq_true, not_true_eq_false]; rfl, Nat.zero_le _, fun k hk => absurd hk (Nat.not_lt_zero k)⟩, fun _ => by simp only [mg_i_i, mg_i_l, mg_i_r, mg_i_b, mg_l_i, mg_l_l, mg_l_r, mg_l_b, mg_r_i, mg_r_l, mg_r_r, mg_r_b, false_and, and_false, true_and, and_true, reduceCtorEq, if_true, if_false, reduceIte, Nat.reduceEqDiff, Nat.reduceAdd, Nat.succ_ne_self, ne_eq, not_false_eq_true, not_true_eq_false]; rfl, by simp only [mg_i_i, mg_i_l, mg_i_r, mg_i_b, mg_l_i, mg_l_l, mg_l_r, mg_l_b, mg_r_i, mg_r_l, mg_r_r, mg_r_b, false_and, and_false, true_and, and_true, reduceCtorEq, if_true, if_false, reduceIte, Nat.reduceEqDiff, Nat.reduceAdd, Nat.succ_ne_self, ne_eq, not_false_eq_true, not_true_eq_false]⟩ (fun G' e e1 w1 w2 w3 w4 f z q => h0 G' e e1 w1 w3 w4 (up f) z q) (fun G' s e1 w1 w2 r f z q => h1 G' s e1 w1 w2 r (up f) z q)
