/-! read: the component -/
theorem fz_out {c k : Nat} (h : c ≠ 101 ∧ c ≠ 168 ∧ c ≠ 171 ∧ c ≠ 175) : fz_ c k = false := by
  unfold fz_
  rw [decide_eq_false h.1, decide_eq_false h.2.1, decide_eq_false h.2.2.1, decide_eq_false h.2.2.2]
  rfl
def fRs_ (c _k : Nat) : Bool := decide (c < 226)
def fWw_ (c k : Nat) : Bool := (decide (50 ≤ c) && decide (c ≤ 90)) || decide (c = 225) || fz_ c k
theorem fWw_F {c k : Nat} (h : (c < 50 ∨ 90 < c) ∧ c ≠ 225 ∧ c ≠ 101 ∧ c ≠ 168 ∧ c ≠ 171 ∧ c ≠ 175) : fWw_ c k = false := by
  unfold fWw_
  rw [decide_eq_false h.2.1, fz_out h.2.2]
  rcases h.1 with z | z
  · rw [decide_eq_false (p := 50 ≤ c) (by omega)]; rfl
  · rw [decide_eq_false (p := c ≤ 90) (by omega), Bool.and_false]; rfl
theorem fWw_1 {c k : Nat} (h : fWw_ c k = false) : (c < 50 ∨ 90 < c) ∧ c ≠ 225 ∧ fz_ c k = false := by
  unfold fWw_ at h
  simp only [Bool.or_eq_false_iff, Bool.and_eq_false_iff, decide_eq_false_iff_not] at h
  exact ⟨by omega, h.1.2, h.2⟩
theorem c_read {l : Launch} {κ : mm_K} {d : Nat} {G : mm_G} {K : Int32 → mm_G → Prop} {P : ps_T} (hP : ps_ok P) (hC : cB_ G P) (hz : zG_ G) (hn : 285 ≤ mg_n G) (hgz : gz_ G)
    (h : ∀ G', cB_ G' (st_read P) → zG_ G' → gz_ G' → fnz_ fRs_ G G' → (cZ_ G' ∨ ∃ pl, st_read P = wfl_ P pl ∧ fnz_ fRf_ G G') → K (an_read P) G') : mC l κ true (d + 7) 64 704 m_X12_read [.ref 0] G (rI K) := by
  -- a fault
  have hfail : ∀ (G2 : mm_G) k pl, an_read P = nI k → st_read P = wfl_ P pl → mg_i G2 7 2 = nI k → mg_i G2 7 3 = nI pl → fnz_ fRf_ G G2 → zG_ G2 → gz_ G2 → K (mg_i G2 7 2) (ms_i (ms_i G2 1 4 (nI 0)) 0 11 (mg_i G2 7 3)) := by
    intro G2 k pl ea es e2 e3 f z q
    have n2 := Nat.le_trans hn f.1
    have g : fr_ (fun c k => (decide (c = 0) && decide (k = 11)) || (decide (c = 1) && decide (k = 4))) G2 (ms_i (ms_i G2 1 4 (nI 0)) 0 11 (mg_i G2 7 3)) := (fr_.rfl'.si (by decide)).si (by decide)
    have hg : ∀ c k : Nat, (c ≠ 0 ∨ k ≠ 11) → (c ≠ 1 ∨ k ≠ 4) → ((fun c k => (decide (c = 0) && decide (k = 11)) || (decide (c = 1) && decide (k = 4))) c k) = false := fun c k z1 z2 => by
      simp only [Bool.or_eq_false_iff, Bool.and_eq_false_iff, decide_eq_false_iff_not]
      exact ⟨z1, z2⟩
    have F3 : fnz_ fRf_ G (ms_i (ms_i G2 1 4 (nI 0)) 0 11 (mg_i G2 7 3)) := f.tr2 g (fun c k hc y => by
      have := fRf_iff.1 y
      exact ⟨y, hg c k this.1 this.2.1⟩)
    rw [e2, ← ea]
    refine h _ ?_ (z.fr g (fun c k hc => hg c k (by omega) (by omega))) (q.fz g.fz n2 (fun c k h1 _ => hg c k (by omega) (by omega))) (F3.mono (fun c k hc y => by
      have := of_decide_eq_false y
      exact fRf_iff.2 (by omega))) (Or.inr ⟨pl, es, F3⟩)
    rw [es]
    exact cB_fail hP hC hn F3 (by simp only [mg_i_i, mg_i_l, mg_i_r, mg_i_b, mg_l_i, mg_l_l, mg_l_r, mg_l_b, mg_r_i, mg_r_l, mg_r_r, mg_r_b, false_and, and_false, true_and, and_true, reduceCtorEq, if_true, if_false, reduceIte, Nat.reduceEqDiff, Nat.reduceAdd, Nat.succ_ne_self, ne_eq, not_false_eq_true, not_true_eq_false]) (by simp only [mg_i_i, mg_i_l, mg_i_r, mg_i_b, mg_l_i, mg_l_l, mg_l_r, mg_l_b, mg_r_i, mg_r_l, mg_r_r, mg_r_b, false_and, and_false, true_and, and_true, reduceCtorEq, if_true, if_false, reduceIte, Nat.reduceEqDiff, Nat.reduceAdd, Nat.succ_ne_self, ne_eq, not_false_eq_true, not_true_eq_false]; exact e3)
  refine e_X12_read (s_readTape (d := d) hP hC hz hn hgz (fun G2 e e1 w1 w2 w3 f z q => ?_) (fun G2 s e1 w1 w2 r f z q => ?_))
  · have hne : ¬ mg_i G2 7 2 = 0 := by
      rw [w2]
      rcases w1 with y | y
      · rw [y]; decide
      · rw [y]; decide
    have hK := hfail G2 e.1 _ (by unfold an_read; rw [e1]) (by unfold st_read; rw [e1]) w2 w3 f z q
    exact ⟨fun _ => ⟨fun _ => hK, fun y => absurd y hne⟩, fun y => absurd y hne⟩
  · cases en : s.2.2.2.2.1 with
    | some j =>
      obtain ⟨v1, v2⟩ := w2 j en
      have hkf := kf_le (tb := tbb_ (ps_b P)) (j := j)
      have hne : ¬ mg_i G2 7 2 = 0 := by rw [v1]; exact nI_ne0 (by omega) (by omega)
      have hK := hfail G2 _ _ (by unfold an_read; rw [e1]; simp only [en]) (by unfold st_read; rw [e1]; simp only [en]) v1 v2 f z q
      exact ⟨fun _ => ⟨fun _ => hK, fun y => absurd y hne⟩, fun y => absurd y hne⟩
    | none =>
      have e72 : mg_i G2 7 2 = 0 := (w1 en).trans (by decide)
      have hrok := pwh_ok 402 rs0_ s rs0_ok e1
      obtain ⟨r1, r2, r3, r4, r5, r6⟩ := r
      have hp4 := hrok.2.2.1
      have n2 := Nat.le_trans hn f.1
      refine ⟨fun y => absurd e72 y, fun _ => ⟨fun y => absurd e72 y, fun _ => ?_⟩⟩
      have g : fr_ (fun c k => (decide (c = 0) && decide (k = 11)) || (decide (c = 1) && decide (k = 4))) G2 (ms_i (ms_i G2 1 4 (nI 0)) 0 11 (-1)) := (fr_.rfl'.si (by decide)).si (by decide)
      have hg : ∀ c k : Nat, (c ≠ 0 ∨ k ≠ 11) → (c ≠ 1 ∨ k ≠ 4) → ((fun c k => (decide (c = 0) && decide (k = 11)) || (decide (c = 1) && decide (k = 4))) c k) = false := fun c k z1 z2 => by
        simp only [Bool.or_eq_false_iff, Bool.and_eq_false_iff, decide_eq_false_iff_not]
        exact ⟨z1, z2⟩
      have F3 : fnz_ fRf_ G (ms_i (ms_i G2 1 4 (nI 0)) 0 11 (-1)) := f.tr2 g (fun c k hc y => by
        have := fRf_iff.1 y
        exact ⟨y, hg c k this.1 this.2.1⟩)
      have n3 : 285 ≤ mg_n (ms_i (ms_i G2 1 4 (nI 0)) 0 11 (-1)) := n2
      have z3 : zG_ (ms_i (ms_i G2 1 4 (nI 0)) 0 11 (-1)) := z.fr g (fun c k hc => hg c k (by omega) (by omega))
      have q3 : gz_ (ms_i (ms_i G2 1 4 (nI 0)) 0 11 (-1)) := q.fz g.fz n2 (fun c k h1 _ => hg c k (by omega) (by omega))
      have e14 : mg_i (ms_i (ms_i G2 1 4 (nI 0)) 0 11 (-1)) 1 4 = nI 0 := by simp only [mg_i_i, mg_i_l, mg_i_r, mg_i_b, mg_l_i, mg_l_l, mg_l_r, mg_l_b, mg_r_i, mg_r_l, mg_r_r, mg_r_b, false_and, and_false, true_and, and_true, reduceCtorEq, if_true, if_false, reduceIte, Nat.reduceEqDiff, Nat.reduceAdd, Nat.succ_ne_self, ne_eq, not_false_eq_true, not_true_eq_false]
      have e011 : mg_i (ms_i (ms_i G2 1 4 (nI 0)) 0 11 (-1)) 0 11 = -1 := by simp only [mg_i_i, mg_i_l, mg_i_r, mg_i_b, mg_l_i, mg_l_l, mg_l_r, mg_l_b, mg_r_i, mg_r_l, mg_r_r, mg_r_b, false_and, and_false, true_and, and_true, reduceCtorEq, if_true, if_false, reduceIte, Nat.reduceEqDiff, Nat.reduceAdd, Nat.succ_ne_self, ne_eq, not_false_eq_true, not_true_eq_false]
      have r83 : cR_ (ms_i (ms_i G2 1 4 (nI 0)) 0 11 (-1)) 8 s.1 (0, []) := by
        have c8 : cR_ G2 8 s.1 (0, []) := ⟨by rw [← r2]; exact r1.1, fun j hj => r3 j hj, r6, fun y => absurd rfl y, fun k hk => absurd hk (Nat.not_lt_zero k)⟩
        exact c8.fz hp4 g.fz n2 (by omega) (fun c k h1 h2 => hg c k (by omega) (by omega)) (fun t k ht => hg t k (by omega) (by omega))
      have T3 : cTr_ (ms_i (ms_i G2 1 4 (nI 0)) 0 11 (-1)) s.2.2.1 := r4.fz g.fz n2 (fun c k y => hg c k (by omega) (by omega))
      have fu3 : mg_i (ms_i (ms_i G2 1 4 (nI 0)) 0 11 (-1)) 20 5 = nI s.2.2.2.1 := by rw [g.i _ _ (hg _ _ (by omega) (by omega))]; exact r5 en
      generalize hG3 : ms_i (ms_i G2 1 4 (nI 0)) 0 11 (-1) = G3 at *
      have hcn := hC.2.2.1
      refine s_rscopy8 (d := d + 5) (x := 50) (y := 8) (p := s.1) (s := (0, [])) (by decide) rfl (by omega) hp4 (Nat.zero_le _) r83 (fun j hj => by rw [F3.i _ _ (by omega) (fRf_iff.2 (by omega))]; exact (hcn j hj).2.1) (fun j hj => by rw [F3.i _ _ (by omega) (fRf_iff.2 (by omega))]; exact (hcn j hj).1) (fun G4 c4 n4 f4 => ?_)
      have n4' : 285 ≤ mg_n G4 := by rw [f4.1]; exact n3
      refine s_tcopy (d := d + 5) (tr := s.2.2.1) (fu := s.2.2.2.1) (T3.fz f4.fz n3 (fun c k y => fy_F (by omega))) (by rw [f4.i _ _ (fy_F (by omega))]; exact fu3) (q3.fz f4.fz n3 (fun c k _ _ => fy_F (by omega))) (fun G5 c5 f5 => ?_)
      have n5 : 285 ≤ mg_n G5 := by rw [f5.1]; exact n4'
      suffices H : ∀ m i G6, i + m = 3 → fr_ (fun c _ => decide (c = 225)) G5 G6 → (∀ u, u < i → mg_i G6 225 u = nI 0) → mV l κ true (d + 7) 0 0 m_X12_read 80 [some (.ref 0), some (.int (nI i))] [] G6 (rI K) from H 3 0 G5 rfl fr_.rfl' (fun u hu => absurd hu (Nat.not_lt_zero u))
      intro m
      induction m with
      | succ m ih =>
        intro i G6 hi f6 b6
        refine p_X12_read_80 _ ⟨fun y => absurd y (nI_ge (by omega) (by omega)), fun _ => ⟨(ki_vp (by omega)).2 (by omega), ?_⟩⟩
        rw [nI_add, nI_clamp (by omega), show vp_nar .boolean (nI 0) = nI 0 by decide +kernel]
        refine ih (i + 1) _ (by omega) (f6.si (decide_eq_true rfl)) (fun u hu => ?_)
        rw [mg_i_i]
        by_cases c : u = i
        · rw [if_pos ⟨rfl, c⟩]
        · rw [if_neg (fun y => c y.2)]; exact b6 u (by omega)
      | zero =>
        intro i G6 hi f6 b6
        refine p_X12_read_80 _ ⟨fun _ => s_rowsChanged (d := d + 5) (fun G7 cz f7 => ?_), fun y => absurd (nI_le (by omega) (by omega)) y⟩
        have W45 : fr_ fWw_ G3 G4 := f4.mono (fun c k y => fy_F (by have := fWw_1 y; omega))
        have W5 : fr_ fWw_ G4 G5 := f5.mono (fun c k y => fTc_F (by have := fWw_1 y; omega))
        have W6 : fr_ fWw_ G5 G6 := f6.mono (fun c k y => decide_eq_false (fWw_1 y).2.1)
        have W7 : fr_ fWw_ G6 G7 := f7.mono (fun c k y => (fWw_1 y).2.2)
        have W := ((W45.trans W5).trans W6).trans W7
        have n6 : 285 ≤ mg_n G6 := by rw [f6.1]; exact n5
        have fR : mg_i G7 7 2 = nI 0 := by
          rw [W.i _ _ (fWw_F (by omega))]
          have := g.i 7 2 (hg 7 2 (by omega) (by omega))
          rw [this]
          exact w1 en
        have ea : an_read P = nI 0 := by unfold an_read; rw [e1]; simp only [en]
        have es : st_read P = wnw_ s := by unfold st_read; rw [e1]; simp only [en]
        rw [fR, ← ea]
        refine h G7 ?_ (z3.fr W (fun c k hc => fWw_F (by omega))) (q3.fz W.fz n3 (fun c k _ _ => fWw_F (by omega))) (F3.tr2 W (fun c k hc y => by
          have := of_decide_eq_false y
          exact ⟨fRf_iff.2 (by omega), fWw_F (by omega)⟩)) (Or.inl cz)
        rw [es]
        have k54 : ∀ c k, (50 ≤ c ∧ c ≤ 61) ∨ 285 ≤ c → mg_i G7 c k = mg_i G4 c k ∧ mg_l G7 c k = mg_l G4 c k ∧ mg_r G7 c k = mg_r G4 c k := fun c k hc => by
          have x1 := f5.2 c k (fTc_F (by omega))
          have x2 := f6.2 c k (decide_eq_false (by omega))
          have x3 := f7.2 c k (fz_out (by omega))
          exact ⟨x3.1.trans (x2.1.trans x1.1), x3.2.1.trans (x2.2.1.trans x1.2.1), x3.2.2.trans (x2.2.2.trans x1.2.2)⟩
        have nn : mg_n G7 = mg_n G4 := f7.1.trans (f6.1.trans f5.1)
        refine ⟨c4.on (S := fun c _ => decide ((50 ≤ c ∧ c ≤ 61) ∨ 285 ≤ c)) hp4 (fun c k hc => k54 c k (of_decide_eq_true hc)) (Nat.le_of_eq nn.symm) (fun c k y1 y2 => decide_eq_true (by omega)) (fun t k y => decide_eq_true (Or.inr y)), c5.on (S := fun c _ => decide (62 ≤ c ∧ c < 91)) hrok.2.2.2.2.2.1.1 (fun c k hc => ?_) (fun c k y1 y2 => decide_eq_true ⟨y1, by omega⟩), fun j hj => ?_, fun i hi => ⟨fun _ => ?_, fun p s y => (by cases y)⟩, ⟨?_, fun j hj => absurd hj (Nat.not_lt_zero j)⟩, ?_, fun w hw => ?_⟩
        · have hc := of_decide_eq_true hc
          have x2 := f6.2 c k (decide_eq_false (by omega))
          have x3 := f7.2 c k (fz_out (by omega))
          exact ⟨x3.1.trans x2.1, x3.2.1.trans x2.2.1, x3.2.2.trans x2.2.2⟩
        · obtain ⟨b1, b2, b3⟩ := hcn j hj
          refine ⟨?_, ?_, fun i hi => ?_⟩
          · rw [W.i _ _ (fWw_F (by omega)), F3.i _ _ (by omega) (fRf_iff.2 (by omega))]; exact b1
          · rw [(k54 _ _ (by omega)).1]; exact n4 j hj
          · rw [W.i _ _ (fWw_F (by omega)), F3.i _ _ (by omega) (fRf_iff.2 (by omega))]; exact b3 i hi
        · rw [f7.i _ _ (fz_out (by omega))]; exact b6 i (by omega)
        · rw [W.i _ _ (fWw_F (by omega))]; exact e14
        · rw [W.i _ _ (fWw_F (by omega))]; exact e011
        · rw [W.l _ _ (fWw_F (by omega)), F3.l _ _ (by omega) (fRf_iff.2 (by omega))]; exact hC.2.2.2.2.2.2 w hw
