/-! read: the reference -/
def fRx_ (b c k : Nat) : Bool := decide ((c = 226 ∧ (k = 2 ∨ k = 4 ∨ (10 ≤ k ∧ k ≤ 17) ∨ k = 19 ∨ k = 41 ∨ k = 42)) ∨ c = 228 ∨ (229 ≤ c ∧ c ≤ 232) ∨ (c = 234 ∧ k = b) ∨ ((c = 235 ∨ c = 236) ∧ 4 * b ≤ k ∧ k < 4 * b + 4) ∨ (237 ≤ c ∧ c ≤ 247 ∧ 64 * b ≤ k ∧ k < 64 * b + 64) ∨ c = 248 ∨ ((c = 249 ∨ c = 254) ∧ k = b) ∨ ((c = 250 ∨ c = 252) ∧ 8 * b ≤ k ∧ k < 8 * b + 8) ∨ (c = 251 ∧ 48 * b ≤ k ∧ k < 48 * b + 48) ∨ (c = 253 ∧ 64 * b ≤ k ∧ k < 64 * b + 64))
theorem fRx_F {b c k : Nat} (h : ¬ ((c = 226 ∧ (k = 2 ∨ k = 4 ∨ (10 ≤ k ∧ k ≤ 17) ∨ k = 19 ∨ k = 41 ∨ k = 42)) ∨ c = 228 ∨ (229 ≤ c ∧ c ≤ 232) ∨ (c = 234 ∧ k = b) ∨ ((c = 235 ∨ c = 236) ∧ 4 * b ≤ k ∧ k < 4 * b + 4) ∨ (237 ≤ c ∧ c ≤ 247 ∧ 64 * b ≤ k ∧ k < 64 * b + 64) ∨ c = 248 ∨ ((c = 249 ∨ c = 254) ∧ k = b) ∨ ((c = 250 ∨ c = 252) ∧ 8 * b ≤ k ∧ k < 8 * b + 8) ∨ (c = 251 ∧ 48 * b ≤ k ∧ k < 48 * b + 48) ∨ (c = 253 ∧ 64 * b ≤ k ∧ k < 64 * b + 64))) : fRx_ b c k = false := decide_eq_false h
def fmm_ (c _k : Nat) : Bool := decide (226 ≤ c ∧ c ≤ 284)
theorem fRx_mm {b : Nat} {G G1 : mm_G} (h : fr_ (fRx_ b) G G1) : fr_ fmm_ G G1 := h.mono (fun c k q => by
  have := of_decide_eq_false q
  exact fRx_F (by omega))
theorem rd_eq {G G1 : mm_G} {q : Nat} (h : ∀ c, 237 ≤ c → c ≤ 247 → mg_i G1 c q = mg_i G c q ∧ mg_l G1 c q = mg_l G c q) : rd_m G1 q = rd_m G q := by
  unfold rd_m
  rw [(h 237 (by omega) (by omega)).1, (h 238 (by omega) (by omega)).1, (h 239 (by omega) (by omega)).1, (h 240 (by omega) (by omega)).1, (h 241 (by omega) (by omega)).1, (h 242 (by omega) (by omega)).1, (h 243 (by omega) (by omega)).1, (h 244 (by omega) (by omega)).1, (h 245 (by omega) (by omega)).1, (h 246 (by omega) (by omega)).2, (h 247 (by omega) (by omega)).2]
/-- a fault: all stands but the tape and the place -/
theorem mB_.fail {G G1 : mm_G} {P : ps_T} {a pl : Nat} (hP : ps_ok P) (h : mB_ G P a) (hf : fr_ (fRx_ (1 - a)) G G1) (h2 : mg_i G1 226 2 = nI 0) : mB_ (ms_i G1 226 17 (nI pl)) (wfl_ P pl) a := by
  obtain ⟨b1, b2, b3, b4, b5, b6, b7, b8, b9⟩ := h
  have g : fr_ (fRx_ (1 - a)) G (ms_i G1 226 17 (nI pl)) := hf.si (decide_eq_true (by omega))
  have hA : ∀ {x : Nat} {p : px_T}, x ≠ 1 - a → p.length ≤ 4 → (∀ j, (px_at p j).length ≤ 16) → mA_ G x p → mA_ (ms_i G1 226 17 (nI pl)) x p := fun {x p} hx h1 h2 hA => hA.only h1 h2 (g.i _ _ (fRx_F (by omega))) (fun j hj => g.i _ _ (fRx_F (by omega))) (fun q q1 q2 => rd_m.at g (fun c c1 c2 => fRx_F (by omega)))
  have hod : ∀ n o, mD_ G 269 270 271 n o → mD_ (ms_i G1 226 17 (nI pl)) 269 270 271 n o := fun n o ⟨d1, d2, d3⟩ => ⟨by rw [g.i _ _ (fRx_F (by omega))]; exact d1, by rw [g.i _ _ (fRx_F (by omega))]; exact d2, fun j hj => by rw [g.i _ _ (fRx_F (by omega))]; exact d3 j hj⟩
  have hod2 : ∀ n o, mD_ G 282 283 284 n o → mD_ (ms_i G1 226 17 (nI pl)) 282 283 284 n o := fun n o ⟨d1, d2, d3⟩ => ⟨by rw [g.i _ _ (fRx_F (by omega))]; exact d1, by rw [g.i _ _ (fRx_F (by omega))]; exact d2, fun j hj => by rw [g.i _ _ (fRx_F (by omega))]; exact d3 j hj⟩
  refine ⟨b1, by rw [g.i _ _ (fRx_F (by omega))]; exact b2, hA (by omega) hP.1.1 hP.1.2.2 b3, ?_, ?_, ?_, ?_, ?_, fun k hk => by rw [g.l _ _ (fRx_F (by omega))]; exact b9 k hk⟩
  · obtain ⟨t1, t2, t3⟩ := b4
    have ht := hP.2.1
    refine ⟨by rw [g.i _ _ (fRx_F (by omega))]; exact t1, by rw [g.i _ _ (fRx_F (by omega))]; exact t2, fun k hk => ?_⟩
    have hk : k < (ps_t P).length := hk
    have hk8 := ht.1
    obtain ⟨u1, u2, u3, u4⟩ := t3 k hk
    have hk6 := (ht.2 k).1
    refine ⟨by rw [g.i _ _ (fRx_F (by omega))]; exact u1, fun j hj => ?_, fun z => by rw [g.i _ _ (fRx_F (by omega))]; exact u3 z, fun z q => ?_⟩
    · have hj : j < (tx_in (ps_t P) k).length := hj
      rw [g.i _ _ (fRx_F (by omega))]; exact u2 j hj
    · have hz8 := (ht.2 k).2 z q
      exact ⟨by rw [g.i _ _ (fRx_F (by omega))]; exact (u4 z q).1, fun j hj => by rw [g.i _ _ (fRx_F (by omega))]; exact (u4 z q).2 j hj⟩
  · obtain ⟨s1, s2, s3⟩ := b5
    exact ⟨by rw [g.i _ _ (fRx_F (by omega))]; exact s1, fun z => by rw [g.i _ _ (fRx_F (by omega))]; exact s2 z, fun k hk => ⟨by rw [g.i _ _ (fRx_F (by omega))]; exact (s3 k hk).1, hod _ _ (s3 k hk).2⟩⟩
  · intro i hi
    obtain ⟨v1, v2⟩ := b6 i hi
    refine ⟨fun z => by rw [g.i _ _ (fRx_F (by omega))]; exact v1 z, fun p s z => ?_⟩
    have z : ps_s P i = some (p, s) := z
    obtain ⟨w1, w2, w3, w4, w5⟩ := v2 p s z
    have hps := (hP.2.2.2.2.1 i p s z).1
    exact ⟨by rw [g.i _ _ (fRx_F (by omega))]; exact w1, hA (by omega) hps.1 hps.2.2 w2, by rw [g.i _ _ (fRx_F (by omega))]; exact w3, fun y => by rw [g.i _ _ (fRx_F (by omega))]; exact w4 y, fun k hk => ⟨by rw [g.i _ _ (fRx_F (by omega))]; exact (w5 k hk).1, hod2 _ _ (w5 k hk).2⟩⟩
  · exact ⟨by simp only [mg_i_i, mg_i_l, mg_i_r, mg_i_b, mg_l_i, mg_l_l, mg_l_r, mg_l_b, mg_r_i, mg_r_l, mg_r_r, mg_r_b, false_and, and_false, true_and, and_true, reduceCtorEq, if_true, if_false, reduceIte, Nat.reduceEqDiff, Nat.reduceAdd, Nat.succ_ne_self, ne_eq, not_false_eq_true, not_true_eq_false]; exact h2, fun j hj => absurd hj (Nat.not_lt_zero j)⟩
  · simp only [mg_i_i, mg_i_l, mg_i_r, mg_i_b, mg_l_i, mg_l_l, mg_l_r, mg_l_b, mg_r_i, mg_r_l, mg_r_r, mg_r_b, false_and, and_false, true_and, and_true, reduceCtorEq, if_true, if_false, reduceIte, Nat.reduceEqDiff, Nat.reduceAdd, Nat.succ_ne_self, ne_eq, not_false_eq_true, not_true_eq_false]; rfl
theorem nar255 : ∀ x, x < 256 → vp_nar .byte ((nI x).toInt8.toInt32) &&& nI 255 = nI x := by decide +kernel
theorem m_read {l : Launch} {κ : mm_K} {d : Nat} {G : mm_G} {K : Int32 → mm_G → Prop} {P : ps_T} {a : Nat} (hP : ps_ok P) (hM : mB_ G P a) (h : ∀ G' a', mB_ G' (st_read P) a' → fr_ fmm_ G G' → K (an_read P) G') : mC l κ true (d + 9) 0 0 m_X13_read [.ref 226] G (rI K) := by
  obtain ⟨b1, b2, b3, b4, b5, b6, b7, b8, b9⟩ := id hM
  have hb := hP.2.2.2.2.2.1
  have hby := hP.2.2.2.2.2.2
  have hT := tbb_ok hb
  have hb2 : 1 - a < 2 := by omega
  -- with a fault
  have HF : ∀ G1 e (v1 : Int32), rdw_ P = .inl e → mF_ G1 (tbb_ (ps_b P)) e → mg_i G1 226 2 = nI 0 → fr_ (fRx_ (1 - a)) G G1 → mV l κ true (d + 9) 0 0 m_X13_read 106 [some (.ref 226), some (.int v1)] [] G1 (rI K) := by
    intro G1 e v1 hr p1 e2 f1
    have ea : an_read P = nI e.1 := by unfold an_read; rw [hr]
    have es : st_read P = wfl_ P (tkp_ (tbb_ (ps_b P)) e.2) := by unfold st_read; rw [hr]
    refine p_X13_read_106 _ ⟨fun _ => ⟨fun y => absurd y p1.ne.2.1, fun _ => ⟨fun y => absurd y p1.ne.2.1, fun _ => ?_⟩⟩, fun y => absurd y p1.ne.1⟩
    rw [p1.2.2.1, p1.2.2.2.1, ← ea]
    exact h _ a (by rw [es]; exact hM.fail hP f1 e2) (fRx_mm (f1.si (decide_eq_true (by omega))))
  -- the end
  have HE : ∀ G1 s, rdw_ P = .inr s → mP_ G1 (tbb_ (ps_b P)) s.2.2.2.2.1 s.2.2.2.2.2 → mSd_ G1 (1 - a) s → mg_i G1 226 2 = nI 0 → fr_ (fRx_ (1 - a)) G G1 → ((mg_i G1 226 13) ≤ 0 → (((mg_i G1 226 15) ≤ 0 → (((mg_i G1 226 13) ≤ 0 → (((mg_i G1 226 15) ≤ 0 → mV l κ true (d + 9) 0 0 m_X13_read 200 [some (.ref 226), some (.int (nI 0))] [] (ms_i (ms_i (ms_i G1 226 17 (-1)) 226 18 (mg_i G1 226 19)) 226 65 (nI 0)) (rI K)) ∧ (¬ (mg_i G1 226 15) ≤ 0 → K (mg_i G1 226 15) (ms_i G1 226 17 (-1))))) ∧ (¬ (mg_i G1 226 13) ≤ 0 → K (mg_i G1 226 13) (ms_i G1 226 17 (-1))))) ∧ (¬ (mg_i G1 226 15) ≤ 0 → (((mg_i G1 226 13) ≤ 0 → (((mg_i G1 226 15) ≤ 0 → mV l κ true (d + 9) 0 0 m_X13_read 200 [some (.ref 226), some (.int (nI 0))] [] (ms_i (ms_i (ms_i G1 226 17 (mg_i G1 226 16)) 226 18 (mg_i G1 226 19)) 226 65 (nI 0)) (rI K)) ∧ (¬ (mg_i G1 226 15) ≤ 0 → K (mg_i G1 226 15) (ms_i G1 226 17 (mg_i G1 226 16))))) ∧ (¬ (mg_i G1 226 13) ≤ 0 → K (mg_i G1 226 13) (ms_i G1 226 17 (mg_i G1 226 16))))))) := by
    intro G1 s hr p1 sd e2 f1 _
    obtain ⟨p, nms, tr, fu, nt, t⟩ := s
    have p1 : mP_ G1 (tbb_ (ps_b P)) nt t := p1
    have e13 : mg_i G1 226 13 = nI 0 := p1.2.2.2.1
    cases nt with
    | some j =>
      obtain ⟨x1, x2, x3, x4⟩ := p1.2.2.2.2.2.2 j rfl
      have hkf := kf_le (tb := tbb_ (ps_b P)) (j := j)
      have hn0 : ¬ mg_i G1 226 15 ≤ 0 := by rw [x1, ki_0, nI_leI (by omega) (by omega)]; omega
      have ea : an_read P = nI (kf_ (tbb_ (ps_b P)) j) := by unfold an_read; rw [hr]
      have es : st_read P = wfl_ P (tkp_ (tbb_ (ps_b P)) j) := by unfold st_read; rw [hr]
      refine ⟨fun y => absurd y hn0, fun _ => ⟨fun _ => ⟨fun y => absurd y hn0, fun _ => ?_⟩, fun y => absurd (by rw [e13]; decide) y⟩⟩
      rw [x1, x2, ← ea]
      exact h _ a (by rw [es]; exact hM.fail hP f1 e2) (fRx_mm (f1.si (decide_eq_true (by omega))))
    | none =>
      have x1 : mg_i G1 226 15 = nI 0 := p1.2.2.2.2.2.1 rfl
      have hn0 : mg_i G1 226 15 ≤ 0 := by rw [x1]; decide
      have ea : an_read P = nI 0 := by unfold an_read; rw [hr]
      have es : st_read P = wnw_ (p, nms, tr, fu, none, t) := by unfold st_read; rw [hr]
      have hrk := pwh_ok 402 rs0_ _ rs0_ok hr
      refine ⟨fun _ => ⟨fun _ => ⟨fun _ => ?_, fun y => absurd hn0 y⟩, fun y => absurd (by rw [e13]; decide) y⟩, fun y => absurd hn0 y⟩
      obtain ⟨m1, m2, m3, m4, m5, m6⟩ := sd
      have m1 : mNm_ G1 (1 - a) nms := m1
      have m2 : nms.length = p.length := m2
      rw [m1.1]
      -- the slots are emptied
      have fin : ∀ G2, (∀ i, i < 3 → mg_i G2 278 i = nI 0) → fr_ (fun c k => decide ((c = 226 ∧ (k = 17 ∨ k = 18 ∨ k = 65)) ∨ c = 278)) G1 G2 → mg_i G2 226 17 = -1 → mg_i G2 226 18 = nI (1 - a) → mg_i G2 226 65 = nI 0 → K (nI 0) G2 := by
        intro G2 z8 f2 z17 z18 z65
        rw [← ea]
        have keep : ∀ c k, ¬ ((c = 226 ∧ (k = 17 ∨ k = 18 ∨ k = 65)) ∨ c = 278) → (fun c k => decide ((c = 226 ∧ (k = 17 ∨ k = 18 ∨ k = 65)) ∨ c = 278)) c k = false := fun c k q => decide_eq_false q
        refine h G2 (1 - a) ?_ ((fRx_mm f1).trans (f2.mono (fun c k q => by
          have := of_decide_eq_false q
          exact decide_eq_false (by omega))))
        rw [es]
        refine ⟨hb2, z18, ⟨?_, fun j hj => ?_⟩, ⟨?_, ?_, fun k hk => ?_⟩, ⟨z65, fun q => absurd rfl q, fun k hk => absurd hk (Nat.not_lt_zero k)⟩, fun i hi => ⟨fun _ => z8 i hi, fun p s q => (by cases q)⟩, ⟨?_, fun j hj => absurd hj (Nat.not_lt_zero j)⟩, z17, fun k hk => ?_⟩
        · show mg_i G2 234 (1 - a) = nI p.length
          rw [f2.i _ _ (keep _ _ (by omega)), m1.2.1, m2]
        · have hj : j < p.length := hj
          obtain ⟨u1, u2⟩ := m3 j hj
          refine ⟨by rw [f2.i _ _ (keep _ _ (by omega))]; exact u1, fun i hi => ?_⟩
          rw [rd_m.at f2 (fun c c1 c2 => keep _ _ (by omega))]
          exact u2 i hi
        · show mg_i G2 249 (1 - a) = nI tr.length
          rw [f2.i _ _ (keep _ _ (by omega))]; exact m4
        · show mg_i G2 254 (1 - a) = nI fu
          rw [f2.i _ _ (keep _ _ (by omega))]; exact m6
        · obtain ⟨u1, u2, u3, u4⟩ := m5 k hk
          exact ⟨by rw [f2.i _ _ (keep _ _ (by omega))]; exact u1, fun j hj => by rw [f2.i _ _ (keep _ _ (by omega))]; exact u2 j hj, fun z => by rw [f2.i _ _ (keep _ _ (by omega))]; exact u3 z, fun g z => ⟨by rw [f2.i _ _ (keep _ _ (by omega))]; exact (u4 g z).1, fun j hj => by rw [f2.i _ _ (keep _ _ (by omega))]; exact (u4 g z).2 j hj⟩⟩
        · rw [f2.i _ _ (keep _ _ (by omega))]; exact e2
        · rw [f2.l _ _ (keep _ _ (by omega)), f1.l _ _ (fRx_F (by omega))]; exact b9 k hk
      suffices H : ∀ m i G2, i + m = 3 → (∀ j, j < i → mg_i G2 278 j = nI 0) → fr_ (fun c k => decide ((c = 226 ∧ (k = 17 ∨ k = 18 ∨ k = 65)) ∨ c = 278)) G1 G2 → mg_i G2 226 17 = -1 → mg_i G2 226 18 = nI (1 - a) → mg_i G2 226 65 = nI 0 → mV l κ true (d + 9) 0 0 m_X13_read 200 [some (.ref 226), some (.int (nI i))] [] G2 (rI K) from
        H 3 0 _ rfl (fun j hj => absurd hj (Nat.not_lt_zero j)) (((fr_.rfl'.si (by decide)).si (by decide)).si (by decide)) (by simp only [mg_i_i, mg_i_l, mg_i_r, mg_i_b, mg_l_i, mg_l_l, mg_l_r, mg_l_b, mg_r_i, mg_r_l, mg_r_r, mg_r_b, false_and, and_false, true_and, and_true, reduceCtorEq, if_true, if_false, reduceIte, Nat.reduceEqDiff, Nat.reduceAdd, Nat.succ_ne_self, ne_eq, not_false_eq_true, not_true_eq_false]) (by simp only [mg_i_i, mg_i_l, mg_i_r, mg_i_b, mg_l_i, mg_l_l, mg_l_r, mg_l_b, mg_r_i, mg_r_l, mg_r_r, mg_r_b, false_and, and_false, true_and, and_true, reduceCtorEq, if_true, if_false, reduceIte, Nat.reduceEqDiff, Nat.reduceAdd, Nat.succ_ne_self, ne_eq, not_false_eq_true, not_true_eq_false]) (by simp only [mg_i_i, mg_i_l, mg_i_r, mg_i_b, mg_l_i, mg_l_l, mg_l_r, mg_l_b, mg_r_i, mg_r_l, mg_r_r, mg_r_b, false_and, and_false, true_and, and_true, reduceCtorEq, if_true, if_false, reduceIte, Nat.reduceEqDiff, Nat.reduceAdd, Nat.succ_ne_self, ne_eq, not_false_eq_true, not_true_eq_false])
      intro m
      induction m with
      | zero =>
        intro i G2 hi z8 f2 z17 z18 z65
        exact p_X13_read_200 _ ⟨fun _ => fin G2 (fun j hj => z8 j (by omega)) f2 z17 z18 z65, fun y => absurd (nI_le (by omega) (by omega)) y⟩
      | succ m ih =>
        intro i G2 hi z8 f2 z17 z18 z65
        refine p_X13_read_200 _ ⟨fun y => absurd y (nI_ge (by omega) (by omega)), fun _ => ⟨(ki_vp (by omega)).2 (by omega), ?_⟩⟩
        rw [nI_add, nI_clamp (by omega), show vp_nar .boolean (nI 0) = nI 0 by decide +kernel]
        refine ih (i + 1) _ (by omega) (fun j hj => ?_) (f2.si (decide_eq_true (Or.inr rfl))) (by simp only [mg_i_i, mg_i_l, mg_i_r, mg_i_b, mg_l_i, mg_l_l, mg_l_r, mg_l_b, mg_r_i, mg_r_l, mg_r_r, mg_r_b, false_and, and_false, true_and, and_true, reduceCtorEq, if_true, if_false, reduceIte, Nat.reduceEqDiff, Nat.reduceAdd, Nat.succ_ne_self, ne_eq, not_false_eq_true, not_true_eq_false]; exact z17) (by simp only [mg_i_i, mg_i_l, mg_i_r, mg_i_b, mg_l_i, mg_l_l, mg_l_r, mg_l_b, mg_r_i, mg_r_l, mg_r_r, mg_r_b, false_and, and_false, true_and, and_true, reduceCtorEq, if_true, if_false, reduceIte, Nat.reduceEqDiff, Nat.reduceAdd, Nat.succ_ne_self, ne_eq, not_false_eq_true, not_true_eq_false]; exact z18) (by simp only [mg_i_i, mg_i_l, mg_i_r, mg_i_b, mg_l_i, mg_l_l, mg_l_r, mg_l_b, mg_r_i, mg_r_l, mg_r_r, mg_r_b, false_and, and_false, true_and, and_true, reduceCtorEq, if_true, if_false, reduceIte, Nat.reduceEqDiff, Nat.reduceAdd, Nat.succ_ne_self, ne_eq, not_false_eq_true, not_true_eq_false]; exact z65)
        rw [mg_i_i]
        by_cases cj : j = i
        · rw [if_pos ⟨rfl, cj⟩]
        · rw [if_neg (by omega)]; exact z8 j (by omega)
  -- what is told
  have HT : ∀ m i s G1 (v1 : Int32), i + m = 402 → i ≤ s.2.2.2.2.2 → rdw_ P = pwh_ (tbb_ (ps_b P)) m s → rok_ (tbb_ (ps_b P)) s → mP_ G1 (tbb_ (ps_b P)) s.2.2.2.2.1 s.2.2.2.2.2 → mSd_ G1 (1 - a) s → mg_i G1 226 2 = nI 0 → fr_ (fRx_ (1 - a)) G G1 → mV l κ true (d + 9) 0 0 m_X13_read 106 [some (.ref 226), some (.int v1)] [] G1 (rI K) := by
    intro m
    induction m with
    | zero =>
      intro i s G1 v1 hi hle _ _ p1 _ _ _
      have := p1.1
      omega
    | succ m ih =>
      intro i s G1 v1 hi hle hr hk p1 sd e2 f1
      have hr' : rdw_ P = if tkk_ (tbb_ (ps_b P)) s.2.2.2.2.2 = 0 then .inr s else bd_ (pst_ (tbb_ (ps_b P)) s) (fun s' => pwh_ (tbb_ (ps_b P)) m s') := hr
      refine p_X13_read_106 _ ⟨fun y => absurd (by rw [p1.2.2.2.1]; decide) y, fun _ => t_is (k := 0) hT (by omega) p1 ?_⟩
      by_cases c : tkk_ (tbb_ (ps_b P)) s.2.2.2.2.2 = 0
      · rw [if_pos c] at hr' ⊢
        exact ⟨fun _ => ⟨HE G1 s hr' p1 sd e2 f1, fun y => absurd (by rw [p1.2.2.2.1]; decide) y⟩, fun y => absurd y (by decide)⟩
      · rw [if_neg c] at hr' ⊢
        have toX : ∀ {G2 G3 : mm_G}, fr_ (fSd_ (1 - a)) G2 G3 → fr_ (fRx_ (1 - a)) G2 G3 := fun f => f.mono (fun c k q => by
          have := of_decide_eq_false q
          exact decide_eq_false (by omega))
        refine ⟨fun y => absurd (by decide) y, fun _ => t_tell (d := d) hT hb2 hk sd p1 (fun G2 s' e3 p2 sd2 f2 => ?_) (fun G2 e e3 p2 f2 => ?_)⟩
        · have := pst_lt hk.1 e3
          exact ih (i + 1) s' G2 v1 (by omega) (by omega) (by rw [hr', bd_r _ e3]) (pst_ok hk e3) p2 sd2 (by rw [f2.i _ _ (decide_eq_false (by omega))]; exact e2) (f1.trans (toX f2))
        · exact HF G2 e v1 (by rw [hr', bd_l _ e3]) p2 (by rw [f2.i _ _ (decide_eq_false (by omega))]; exact e2) (f1.trans (toX f2))
  -- the text is taken over
  refine e_X13_read ?_
  rw [b7.1]
  suffices H : ∀ q i G1, i + q = (ps_b P).length → mg_i G1 226 4 = nI (ps_b P).length → (∀ j, j < i → mg_i G1 228 j &&& nI 255 = nI (bq_ (ps_b P) j)) → fr_ (fun c k => decide (c = 228 ∨ (c = 226 ∧ k = 4))) G G1 → mV l κ true (d + 9) 0 0 m_X13_read 10 [some (.ref 226), some (.int (nI i))] [] G1 (rI K) from
    H (ps_b P).length 0 _ (Nat.zero_add _) (by simp only [mg_i_i, mg_i_l, mg_i_r, mg_i_b, mg_l_i, mg_l_l, mg_l_r, mg_l_b, mg_r_i, mg_r_l, mg_r_r, mg_r_b, false_and, and_false, true_and, and_true, reduceCtorEq, if_true, if_false, reduceIte, Nat.reduceEqDiff, Nat.reduceAdd, Nat.succ_ne_self, ne_eq, not_false_eq_true, not_true_eq_false]) (fun j hj => absurd hj (Nat.not_lt_zero j)) (fr_.rfl'.si (by decide))
  intro q
  induction q with
  | succ q ih =>
    intro i G1 hi e4 hk f1
    refine p_X13_read_10 _ ?_
    rw [e4, nI_leI (by omega) (by omega), nI_add, nI_clamp (by omega), f1.i 227 i (decide_eq_false (by omega)), b7.2 i (by omega)]
    refine ⟨fun y => by omega, fun _ => ⟨(ki_vp (by omega)).2 (by omega), (ki_vp (by omega)).2 (by omega), ?_⟩⟩
    refine ih (i + 1) _ (by omega) (by simp only [mg_i_i, mg_i_l, mg_i_r, mg_i_b, mg_l_i, mg_l_l, mg_l_r, mg_l_b, mg_r_i, mg_r_l, mg_r_r, mg_r_b, false_and, and_false, true_and, and_true, reduceCtorEq, if_true, if_false, reduceIte, Nat.reduceEqDiff, Nat.reduceAdd, Nat.succ_ne_self, ne_eq, not_false_eq_true, not_true_eq_false]; exact e4) (fun j hj => ?_) (f1.si (decide_eq_true (Or.inl rfl)))
    rw [mg_i_i]
    by_cases cj : j = i
    · rw [if_pos ⟨rfl, cj⟩, cj]
      exact nar255 _ (hby i (by omega))
    · rw [if_neg (by omega)]; exact hk j (by omega)
  | zero =>
    intro i G1 hi e4 hk f1
    refine p_X13_read_10 _ ?_
    rw [e4, nI_leI (by omega) (by omega)]
    refine ⟨fun _ => ?_, fun y => absurd (by omega) y⟩
    have X1 : mX_ (ms_i G1 226 2 (nI 0)) (ps_b P) := by
      refine ⟨by simp only [mg_i_i, mg_i_l, mg_i_r, mg_i_b, mg_l_i, mg_l_l, mg_l_r, mg_l_b, mg_r_i, mg_r_l, mg_r_r, mg_r_b, false_and, and_false, true_and, and_true, reduceCtorEq, if_true, if_false, reduceIte, Nat.reduceEqDiff, Nat.reduceAdd, Nat.succ_ne_self, ne_eq, not_false_eq_true, not_true_eq_false]; exact e4, hb, fun j hj => ⟨?_, hby j hj⟩, fun k hk2 => ?_⟩
      · rw [mg_i_i, if_neg (by omega)]; exact hk j (by omega)
      · rw [mg_l_i, f1.l _ _ (decide_eq_false (by omega))]; exact b9 k hk2
    refine t_cut (d := d + 6) X1 (fun G2 k2 f2 => ?_)
    have e18 : mg_i G2 226 18 = nI a := by
      rw [f2.i _ _ (fct_F (by omega)), mg_i_i, if_neg (by omega), f1.i _ _ (decide_eq_false (by omega))]; exact b2
    have e22 : mg_i G2 226 2 = nI 0 := by rw [f2.i _ _ (fct_F (by omega)), mg_i_i, if_pos ⟨rfl, rfl⟩]
    rw [e18, ki_sub (by omega), nI_clamp (n := 1 - a) (by omega)]
    refine ⟨(ki_vp (by omega)).2 (by omega), (ki_vp (by omega)).2 (by omega), (ki_vp (by omega)).2 (by omega), ?_⟩
    generalize hG3 : (ms_i (ms_i (ms_i (ms_i (ms_i (ms_i (ms_i (ms_i G2 226 11 (nI 0)) 226 12 (nI 0)) 226 13 (nI 0)) 226 15 (nI 0)) 226 19 (nI (1 - a))) 234 (1 - a) (nI 0)) 249 (1 - a) (nI 0)) 254 (1 - a) (nI 100)) = G3
    have f3 : fr_ (fun c k => decide ((c = 226 ∧ (k = 11 ∨ k = 12 ∨ k = 13 ∨ k = 15 ∨ k = 19)) ∨ ((c = 234 ∨ c = 249 ∨ c = 254) ∧ k = 1 - a))) G2 G3 := by
      rw [← hG3]
      exact (((((((fr_.rfl'.si (decide_eq_true (by omega))).si (decide_eq_true (by omega))).si (decide_eq_true (by omega))).si (decide_eq_true (by omega))).si (decide_eq_true (by omega))).si (decide_eq_true (by omega))).si (decide_eq_true (by omega))).si (decide_eq_true (by omega))
    have F3 : fr_ (fRx_ (1 - a)) G G3 := (((f1.mono (fun c k q => by
      have := of_decide_eq_false q
      exact decide_eq_false (by omega))).si (decide_eq_true (by omega))).trans (f2.mono (fun c k q => by
      have := of_decide_eq_false q
      exact fct_F (by omega)))).trans (f3.mono (fun c k q => by
      have := of_decide_eq_false q
      exact decide_eq_false (by omega)))
    have K3 : mTk_ G3 (tbb_ (ps_b P)) := fun j hj ho => by
      rw [f3.i 229 _ (decide_eq_false (by omega)), f3.i 230 _ (decide_eq_false (by omega)), f3.i 231 _ (decide_eq_false (by omega)), f3.l 232 _ (decide_eq_false (by omega))]
      exact k2 j hj ho
    refine HT 402 0 rs0_ G3 _ rfl (Nat.zero_le _) rfl rs0_ok ⟨Nat.zero_le _, rs0_ok.1, ?_, ?_, K3, fun _ => ?_, fun j z => (by cases z)⟩ ⟨⟨?_, ?_, Nat.zero_le _, fun i hi => absurd hi (Nat.not_lt_zero i)⟩, rfl, fun j hj => absurd hj (Nat.not_lt_zero j), ?_, fun k hk => absurd hk (Nat.not_lt_zero k), ?_⟩ ?_ F3
    · rw [← hG3]; simp only [mg_i_i, mg_i_l, mg_i_r, mg_i_b, mg_l_i, mg_l_l, mg_l_r, mg_l_b, mg_r_i, mg_r_l, mg_r_r, mg_r_b, false_and, and_false, true_and, and_true, reduceCtorEq, if_true, if_false, reduceIte, Nat.reduceEqDiff, Nat.reduceAdd, Nat.succ_ne_self, ne_eq, not_false_eq_true, not_true_eq_false]; rfl
    · rw [← hG3]; simp only [mg_i_i, mg_i_l, mg_i_r, mg_i_b, mg_l_i, mg_l_l, mg_l_r, mg_l_b, mg_r_i, mg_r_l, mg_r_r, mg_r_b, false_and, and_false, true_and, and_true, reduceCtorEq, if_true, if_false, reduceIte, Nat.reduceEqDiff, Nat.reduceAdd, Nat.succ_ne_self, ne_eq, not_false_eq_true, not_true_eq_false]
    · rw [← hG3]; simp only [mg_i_i, mg_i_l, mg_i_r, mg_i_b, mg_l_i, mg_l_l, mg_l_r, mg_l_b, mg_r_i, mg_r_l, mg_r_r, mg_r_b, false_and, and_false, true_and, and_true, reduceCtorEq, if_true, if_false, reduceIte, Nat.reduceEqDiff, Nat.reduceAdd, Nat.succ_ne_self, ne_eq, not_false_eq_true, not_true_eq_false]
    · rw [← hG3]; simp only [mg_i_i, mg_i_l, mg_i_r, mg_i_b, mg_l_i, mg_l_l, mg_l_r, mg_l_b, mg_r_i, mg_r_l, mg_r_r, mg_r_b, false_and, and_false, true_and, and_true, reduceCtorEq, if_true, if_false, reduceIte, Nat.reduceEqDiff, Nat.reduceAdd, Nat.succ_ne_self, ne_eq, not_false_eq_true, not_true_eq_false]
    · rw [← hG3]; simp only [mg_i_i, mg_i_l, mg_i_r, mg_i_b, mg_l_i, mg_l_l, mg_l_r, mg_l_b, mg_r_i, mg_r_l, mg_r_r, mg_r_b, false_and, and_false, true_and, and_true, reduceCtorEq, if_true, if_false, reduceIte, Nat.reduceEqDiff, Nat.reduceAdd, Nat.succ_ne_self, ne_eq, not_false_eq_true, not_true_eq_false]; rfl
    · rw [← hG3]; simp only [mg_i_i, mg_i_l, mg_i_r, mg_i_b, mg_l_i, mg_l_l, mg_l_r, mg_l_b, mg_r_i, mg_r_l, mg_r_r, mg_r_b, false_and, and_false, true_and, and_true, reduceCtorEq, if_true, if_false, reduceIte, Nat.reduceEqDiff, Nat.reduceAdd, Nat.succ_ne_self, ne_eq, not_false_eq_true, not_true_eq_false]; rfl
    · rw [← hG3]; simp only [mg_i_i, mg_i_l, mg_i_r, mg_i_b, mg_l_i, mg_l_l, mg_l_r, mg_l_b, mg_r_i, mg_r_l, mg_r_r, mg_r_b, false_and, and_false, true_and, and_true, reduceCtorEq, if_true, if_false, reduceIte, Nat.reduceEqDiff, Nat.reduceAdd, Nat.succ_ne_self, ne_eq, not_false_eq_true, not_true_eq_false]; rfl
    · rw [← hG3]; simp only [mg_i_i, mg_i_l, mg_i_r, mg_i_b, mg_l_i, mg_l_l, mg_l_r, mg_l_b, mg_r_i, mg_r_l, mg_r_r, mg_r_b, false_and, and_false, true_and, and_true, reduceCtorEq, if_true, if_false, reduceIte, Nat.reduceEqDiff, Nat.reduceAdd, Nat.succ_ne_self, ne_eq, not_false_eq_true, not_true_eq_false]; exact e22
