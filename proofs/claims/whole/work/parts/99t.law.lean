/-! the law -/
theorem lcmp0 (x : Int64) : lg_cmp x x = 0 := by
  rw [ki_0]
  exact (ki_cmp x x).2 rfl
theorem lw_lt {L i : Nat} (hL : L ≤ 3072) (hi : i ≤ 3078) : nI L - nI 6 < nI i ↔ L < i + 6 := by
  rw [fa_lt, nI_toInt (n := i) (by omega)]
  have : (nI L - nI 6).toInt = (L : Int) - 6 := by
    rw [Int32.toInt_sub, nI_toInt (n := L) (by omega), nI_toInt (n := 6) (by omega)]
    exact Int.bmod_eq_of_le (by omega) (by omega)
  omega
theorem e12 : ∀ c k : Nat, (33 ≤ c ∧ c ≤ 48) ∨ (98 ≤ c ∧ c ≤ 187) ∨ 226 ≤ c → (fun (c _k : Nat) => decide (c = 1) || decide (c = 2)) c k = false := fun c k q => by
  show (decide (c = 1) || decide (c = 2)) = false
  rw [decide_eq_false (p := c = 1) (by omega), decide_eq_false (p := c = 2) (by omega)]; rfl
theorem e50 : ∀ c k : Nat, (33 ≤ c ∧ c ≤ 48) ∨ (98 ≤ c ∧ c ≤ 187) ∨ 226 ≤ c → (fun (c _k : Nat) => decide (50 ≤ c) && decide (c < 54)) c k = false := fun c k q => by
  show (decide (50 ≤ c) && decide (c < 54)) = false
  by_cases z : 50 ≤ c
  · rw [decide_eq_false (p := c < 54) (by omega), Bool.and_false]
  · rw [decide_eq_false z]; rfl
theorem e189 : ∀ c k : Nat, (33 ≤ c ∧ c ≤ 48) ∨ (98 ≤ c ∧ c ≤ 187) ∨ 226 ≤ c → (fun (c _k : Nat) => decide (189 ≤ c) && decide (c < 226)) c k = false := fun c k q => by
  show (decide (189 ≤ c) && decide (c < 226)) = false
  by_cases z : 189 ≤ c
  · rw [decide_eq_false (p := c < 226) (by omega), Bool.and_false]
  · rw [decide_eq_false z]; rfl
theorem law_loop {l : Launch} {κ : mm_K} {L : Nat} (hκ : κ.2.2 11 = L) (hL : L ≤ 3072) : ∀ (n i : Nat) (G : mm_G) (P : ps_T) (a mc ms : Nat), jj_ G P a → L ≤ i + 6 * n + 5 → i ≤ 3078 → 64 * n ≤ mc → 704 * n ≤ ms → mV l κ true (3 + 10) mc ms m_law 18 [some (.retAddr 1), some (.ref 0), some (.ref 226), some (.int (nI i))] [] G (rI (fun v _ => v = nI 1)) := by
  intro n
  induction n with
  | zero =>
    intro i G P a mc ms hJ h1 h2 h3 h4
    exact p_law_18 (d := 3) _ ⟨fun _ => rfl, fun y => absurd (by rw [hκ]; exact (lw_lt hL h2).2 (by omega)) y⟩
  | succ n ih =>
    intro i G P a mc ms hJ h1 h2 h3 h4
    refine p_law_18 (d := 3) _ ⟨fun _ => rfl, fun y => ?_⟩
    have y2 : ¬ L < i + 6 := fun q => y (by rw [hκ]; exact (lw_lt hL h2).2 q)
    have w0 : vp_in (nI i) (κ.2.2 11) := by rw [hκ]; exact (ki_vp (by omega)).2 (by omega)
    have w1 : vp_in (nI i + nI 1) (κ.2.2 11) := by rw [nI_add, hκ]; exact (ki_vp (by omega)).2 (by omega)
    have w2 : vp_in (nI i + nI 2) (κ.2.2 11) := by rw [nI_add, hκ]; exact (ki_vp (by omega)).2 (by omega)
    have w3 : vp_in (nI i + nI 3) (κ.2.2 11) := by rw [nI_add, hκ]; exact (ki_vp (by omega)).2 (by omega)
    have w4 : vp_in (nI i + nI 4) (κ.2.2 11) := by rw [nI_add, hκ]; exact (ki_vp (by omega)).2 (by omega)
    have w5 : vp_in (nI i + nI 5) (κ.2.2 11) := by rw [nI_add, hκ]; exact (ki_vp (by omega)).2 (by omega)
    have IH : ∀ (G : mm_G) (P : ps_T) (a : Nat), jj_ G P a → mV l κ true (3 + 10) mc ms m_law 18 [some (.retAddr 1), some (.ref 0), some (.ref 226), some (.int (nI i + nI 6))] [] G (rI (fun v _ => v = nI 1)) := fun G P a hJ => by
      rw [nI_add]
      exact ih (i + 6) G P a mc ms hJ (by omega) (by omega) (by omega) (by omega)
    have IR : ∀ (G : mm_G) (P : ps_T) (a : Nat), jj_ G P a → mV l κ true (3 + 10) (mc - 64) (ms - 704) m_law 18 [some (.retAddr 1), some (.ref 0), some (.ref 226), some (.int (nI i + nI 6))] [] G (rI (fun v _ => v = nI 1)) := fun G P a hJ => by
      rw [nI_add]
      exact ih (i + 6) G P a (mc - 64) (ms - 704) hJ (by omega) (by omega) (by omega) (by omega)
    have hP := hJ.1
    have hC := hJ.2.1
    have hM := hJ.2.2.1
    have hK := hJ.2.2.2.1
    have hz := hJ.2.2.2.2.1
    have hg := hJ.2.2.2.2.2.1
    have hn := hJ.2.2.2.2.2.2
    refine ⟨w0, ?_, ?_, ?_, ?_, ?_, ?_, ?_, ?_, ?_, ?_, ?_, ?_, ?_, ?_, ?_, ?_, ?_, ?_, ?_, ?_, ?_, ?_, ?_, ?_, ?_, ?_, ?_, ?_, ?_, ?_, ?_, ?_, ?_, ?_, ?_, ?_, ?_, ?_, ?_, ?_⟩
    · -- feed
      exact fun _ => ⟨w1, w2, w3, w4, w5, c_feed (d := 11) _ _ _ _ _ hP hC (fun G1 hB f1 => ⟨w1, w2, w3, w4, w5, m_feed (d := 11) _ _ _ _ _ hP (hJ.alike (st_feed_ok _ _ _ _ _ hP) st_feed_a.1 st_feed_a.2.1 st_feed_a.2.2 f1 e12 hB).2.1 (fun G2 hM2 f2 => ⟨fun _ => IH G2 _ a ((hJ.alike (st_feed_ok _ _ _ _ _ hP) st_feed_a.1 st_feed_a.2.1 st_feed_a.2.2 f1 e12 hB).fd f2 hM2), fun y => absurd rfl y⟩)⟩)⟩
    · -- back
      exact fun _ => ⟨w1, c_back (d := 12) _ hP hC (fun G1 hB f1 => ⟨w1, m_back (d := 12) _ hP (hJ.alike (st_back_ok _ hP) st_back_a.1 st_back_a.2.1 st_back_a.2.2 f1 e12 hB).2.1 (fun G2 hM2 f2 => ⟨fun _ => IH G2 _ a ((hJ.alike (st_back_ok _ hP) st_back_a.1 st_back_a.2.1 st_back_a.2.2 f1 e12 hB).fd f2 hM2), fun y => absurd rfl y⟩)⟩)⟩
    · -- read
      exact fun _ => ⟨mc - 64, ms - 704, by omega, by omega, c_read (d := 5) hP hC hz hn hg (fun G1 hB z1 g1 f1 k1 => m_read (d := 3) hP (hJ.read hB z1 g1 f1 k1).2.1 (fun G2 a2 hM2 f2 => ⟨fun _ => IR G2 _ a2 ((hJ.read hB z1 g1 f1 k1).fmm f2 hM2), fun y => absurd rfl y⟩))⟩
    · -- place
      exact fun _ => c_place (d := 12) hC (m_place (d := 12) hM ⟨fun _ => IH G P a hJ, fun y => absurd rfl y⟩)
    · -- lines
      exact fun _ => ⟨w1, c_lines (d := 11) _ hP hC ⟨w1, m_lines (d := 10) _ hP hM ⟨fun _ => IH G P a hJ, fun y => absurd rfl y⟩⟩⟩
    · -- line
      exact fun _ => ⟨w1, w2, w3, c_line (d := 10) _ _ _ hP hC ⟨w1, w2, w3, m_line (d := 9) _ _ _ hP hM ⟨fun _ => IH G P a hJ, fun y => absurd rfl y⟩⟩⟩
    · -- run
      exact fun _ => ⟨w1, w2, w3, c_run (d := 9) _ _ _ hP hC (fun G1 f1 => ⟨w1, w2, w3, m_run (d := 6) _ _ _ hP (hJ.fc f1).2.1 (fun G2 f2 => ⟨fun _ => IH G2 P a ((hJ.fc f1).fg f2), fun y => absurd rfl y⟩)⟩)⟩
    · -- after
      exact fun _ => ⟨w1, w2, w3, w4, c_after (d := 9) _ _ _ _ hP hC (fun G1 f1 => ⟨w1, w2, w3, w4, m_after (d := 6) _ _ _ _ hP (hJ.fc f1).2.1 (fun G2 f2 => ⟨fun _ => IH G2 P a ((hJ.fc f1).fg f2), fun y => absurd rfl y⟩)⟩)⟩
    · -- out
      exact fun _ => ⟨w1, w2, w3, w4, c_out (d := 9) _ _ _ _ hP hC (fun G1 f1 => ⟨w1, w2, w3, w4, m_out (d := 6) _ _ _ _ hP (hJ.fc f1).2.1 (fun G2 f2 => ⟨fun _ => IH G2 P a ((hJ.fc f1).fg f2), fun y => absurd rfl y⟩)⟩)⟩
    · -- same
      exact fun _ => ⟨w1, w2, c_same (d := 7) _ _ hP hC hK.1 (fun G1 l1 f1 => ⟨w1, w2, m_same (d := 5) _ _ hP (hJ.fl f1 l1).2.1 (fun G2 f2 => ⟨fun _ => IH G2 P a ((hJ.fl f1 l1).fb f2), fun y => absurd rfl y⟩)⟩)⟩
    · -- differs
      exact fun _ => ⟨w1, w2, c_differs (d := 7) _ _ hP hC hK.1 (fun G1 l1 f1 => ⟨w1, w2, m_differs (d := 6) _ _ hP (hJ.fl f1 l1).2.1 (fun G2 f2 => ⟨fun _ => IH G2 P a ((hJ.fl f1 l1).fb f2), fun y => absurd rfl y⟩)⟩)⟩
    · -- bears
      exact fun _ => ⟨w1, w2, c_bears (d := 6) _ _ hP hC hK.1 (fun G1 l1 f1 => ⟨w1, w2, m_bears (d := 4) _ _ hP (hJ.fl f1 l1).2.1 (fun G2 f2 => ⟨fun _ => IH G2 P a ((hJ.fl f1 l1).fb f2), fun y => absurd rfl y⟩)⟩)⟩
    · -- breaks
      exact fun _ => ⟨w1, w2, c_breaks (d := 6) _ _ hP hC hK.1 (fun G1 l1 f1 => ⟨w1, w2, m_breaks (d := 4) _ _ hP (hJ.fl f1 l1).2.1 (fun G2 f2 => ⟨fun _ => IH G2 P a ((hJ.fl f1 l1).fb f2), fun y => absurd rfl y⟩)⟩)⟩
    · -- idle
      exact fun _ => ⟨w1, c_idle (d := 6) _ hP hC hK.1 (fun G1 l1 f1 => ⟨w1, m_idle (d := 4) _ hP (hJ.fl f1 l1).2.1 (fun G2 f2 => ⟨fun _ => IH G2 P a ((hJ.fl f1 l1).fb f2), fun y => absurd rfl y⟩)⟩)⟩
    · -- harm
      exact fun _ => ⟨w1, w2, c_harm (d := 7) _ _ hP hC hK.1 (fun G1 l1 f1 => ⟨w1, w2, m_harm (d := 6) _ _ hP (hJ.fl f1 l1).2.1 (fun G2 f2 => ⟨fun _ => IH G2 P a ((hJ.fl f1 l1).fb f2), fun y => absurd rfl y⟩)⟩)⟩
    · -- worst
      exact fun _ => ⟨w1, c_worst (d := 6) _ hP hC hK.1 (fun G1 l1 f1 => ⟨w1, m_worst (d := 6) _ hP (hJ.fl f1 l1).2.1 (fun G2 f2 => ⟨fun _ => IH G2 P a ((hJ.fl f1 l1).fb f2), fun y => absurd rfl y⟩)⟩)⟩
    · -- pair
      exact fun _ => ⟨w1, c_pair (d := 5) _ hP hC hK.1 (fun G1 l1 f1 => ⟨w1, m_pair (d := 4) _ hP (hJ.fl f1 l1).2.1 (fun G2 f2 => ⟨fun _ => IH G2 P a ((hJ.fl f1 l1).fb f2), fun y => absurd rfl y⟩)⟩)⟩
    · -- mends
      exact fun _ => ⟨w1, c_mends (d := 7) _ hP hC hK.1 (fun G1 l1 f1 => ⟨w1, m_mends (d := 6) _ hP (hJ.fl f1 l1).2.1 (fun G2 f2 => ⟨fun _ => IH G2 P a ((hJ.fl f1 l1).fb f2), fun y => absurd rfl y⟩)⟩)⟩
    · -- reached
      exact fun _ => ⟨w1, c_reached (d := 7) _ hP hC hK.1 (fun G1 l1 f1 => ⟨w1, m_reached (d := 7) _ hP (hJ.fl f1 l1).2.1 (fun G2 f2 => ⟨fun _ => IH G2 P a ((hJ.fl f1 l1).fg f2), fun y => absurd rfl y⟩)⟩)⟩
    · -- step
      exact fun _ => ⟨w1, w2, w3, w4, c_step (d := 9) _ _ _ _ hP hC (fun G1 f1 => ⟨w1, w2, w3, w4, m_step (d := 6) _ _ _ _ hP (hJ.fc f1).2.1 (fun G2 f2 => ⟨fun _ => IH G2 P a ((hJ.fc f1).fg f2), fun y => absurd rfl y⟩)⟩)⟩
    · -- life
      exact fun _ => ⟨w1, w2, w3, c_life (d := 6) _ _ _ hP hC hK.1 (fun G1 l1 f1 => ⟨w1, w2, w3, m_life (d := 5) _ _ _ hP (hJ.fl f1 l1).2.1 (fun G2 f2 => ⟨fun _ => IH G2 P a ((hJ.fl f1 l1).fb f2), fun y => absurd rfl y⟩)⟩)⟩
    · -- soonest
      exact fun _ => ⟨w1, c_soonest (d := 5) _ hP hC hK.1 (fun x G1 l1 f1 s1 => ⟨w1, m_soonest (d := 4) _ hP (hJ.fl f1 l1).2.1 (fun y G2 f2 s2 => ⟨fun _ => IH G2 P a ((hJ.fl f1 l1).fB f2), fun ne => absurd (sgs_one s1 s2) ne⟩)⟩)⟩
    · -- ways
      exact fun _ => ⟨w1, w2, c_ways (d := 5) _ _ hP hC hK.1 hK.2.1 (fun G1 l1 o1 f1 => ⟨w1, w2, m_ways (d := 4) _ _ hP (hJ.fO f1 l1 o1).2.1 (fun G2 f2 => ⟨fun _ => IH G2 P a ((hJ.fO f1 l1 o1).fB f2), fun y => absurd (lcmp0 _) y⟩)⟩)⟩
    · -- mean
      exact fun _ => ⟨w1, w2, fun z0 => c_mean (d := 5) _ _ hP hC hK.1 hK.2.1 (fun G1 l1 o1 f1 => ⟨w1, w2, fun _ => m_mean (d := 4) _ _ hP (hJ.fO f1 l1 o1).2.1 (fun G2 f2 => ⟨fun _ => IH G2 P a ((hJ.fO f1 l1 o1).fB f2), fun y => absurd (lcmp0 _) y⟩), fun z => absurd z0 z⟩), fun z0 => c_mean (d := 5) _ _ hP hC hK.1 hK.2.1 (fun G1 l1 o1 f1 => ⟨w1, w2, fun z => absurd z z0, fun _ => m_mean (d := 4) _ _ hP (hJ.fO f1 l1 o1).2.1 (fun G2 f2 => ⟨fun _ => IH G2 P a ((hJ.fO f1 l1 o1).fB f2), fun y => absurd (lcmp0 _) y⟩)⟩)⟩
    · -- core
      exact fun _ => ⟨w1, w2, c_core (d := 5) _ _ hP hC hK.1 hK.2.1 (fun x G1 l1 o1 f1 s1 => ⟨w1, w2, m_core (d := 4) _ _ hP (hJ.fO f1 l1 o1).2.1 (fun y G2 f2 s2 => ⟨fun _ => IH G2 P a ((hJ.fO f1 l1 o1).fB f2), fun ne => absurd (sgc_one s1 s2) ne⟩)⟩)⟩
    · -- does
      exact fun _ => ⟨w1, w2, c_does (d := 8) _ _ hP hC (fun G1 f1 => ⟨w1, w2, m_does (d := 6) _ _ hP (hJ.fc f1).2.1 (fun G2 f2 => ⟨fun _ => IH G2 P a ((hJ.fc f1).fg f2), fun y => absurd rfl y⟩)⟩)⟩
    · -- sought
      exact fun _ => ⟨w1, w2, w3, c_sought (d := 5) _ _ _ hP hC hK.2.2.1 (fun x G1 f1 k1 s1 => ⟨w1, w2, w3, m_sought (d := 4) _ _ _ hP (hJ.fS f1 k1).2.1 (fun y G2 f2 s2 => ⟨fun _ => IH G2 P a ((hJ.fS f1 k1).fh f2), fun ne => absurd (sgt_one s1 s2) ne⟩)⟩)⟩
    · -- soughtAt
      exact fun _ => ⟨w1, w2, w3, w4, c_soughtAt (d := 5) _ _ _ _ hP hC hK.2.2.1 (fun x G1 f1 k1 s1 => ⟨w1, w2, w3, w4, m_soughtAt (d := 4) _ _ _ _ hP (hJ.fS f1 k1).2.1 (fun y G2 f2 s2 => ⟨fun _ => IH G2 P a ((hJ.fS f1 k1).fh f2), fun ne => absurd (sga_one s1 s2) ne⟩)⟩)⟩
    · -- put
      exact fun _ => ⟨w1, w2, w3, c_put_z (d := 10) _ _ _ hP hC (fun e => ⟨w1, w2, w3, m_put (d := 9) _ _ _ hP hM (fun _ => ⟨fun _ => IH G P a hJ, fun y => absurd rfl y⟩) (fun G2 Q e2 _ _ => by rw [e] at e2; cases e2)⟩) (fun G1 Q e hB hZ f1 => ⟨w1, w2, w3, m_put (d := 9) _ _ _ hP (hJ.new (st_put_ok hP e) f1 hB hZ).2.1 (fun e2 => by rw [e] at e2; cases e2) (fun G2 Q2 e2 hM2 f2 => ⟨fun _ => IH G2 Q a ((hJ.new (st_put_ok hP e) f1 hB hZ).fM f2 (by rw [Option.some.inj (e.symm.trans e2)]; exact hM2)), fun y => absurd rfl y⟩)⟩)⟩
    · -- take
      exact fun _ => ⟨w1, w2, c_take_z (d := 10) _ _ hP hC (fun e => ⟨w1, w2, m_take (d := 9) _ _ hP hM (fun _ => ⟨fun _ => IH G P a hJ, fun y => absurd rfl y⟩) (fun G2 Q e2 _ _ => by rw [e] at e2; cases e2)⟩) (fun G1 Q e hB hZ f1 => ⟨w1, w2, m_take (d := 9) _ _ hP (hJ.new (st_take_ok hP e) f1 hB hZ).2.1 (fun e2 => by rw [e] at e2; cases e2) (fun G2 Q2 e2 hM2 f2 => ⟨fun _ => IH G2 Q a ((hJ.new (st_take_ok hP e) f1 hB hZ).fM f2 (by rw [Option.some.inj (e.symm.trans e2)]; exact hM2)), fun y => absurd rfl y⟩)⟩)⟩
    · -- see
      exact fun _ => ⟨w1, w2, w3, c_see (d := 9) _ _ _ hP hC (fun G1 hB f1 => ⟨w1, w2, w3, m_see (d := 6) _ _ _ hP (hJ.alike (ns_see_ok _ _ _ hP) ns_see_a.1 ns_see_a.2.1 ns_see_a.2.2 f1 e50 hB).2.1 (fun G2 hM2 f2 => ⟨fun _ => IH G2 _ a ((hJ.alike (ns_see_ok _ _ _ hP) ns_see_a.1 ns_see_a.2.1 ns_see_a.2.2 f1 e50 hB).fM f2 hM2), fun y => absurd rfl y⟩)⟩)⟩
    · -- forget
      exact fun _ => c_forget (d := 12) hP hC (fun G1 hB f1 => m_forget (d := 12) (hJ.alike (wn_ok (s := ((ps_n P).1, [])) hP ⟨Nat.zero_le _, fun q => absurd rfl q, fun k hk => absurd hk (Nat.not_lt_zero k)⟩) rfl rfl rfl f1 e50 hB).2.1 (fun G2 hM2 f2 => ⟨fun _ => IH G2 _ a ((hJ.alike (wn_ok (s := ((ps_n P).1, [])) hP ⟨Nat.zero_le _, fun q => absurd rfl q, fun k hk => absurd hk (Nat.not_lt_zero k)⟩) rfl rfl rfl f1 e50 hB).fM f2 hM2), fun y => absurd rfl y⟩))
    · -- suspects
      exact fun _ => ⟨w1, w2, w3, c_suspects (d := 7) _ _ _ hP hC hK.2.2.2 (fun G1 u1 f1 => ⟨w1, w2, w3, m_suspects (d := 5) _ _ _ hP (hJ.fU f1 u1).2.1 (fun G2 f2 => ⟨fun _ => IH G2 P a ((hJ.fU f1 u1).fV f2), fun y => absurd rfl y⟩)⟩)⟩
    · -- suspect
      exact fun _ => ⟨w1, w2, w3, w4, c_suspect (d := 7) _ _ _ _ hP hC hK.2.2.2 (fun G1 u1 f1 => ⟨w1, w2, w3, w4, m_suspect (d := 5) _ _ _ _ hP (hJ.fU f1 u1).2.1 (fun G2 f2 => ⟨fun _ => IH G2 P a ((hJ.fU f1 u1).fV f2), fun y => absurd rfl y⟩)⟩)⟩
    · -- next
      exact fun _ => ⟨w1, w2, w3, c_next (d := 6) _ _ _ hP hC hK.2.2.2 (fun G1 x u1 f1 s1 => ⟨w1, w2, w3, m_next (d := 5) _ _ _ hP (hJ.fU f1 u1).2.1 (fun G2 y f2 s2 => ⟨fun _ => IH G2 P a ((hJ.fU f1 u1).fwz f2), fun ne => absurd (sgn_one s1 s2) ne⟩)⟩)⟩
    · -- most
      exact fun _ => ⟨w1, w2, w3, c_most (d := 0) _ _ _ hP hC hK.2.2.2 (fun G1 x u1 f1 s1 => ⟨w1, w2, w3, m_most (d := 5) _ _ _ hP (hJ.fU f1 u1).2.1 (fun G2 y f2 s2 => ⟨fun _ => IH G2 P a ((hJ.fU f1 u1).fwz f2), fun ne => absurd (sgm_one s1 s2) ne⟩)⟩)⟩
    · -- hold
      exact fun _ => ⟨w1, c_hold (d := 10) _ hP hC (fun G1 hB f1 => ⟨w1, m_hold (d := 10) _ hP (hJ.alike (st_hold_ok _ hP) st_hold_a.1 st_hold_a.2.1 st_hold_a.2.2 f1 e189 hB).2.1 (fun G2 hM2 f2 => ⟨fun _ => IH G2 _ a ((hJ.alike (st_hold_ok _ hP) st_hold_a.1 st_hold_a.2.1 st_hold_a.2.2 f1 e189 hB).fM f2 hM2), fun y => absurd rfl y⟩)⟩)⟩
    · -- restore
      exact fun _ => ⟨w1, c_restore_z (d := 10) _ hP hC (fun e => ⟨w1, m_restore (d := 10) _ hP hM (fun _ => ⟨fun _ => IH G P a hJ, fun y => absurd rfl y⟩) (fun G2 Q e2 _ _ => by rw [e] at e2; cases e2)⟩) (fun G1 Q e hB hZ f1 => ⟨w1, m_restore (d := 10) _ hP (hJ.new (st_rest_ok hP e) f1 hB hZ).2.1 (fun e2 => by rw [e] at e2; cases e2) (fun G2 Q2 e2 hM2 f2 => ⟨fun _ => IH G2 Q a ((hJ.new (st_rest_ok hP e) f1 hB hZ).fM f2 (by rw [Option.some.inj (e.symm.trans e2)]; exact hM2)), fun y => absurd rfl y⟩)⟩)⟩
    · -- count
      exact fun _ => ⟨w1, c_count (d := 10) _ hP hC ⟨w1, m_count (d := 10) _ hP hM ⟨fun _ => IH G P a hJ, fun y => absurd rfl y⟩⟩⟩
    · exact fun _ => IH G P a hJ
