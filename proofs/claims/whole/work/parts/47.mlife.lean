/-! lives: the reference -/
theorem bit_T {lost i : Nat} (h : nI (if lost.testBit i then 1 else 0) = nI 1) : lost.testBit i = true := by
  cases c : lost.testBit i with
  | true => rfl
  | false => rw [c] at h; exact absurd h (by decide)
theorem bit_F {lost i : Nat} (h : ¬ nI (if lost.testBit i then 1 else 0) = nI 1) : lost.testBit i = false := by
  cases c : lost.testBit i with
  | false => rfl
  | true => rw [c] at h; exact absurd rfl h
theorem t_nl3 {l : Launch} {κ : mm_K} {d : Nat} {G : mm_G} {K : Int32 → mm_G → Prop} {P : ps_T} {m r law lost k : Nat} (seed : Int32) (hP : ps_ok P) (hM : mB_ G P m) (hr : r < (ps_p P).length) (z3 : law = 3) (hl : lost < 2 ^ (px_at (ps_p P) r).length) (hpc : pc_ lost < (px_at (ps_p P) r).length) (hlt : k < (px_at (ps_p P) r).length - pc_ lost) (v1 : kv_ lost (px_at (ps_p P) r).length k < (px_at (ps_p P) r).length) (v2 : th_ lost (kv_ lost (px_at (ps_p P) r).length k) = true) (v3 : fb_ct (th_ lost) (kv_ lost (px_at (ps_p P) r).length k) = k) (h : K (nI (kv_ lost (px_at (ps_p P) r).length k)) G) : mV l κ true (d + 2) 0 0 m_X13_nextLost 40 [some (.ref 226), some (.int (nI r)), some (.int (nI lost)), some (.int (nI law)), some (.int seed), some (.int (nI ((px_at (ps_p P) r).length - pc_ lost))), some (.int (nI k)), some (.int (-1)), some (.int (nI 0))] [] G (rI K) := by
  have hp := hP.1.1
  have hm := hM.1
  have hlen := hP.1.2.2 r
  have h16 := px_len_lt hlen
  suffices H : ∀ n i, i + n = kv_ lost (px_at (ps_p P) r).length k → mV l κ true (d + 2) 0 0 m_X13_nextLost 40 [some (.ref 226), some (.int (nI r)), some (.int (nI lost)), some (.int (nI law)), some (.int seed), some (.int (nI ((px_at (ps_p P) r).length - pc_ lost))), some (.int (nI (k - fb_ct (th_ lost) i))), some (.int (-1)), some (.int (nI i))] [] G (rI K) by
    have := H _ 0 (Nat.zero_add _)
    rw [show fb_ct (th_ lost) 0 = 0 from rfl, Nat.sub_zero] at this
    exact this
  intro n
  induction n with
  | zero =>
    intro i hi
    obtain rfl : i = kv_ lost (px_at (ps_p P) r).length k := by omega
    refine p_X13_nextLost_40 _ _ _ _ _ _ _ _ (t_lines hP hM hr ⟨fun z => absurd z (nI_ge (by omega) (by omega)), fun _ => ?_⟩)
    rw [ki_sbit (by omega) (by omega), v3, Nat.sub_self]
    simp only [nI_eq (show law < 2 ^ 31 by omega) (show 3 < 2 ^ 31 by omega)]
    refine ⟨fun z => ⟨fun z2 => absurd z3 z2, fun _ => ⟨fun z2 => absurd rfl z2, fun _ => h⟩⟩, fun z => ?_⟩
    have := bit_T z
    unfold th_ at v2
    rw [this] at v2
    cases v2
  | succ n ih =>
    intro i hi
    have hI := ih (i + 1) (by omega)
    have hci : fb_ct (th_ lost) i ≤ k := by rw [← v3]; exact fb_ct_mono _ (by omega)
    refine p_X13_nextLost_40 _ _ _ _ _ _ _ _ (t_lines hP hM hr ⟨fun z => absurd z (nI_ge (by omega) (by omega)), fun _ => ?_⟩)
    rw [ki_sbit (by omega) (by omega), nI_add, ki_0]
    simp only [nI_eq (show law < 2 ^ 31 by omega) (show 3 < 2 ^ 31 by omega), nI_eq (show k - fb_ct (th_ lost) i < 2 ^ 31 by omega) (show 0 < 2 ^ 31 by omega)]
    refine ⟨fun z => ⟨fun z2 => absurd z3 z2, fun _ => ⟨fun z2 => ?_, fun z2 => ?_⟩⟩, fun z => ?_⟩
    · have hth : th_ lost i = true := by unfold th_; rw [bit_F z]; rfl
      rw [ct_T hth] at hI
      have e4 : nI (k - fb_ct (th_ lost) i) + (-1) = nI (k - (fb_ct (th_ lost) i + 1)) := by
        have : nI (k - fb_ct (th_ lost) i) = nI (k - (fb_ct (th_ lost) i + 1)) + nI 1 := by rw [nI_add]; congr 1; omega
        rw [this, Int32.add_assoc, show nI 1 + (-1) = 0 by decide, Int32.add_zero]
      rw [e4]
      exact hI
    · exfalso
      have hth : th_ lost i = true := by unfold th_; rw [bit_F z]; rfl
      have := fb_ct_kth_one hth v2 (by omega : fb_ct (th_ lost) i = fb_ct (th_ lost) (kv_ lost (px_at (ps_p P) r).length k))
      omega
    · have hth : th_ lost i = false := by unfold th_; rw [bit_T z]; rfl
      rw [ct_F hth] at hI
      exact hI
/-- where the reference's search stands -/
def nb_ (P : ps_T) (r law lost i : Nat) (b : Int32) : Prop := (fb_ct (th_ lost) i = 0 → b = -1) ∧ (0 < fb_ct (th_ lost) i → ∃ j, b = nI j ∧ j < i ∧ th_ lost j = true ∧ (law = 0 → fb_ct (th_ lost) j + 1 = fb_ct (th_ lost) i) ∧ (law = 1 → fb_ct (th_ lost) j = 0) ∧ (law = 2 → j = (lg_ (px_at (ps_p P) r) lost i).1))
theorem t_nextLost {l : Launch} {κ : mm_K} {d : Nat} {G : mm_G} {K : Int32 → mm_G → Prop} {P : ps_T} {m r law lost : Nat} (seed : Int32) (hP : ps_ok P) (hM : mB_ G P m) (hr : r < (ps_p P).length) (hlaw : law < 4) (hl : lost < 2 ^ (px_at (ps_p P) r).length) (hpc : pc_ lost < (px_at (ps_p P) r).length) (h : K (nI (vi_ P r law seed lost)) G) : mC l κ true (d + 2) 0 0 m_X13_nextLost [.ref 226, .int (nI r), .int (nI lost), .int (nI law), .int seed] G (rI K) := by
  have hp := hP.1.1
  have hm := hM.1
  have hlen := hP.1.2.2 r
  have h16 := px_len_lt hlen
  obtain ⟨hct, -⟩ := th_ct hl (by omega)
  have hA := hM.2.2.1.2 r hr
  refine e_X13_nextLost _ _ _ _ (t_lines hP hM hr (t_bits (by omega) ?_))
  rw [nI_eq (by omega) (by omega), ki_sub (by omega)]
  refine ⟨fun z3 => ?_, fun z3 => t_bits (by omega) (e_X13_lot _ _ _ (e_X13_mixed _ _ (e_X13_mixed _ _ ⟨?_, ?_⟩)))⟩
  · suffices H : ∀ n i b, i + n = (px_at (ps_p P) r).length → nb_ P r law lost i b → mV l κ true (d + 2) 0 0 m_X13_nextLost 40 [some (.ref 226), some (.int (nI r)), some (.int (nI lost)), some (.int (nI law)), some (.int seed), some (.int (nI ((px_at (ps_p P) r).length - pc_ lost))), some (.int (nI 0)), some (.int b), some (.int (nI i))] [] G (rI K) from H _ 0 (-1) (Nat.zero_add _) ⟨fun _ => rfl, fun q => absurd q (Nat.lt_irrefl 0)⟩
    intro n
    induction n with
    | zero =>
      intro i b hi hb
      refine p_X13_nextLost_40 _ _ _ _ _ _ _ _ (t_lines hP hM hr ⟨fun _ => ?_, fun z => absurd (nI_le (by omega) (by omega)) z⟩)
      obtain rfl : i = (px_at (ps_p P) r).length := by omega
      obtain ⟨j, j1, j2, j3, j4, j5, j6⟩ := hb.2 (by omega)
      have : vi_ P r law seed lost = j := by
        unfold vi_
        split
        · rename_i c
          have := j4 c
          exact kv_of j2 j3 (by omega)
        · split
          · rename_i c
            exact kv_of j2 j3 (j5 c)
          · split
            · rename_i c
              exact (j6 c).symm
            · omega
      rw [j1, ← this]
      exact h
    | succ n ih =>
      intro i b hi hb
      have hci : fb_ct (th_ lost) i ≤ i := fb_ct_le _ _
      refine p_X13_nextLost_40 _ _ _ _ _ _ _ _ (t_lines hP hM hr ⟨fun z => absurd z (nI_ge (by omega) (by omega)), fun _ => ?_⟩)
      rw [ki_sbit (by omega) (by omega), nI_add, ki_0]
      simp only [nI_eq (show law < 2 ^ 31 by omega) (show 3 < 2 ^ 31 by omega), nI_eq (show law < 2 ^ 31 by omega) (show 2 < 2 ^ 31 by omega), nI_eq (show law < 2 ^ 31 by omega) (show 0 < 2 ^ 31 by omega)]
      obtain ⟨k1, k2, k3⟩ := tk_ok hP hr (i := i) (by omega)
      obtain ⟨g1, g2⟩ := lg_is (lost := lost) hP hr i (by omega)
      refine ⟨fun z => ?_, fun z => ?_⟩
      · have hth : th_ lost i = true := by unfold th_; rw [bit_F z]; rfl
        have hc1 := ct_T (p := th_ lost) (n := i) hth
        -- this line is taken
        have htake : ((law = 1 ∨ law = 2) → fb_ct (th_ lost) i = 0 ∨ (law = 2 ∧ (lg_ (px_at (ps_p P) r) lost i).2 < tkN (px_at (ps_p P) r) i)) → nb_ P r law lost (i + 1) (nI i) := by
          intro hq
          refine ⟨fun q => by omega, fun _ => ⟨i, rfl, by omega, hth, fun _ => by omega, fun q => ?_, fun q => ?_⟩⟩
          · rcases hq (Or.inl q) with y | y
            · exact y
            · omega
          · have hlt : (lg_ (px_at (ps_p P) r) lost i).2 < tkN (px_at (ps_p P) r) i := by
              rcases hq (Or.inr q) with y | y
              · rw [g1 y]; exact k1
              · exact y.2
            rw [show lg_ (px_at (ps_p P) r) lost (i + 1) = (i, tkN (px_at (ps_p P) r) i) from if_pos ⟨hth, hlt⟩]
        -- this line is passed
        have hpass : law = 1 ∨ (law = 2 ∧ ¬ (lg_ (px_at (ps_p P) r) lost i).2 < tkN (px_at (ps_p P) r) i) → 0 < fb_ct (th_ lost) i → nb_ P r law lost (i + 1) b := by
          intro hq hpos
          obtain ⟨j, j1, j2, j3, j4, j5, j6⟩ := hb.2 hpos
          refine ⟨fun q => by omega, fun _ => ⟨j, j1, by omega, j3, fun q => by omega, j5, fun q => ?_⟩⟩
          rw [show lg_ (px_at (ps_p P) r) lost (i + 1) = lg_ (px_at (ps_p P) r) lost i from if_neg (fun y => by rcases hq with w | w <;> omega)]
          exact j6 q
        have hb0 : b = -1 ↔ fb_ct (th_ lost) i = 0 := by
          constructor
          · intro q
            rcases Nat.eq_zero_or_pos (fb_ct (th_ lost) i) with y | y
            · exact y
            · obtain ⟨j, j1, j2, -⟩ := hb.2 y
              rw [j1, ki_m1 (by omega)] at q
              exact q.elim
          · exact hb.1
        refine ⟨fun z2 => ⟨fun zb => ?_, fun zb => ⟨fun z0 => ?_, fun z0 => ⟨fun z2' => ?_, fun z2' => ?_⟩⟩⟩, fun z2 => absurd z2 z3⟩
        · exact ih (i + 1) _ (by omega) (htake (fun _ => Or.inl (hb0.1 zb)))
        · exact ih (i + 1) _ (by omega) (htake (fun q => by omega))
        · exact ih (i + 1) _ (by omega) (hpass (Or.inl (by omega)) (Nat.pos_of_ne_zero (fun y => zb (hb0.2 y))))
        · have hpos : 0 < fb_ct (th_ lost) i := Nat.pos_of_ne_zero (fun y => zb (hb0.2 y))
          obtain ⟨j, j1, j2, j3, j4, j5, j6⟩ := hb.2 hpos
          obtain ⟨w1, w2, w3⟩ := g2 hpos
          obtain ⟨q1, q2, q3⟩ := tk_ok hP hr (i := j) (by omega)
          refine t_lineAt hM.2.1 ⟨(ki_vp (by omega)).2 (by omega), ?_⟩
          rw [j1]
          refine t_lineAt hM.2.1 ⟨(ki_vp (by omega)).2 (by omega), ?_⟩
          have e1 : mg_i G 245 (64 * m + 16 * r + i) = nI (tkN (px_at (ps_p P) r) i) := by rw [← k3, ← hA.2 i (by omega)]; rfl
          have e2 : mg_i G 245 (64 * m + 16 * r + j) = nI (tkN (px_at (ps_p P) r) j) := by rw [← q3, ← hA.2 j (by omega)]; rfl
          rw [nI_clamp (by omega), nI_clamp (by omega), e1, e2, nI_leI (by omega) (by omega)]
          have e3 : (lg_ (px_at (ps_p P) r) lost i).2 = tkN (px_at (ps_p P) r) j := by rw [w3, ← j6 z2']
          refine ⟨fun y => ?_, fun y => ?_⟩
          · rw [← j1]
            exact ih (i + 1) _ (by omega) (hpass (Or.inr ⟨z2', by omega⟩) hpos)
          · exact ih (i + 1) _ (by omega) (htake (fun _ => Or.inr ⟨z2', by omega⟩))
      · have hth : th_ lost i = false := by unfold th_; rw [bit_T z]; rfl
        have hc1 := ct_F (p := th_ lost) (n := i) hth
        refine ih (i + 1) _ (by omega) ⟨fun q => hb.1 (by omega), fun q => ?_⟩
        obtain ⟨j, j1, j2, j3, j4, j5, j6⟩ := hb.2 (by omega)
        refine ⟨j, j1, by omega, j3, fun y => by have := j4 y; omega, j5, fun y => ?_⟩
        rw [show lg_ (px_at (ps_p P) r) lost (i + 1) = lg_ (px_at (ps_p P) r) lost i from if_neg (fun y => by rw [hth] at y; exact absurd y.1 (by decide))]
        exact j6 y
  · rw [ki_0, nI_eq (by omega) (by omega)]; omega
  · have e := lt_is seed (pc_ lost) (n := (px_at (ps_p P) r).length - pc_ lost) (by omega) (by omega)
    unfold hf_ mx_ at e
    rw [e]
    have hv : vi_ P r law seed lost = kv_ lost (px_at (ps_p P) r).length (lt_ seed (pc_ lost) ((px_at (ps_p P) r).length - pc_ lost)) := by
      unfold vi_
      rw [if_neg (by omega), if_neg (by omega), if_neg (by omega)]
    rw [hv] at h
    have hlt : lt_ seed (pc_ lost) ((px_at (ps_p P) r).length - pc_ lost) < (px_at (ps_p P) r).length - pc_ lost := Nat.mod_lt _ (by omega)
    obtain ⟨v1, v2, v3⟩ := kv_is (lost := lost) (len := (px_at (ps_p P) r).length) (k := lt_ seed (pc_ lost) ((px_at (ps_p P) r).length - pc_ lost)) (by omega)
    exact t_nl3 seed hP hM hr z3 hl hpc hlt v1 v2 v3 h
def an_life (P : ps_T) (a b seed : Int32) : Int32 := match ixn_ P 4 a b with
  | none => -1
  | some (r, law) => nI (lf_ P r law seed (px_at (ps_p P) r).length 0 0)
theorem c_life {l : Launch} {κ : mm_K} {d : Nat} {G : mm_G} {K : Int32 → mm_G → Prop} {P : ps_T} (a b seed : Int32) (hP : ps_ok P) (hC : cB_ G P) (hL : cL_ G P) (h : ∀ G', cL_ G' P → fr_ fl_ G G' → K (an_life P a b seed) G') : mC l κ true (d + 6) 0 0 m_X12_life [.ref 0, .int a, .int b, .int seed] G (rI K) := by
  unfold an_life ixn_ at h
  refine e_X12_life a b seed (s_hasRow a hC.1.1 hP.1.1 (fun e => ⟨fun _ => ?_, fun q => absurd (by decide) q⟩) (fun r e hr ea => ⟨fun q => absurd q (by decide), fun _ => ?_⟩))
  · rw [e] at h; exact h G hL fr_.rfl'
  · rw [e] at h
    subst ea
    cases e4 : ix_ 4 b with
    | none =>
      rw [e4] at h
      have h := h G hL fr_.rfl'
      exact ⟨fun _ => h, fun z => ⟨fun z2 => (ix_3 e4).elim (fun y => absurd y z) (fun y => absurd z2 y), fun _ => h⟩⟩
    | some n =>
      rw [e4] at h
      obtain ⟨hn, en⟩ := ix_some (by decide) e4
      subst en
      exact ⟨fun z => absurd z (nI_pos (by omega)), fun _ => ⟨fun _ => s_lifeBy seed hP hC hL hr hn (fun G2 l2 f2 => h G2 l2 f2), fun z => absurd (nI_le (by omega) (by omega)) z⟩⟩
theorem m_life {l : Launch} {κ : mm_K} {d : Nat} {G : mm_G} {K : Int32 → mm_G → Prop} {P : ps_T} {m : Nat} (a b seed : Int32) (hP : ps_ok P) (hM : mB_ G P m) (h : ∀ G', fr_ fb_ G G' → K (an_life P a b seed) G') : mC l κ true (d + 7) 0 0 m_X13_life [.ref 226, .int a, .int b, .int seed] G (rI K) := by
  unfold an_life ixn_ at h
  refine e_X13_life a b seed (t_isRow a hP hM (fun e => ⟨fun _ => ?_, fun q => absurd (by decide) q⟩) (fun r e hr ea => ⟨fun q => absurd q (by decide), fun _ => ?_⟩))
  · rw [e] at h; exact h G fr_.rfl'
  · rw [e] at h
    subst ea
    refine t_in (n := 4) b (by decide) (by decide) (fun e4 => ⟨fun q => absurd (by decide) q, fun _ => ?_⟩) (fun law e4 hn en => ⟨fun _ => ?_, fun q => absurd q (by decide)⟩)
    · rw [e4] at h; exact h G fr_.rfl'
    · rw [e4] at h
      subst en
      have hlen := hP.1.2.2 r
      have h16 := px_len_lt hlen
      refine t_fillBase hP hM hr (fun G1 b1 _ f1 => ?_)
      suffices H : ∀ n g lost G2, g + n = (px_at (ps_p P) r).length → lost < 2 ^ (px_at (ps_p P) r).length → pc_ lost = g → fr_ fg_ G1 G2 → (∀ G', fr_ fb_ G G' → K (nI (lf_ P r law seed n lost g)) G') → mV l κ true (d + 7) 0 0 m_X13_life 30 [some (.ref 226), some (.int (nI r)), some (.int (nI law)), some (.int seed), some (.int (nI lost)), some (.int (nI (g + 1)))] [] G2 (rI K) from H _ 0 0 G1 (Nat.zero_add _) (Nat.two_pow_pos _) pc_0 fr_.rfl' h
      intro n
      induction n with
      | zero =>
        intro g lost G2 hg hlo hpc hf h
        refine p_X13_life_30 _ _ _ _ _ (t_lines hP ((hM.fb f1).fg hf) hr ⟨fun _ => h G2 (f1.trans hf.gb), fun z => absurd (nI_lt (by omega) (by omega)) z⟩)
      | succ n ih =>
        intro g lost G2 hg hlo hpc hf h
        have hM2 := (hM.fb f1).fg hf
        obtain ⟨v1, v2⟩ := vi_ok (law := law) (seed := seed) hP hr hlo (by omega)
        have hlo2 : lost ||| 2 ^ vi_ P r law seed lost < 2 ^ (px_at (ps_p P) r).length := Nat.or_lt_two_pow hlo (Nat.pow_lt_pow_right (by decide) v1)
        refine p_X13_life_30 _ _ _ _ _ (t_lines hP hM2 hr ⟨fun z => absurd z (nI_nlt (by omega) (by omega)), fun _ => t_nextLost seed hP hM2 hr hn hlo (by omega) ?_⟩)
        rw [ki_shl _ (by omega), fa_or]
        refine t_isSame hP hM2 hr (b1.fg hf) (by omega) (fun G3 g3 => ⟨fun z => ?_, fun z => ?_⟩)
        · rw [nI_add]
          refine ih (g + 1) _ G3 (by omega) hlo2 (by rw [pc_or v2 (by omega)]; omega) (hf.trans g3) (fun G' q2 => ?_)
          have h := h G' q2
          have hs : sm_ P r (lost ||| 2 ^ vi_ P r law seed lost) = true := by
            by_cases c : sm_ P r (lost ||| 2 ^ vi_ P r law seed lost) = true
            · exact c
            · rw [if_neg c] at z; exact absurd rfl z
          rw [show lf_ P r law seed (n + 1) lost g = lf_ P r law seed n (lost ||| 2 ^ vi_ P r law seed lost) (g + 1) from if_pos hs] at h
          exact h
        · have h := h G3 (f1.trans (hf.trans g3).gb)
          have hs : ¬ sm_ P r (lost ||| 2 ^ vi_ P r law seed lost) = true := fun c => by rw [if_pos c] at z; exact absurd z (by decide)
          rw [show lf_ P r law seed (n + 1) lost g = g + 1 from if_neg hs] at h
          exact h
