/-! lives -/
def th_ (lost i : Nat) : Bool := !lost.testBit i
/-- the k-th line that is there -/
def kv_ (lost len k : Nat) : Nat := fa_first (fun i => th_ lost i && decide (fb_ct (th_ lost) i = k)) len
theorem kv_of {lost len k b : Nat} (h1 : b < len) (h2 : th_ lost b = true) (h3 : fb_ct (th_ lost) b = k) : kv_ lost len k = b := by
  refine ff_at (fun j hj => ?_) (by rw [h2, decide_eq_true h3]; rfl) h1
  cases c : th_ lost j with
  | false => rfl
  | true =>
    rw [decide_eq_false]
    · rfl
    · intro q
      have := fb_ct_kth_one c h2 (q.trans h3.symm)
      omega
theorem kv_is {lost len k : Nat} (h : k < fb_ct (th_ lost) len) : kv_ lost len k < len ∧ th_ lost (kv_ lost len k) = true ∧ fb_ct (th_ lost) (kv_ lost len k) = k := by
  obtain ⟨i, h1, h2, h3⟩ := fb_ct_kth h
  rw [kv_of h1 h2 h3]
  exact ⟨h1, h2, h3⟩
theorem th_ct {lost len : Nat} (h : lost < 2 ^ len) (hl : len ≤ 20) : fb_ct (th_ lost) len = len - pc_ lost ∧ pc_ lost ≤ len := by
  have := fb_ct_not (fun i => lost.testBit i) len
  rw [← pc_of h hl] at this
  have e : fb_ct (th_ lost) len = fb_ct (fun k => !lost.testBit k) len := rfl
  rw [e]
  omega
theorem pc_or {lost v : Nat} (h : lost.testBit v = false) (hv : v < 20) : pc_ (lost ||| 2 ^ v) = pc_ lost + 1 := by
  unfold pc_
  have := fb_ct_upd (fun i => lost.testBit i) true (i := v) (n := 20) hv
  rw [h] at this
  have e : fb_ct (fun i => (lost ||| 2 ^ v).testBit i) 20 = fb_ct (fun k => if k = v then true else lost.testBit k) 20 := fb_ct_cong (fun k _ => by
    rw [Nat.testBit_or, Nat.testBit_two_pow]
    by_cases c : k = v
    · rw [if_pos c, decide_eq_true c.symm, Bool.or_true]
    · rw [if_neg c, decide_eq_false (fun q => c q.symm), Bool.or_false])
  rw [e]
  exact this
def tkN (ls : List ln_T) (i : Nat) : Nat := (ln_tk (ln_at ls i)).toNatClampNeg
def lg_ (ls : List ln_T) (lost : Nat) : Nat → Nat × Nat
  | 0 => (0, 0)
  | i + 1 => if th_ lost i = true ∧ (lg_ ls lost i).2 < tkN ls i then (i, tkN ls i) else lg_ ls lost i
def mx_ (a b : Int32) : Int32 := (((a ^^^ b) * (nI 1103515245)) + (nI 12345)) ^^^ (((((a ^^^ b) * (nI 1103515245)) + (nI 12345)).toUInt32 >>> ((nI 15).toUInt32 &&& Int32.toUInt32 31)).toInt32)
def hf_ (x : Int32) : Int32 := (x.toUInt32 >>> ((nI 1).toUInt32 &&& Int32.toUInt32 31)).toInt32
theorem hf_nn (x : Int32) : ∃ y, y < 2 ^ 31 ∧ hf_ x = nI y := by
  obtain ⟨n, hn, e⟩ : ∃ n, n < 2 ^ 32 ∧ x = nI n := ⟨x.toBitVec.toNat, x.toBitVec.isLt, Int32.toBitVec_inj.mp (by show _ = BitVec.ofNat 32 _; simp)⟩
  subst e
  refine ⟨n >>> 1, ?_, ki_ush hn (by omega)⟩
  rw [Nat.shiftRight_eq_div_pow]
  omega
def lt_ (seed : Int32) (which n : Nat) : Nat := (hf_ (mx_ (mx_ seed (nI 22)) (nI which))).toNatClampNeg % n
theorem lt_is (seed : Int32) (which : Nat) {n : Nat} (h0 : 0 < n) (hn : n < 2 ^ 31) : hf_ (mx_ (mx_ seed (nI 22)) (nI which)) - hf_ (mx_ (mx_ seed (nI 22)) (nI which)) / nI n * nI n = nI (lt_ seed which n) := by
  unfold lt_
  obtain ⟨y, hy, ey⟩ := hf_nn (mx_ (mx_ seed (nI 22)) (nI which))
  rw [ey, nI_clamp hy, pk_rem hy h0 hn]
/-- the line that goes next -/
def vi_ (P : ps_T) (r law : Nat) (seed : Int32) (lost : Nat) : Nat :=
  if law = 0 then kv_ lost (px_at (ps_p P) r).length ((px_at (ps_p P) r).length - pc_ lost - 1)
  else if law = 1 then kv_ lost (px_at (ps_p P) r).length 0
  else if law = 2 then (lg_ (px_at (ps_p P) r) lost (px_at (ps_p P) r).length).1
  else kv_ lost (px_at (ps_p P) r).length (lt_ seed (pc_ lost) ((px_at (ps_p P) r).length - pc_ lost))
theorem tk_ok {P : ps_T} {r i : Nat} (hP : ps_ok P) (hr : r < (ps_p P).length) (hi : i < (px_at (ps_p P) r).length) : 1 ≤ tkN (px_at (ps_p P) r) i ∧ tkN (px_at (ps_p P) r) i < 1000 ∧ ln_tk (ln_at (px_at (ps_p P) r) i) = nI (tkN (px_at (ps_p P) r) i) := by
  have hm : ln_at (px_at (ps_p P) r) i ∈ px_at (ps_p P) r := by
    unfold ln_at
    rw [List.getD_eq_getElem?_getD, List.getElem?_eq_getElem hi]
    exact List.getElem_mem hi
  obtain ⟨k, k1, k2, k3⟩ := (hP.1.2.1 r hr _ hm).2
  unfold tkN
  rw [k3, nI_clamp (by omega)]
  exact ⟨k1, k2, rfl⟩
/-- the longest: none is there yet, or it is one of them -/
theorem lg_is {P : ps_T} {r lost : Nat} (hP : ps_ok P) (hr : r < (ps_p P).length) : ∀ n, n ≤ (px_at (ps_p P) r).length → (fb_ct (th_ lost) n = 0 → lg_ (px_at (ps_p P) r) lost n = (0, 0)) ∧ (0 < fb_ct (th_ lost) n → (lg_ (px_at (ps_p P) r) lost n).1 < n ∧ th_ lost (lg_ (px_at (ps_p P) r) lost n).1 = true ∧ (lg_ (px_at (ps_p P) r) lost n).2 = tkN (px_at (ps_p P) r) (lg_ (px_at (ps_p P) r) lost n).1)
  | 0, _ => ⟨fun _ => rfl, fun h => absurd h (Nat.lt_irrefl 0)⟩
  | n + 1, hn => by
    obtain ⟨i1, i2⟩ := lg_is hP hr n (by omega)
    obtain ⟨k1, k2, k3⟩ := tk_ok hP hr (i := n) (by omega)
    rw [fb_ct_succ]
    by_cases c : th_ lost n = true ∧ (lg_ (px_at (ps_p P) r) lost n).2 < tkN (px_at (ps_p P) r) n
    · have e : lg_ (px_at (ps_p P) r) lost (n + 1) = (n, tkN (px_at (ps_p P) r) n) := if_pos c
      rw [e, if_pos c.1]
      exact ⟨fun h => by omega, fun _ => ⟨Nat.lt_succ_self n, c.1, rfl⟩⟩
    · have e : lg_ (px_at (ps_p P) r) lost (n + 1) = lg_ (px_at (ps_p P) r) lost n := if_neg c
      rw [e]
      by_cases ct : th_ lost n = true
      · rw [if_pos ct]
        refine ⟨fun h => by omega, fun _ => ?_⟩
        have hpos : 0 < fb_ct (th_ lost) n := by
          rcases Nat.eq_zero_or_pos (fb_ct (th_ lost) n) with z | z
          · exfalso
            apply c
            rw [i1 z]
            exact ⟨ct, k1⟩
          · exact z
        obtain ⟨j1, j2, j3⟩ := i2 hpos
        exact ⟨by omega, j2, j3⟩
      · rw [if_neg ct]
        exact ⟨fun h => i1 (by omega), fun h => by obtain ⟨j1, j2, j3⟩ := i2 (by omega); exact ⟨by omega, j2, j3⟩⟩
theorem vi_ok {P : ps_T} {r law lost : Nat} {seed : Int32} (hP : ps_ok P) (hr : r < (ps_p P).length) (hl : lost < 2 ^ (px_at (ps_p P) r).length) (hpc : pc_ lost < (px_at (ps_p P) r).length) : vi_ P r law seed lost < (px_at (ps_p P) r).length ∧ lost.testBit (vi_ P r law seed lost) = false := by
  have hlen := hP.1.2.2 r
  obtain ⟨hct, -⟩ := th_ct hl (by omega)
  have hT : ∀ {i}, th_ lost i = true → lost.testBit i = false := fun {i} h => by
    unfold th_ at h
    cases c : lost.testBit i with
    | false => rfl
    | true => rw [c] at h; cases h
  unfold vi_
  split
  · obtain ⟨a1, a2, -⟩ := kv_is (lost := lost) (len := (px_at (ps_p P) r).length) (k := (px_at (ps_p P) r).length - pc_ lost - 1) (by omega)
    exact ⟨a1, hT a2⟩
  · split
    · obtain ⟨a1, a2, -⟩ := kv_is (lost := lost) (len := (px_at (ps_p P) r).length) (k := 0) (by omega)
      exact ⟨a1, hT a2⟩
    · split
      · obtain ⟨a1, a2, -⟩ := (lg_is (lost := lost) hP hr _ (Nat.le_refl _)).2 (by omega)
        exact ⟨a1, hT a2⟩
      · obtain ⟨a1, a2, -⟩ := kv_is (lost := lost) (len := (px_at (ps_p P) r).length) (k := lt_ seed (pc_ lost) ((px_at (ps_p P) r).length - pc_ lost)) (by
          rw [hct]
          exact Nat.mod_lt _ (by omega))
        exact ⟨a1, hT a2⟩
/-! the component -/
theorem s_lineThere {l : Launch} {κ : mm_K} {d : Nat} {G : mm_G} {K : Int32 → mm_G → Prop} {lost len k : Nat} (hl : lost < 65536) (hn : len ≤ 16) (hk : k < fb_ct (th_ lost) len) (h : K (nI (kv_ lost len k)) G) : mC l κ true d 0 0 m_X2_lineThere [.int (nI lost), .int (nI k)] G (rI K) := by
  obtain ⟨v1, v2, v3⟩ := kv_is hk
  have hkl : k < 16 := by have := fb_ct_le (th_ lost) len; omega
  refine e_X2_lineThere _ _ ?_
  suffices H : ∀ n i, i + n = kv_ lost len k → mV l κ true d 0 0 m_X2_lineThere 4 [some (.int (nI lost)), some (.int (nI k)), some (.int (nI (fb_ct (th_ lost) i))), some (.int (nI i))] [] G (rI K) from H _ 0 (Nat.zero_add _)
  intro n
  induction n with
  | zero =>
    intro i hi
    obtain rfl : i = kv_ lost len k := by omega
    refine p_X2_lineThere_4 _ _ _ _ ⟨fun z => absurd z (nI_ge (by omega) (by omega)), fun _ => ?_⟩
    rw [ki_0, ki_bit hl (by omega), v3]
    refine ⟨fun z => ?_, fun _ => ⟨fun z => absurd rfl z, fun _ => h⟩⟩
    unfold th_ at v2
    exact absurd (by simpa using v2) z
  | succ n ih =>
    intro i hi
    have hI := ih (i + 1) (by omega)
    have hci : fb_ct (th_ lost) i ≤ i := fb_ct_le _ _
    refine p_X2_lineThere_4 _ _ _ _ ⟨fun z => absurd z (nI_ge (by omega) (by omega)), fun _ => ?_⟩
    rw [ki_0, ki_bit hl (by omega), nI_eq (by omega) (by omega)]
    refine ⟨fun z => ?_, fun z => ⟨fun z2 => ?_, fun z2 => ?_⟩⟩
    · rw [nI_add]
      rw [ct_F (p := th_ lost) (n := i) (by unfold th_; simpa using z)] at hI
      exact hI
    · rw [nI_add, nI_add]
      rw [ct_T (p := th_ lost) (n := i) (by unfold th_; rw [z]; rfl)] at hI
      exact hI
    · exfalso
      have := fb_ct_kth_one (p := th_ lost) (i := i) (by unfold th_; rw [z]; rfl) v2 (z2.trans v3.symm)
      omega
theorem s_longest {l : Launch} {κ : mm_K} {d : Nat} {G : mm_G} {K : Int32 → mm_G → Prop} {P : ps_T} {r lost : Nat} (hP : ps_ok P) (hC : cB_ G P) (hr : r < (ps_p P).length) (hl : lost < 65536) (h : K (nI (lg_ (px_at (ps_p P) r) lost (px_at (ps_p P) r).length).1) G) : mC l κ true d 0 0 m_X2_longestThere [.ref (54 + 2 * r), .int (nI lost)] G (rI K) := by
  have hp := hP.1.1
  have hlen := hP.1.2.2 r
  have hro := hC.1.2.1 r hr
  have hR : RowAt (54 + 2 * r) := rc_row (rc_54 (by omega))
  refine e_X2_longestThere _ hR _ ?_
  have hb : ∀ i, i ≤ (px_at (ps_p P) r).length → (lg_ (px_at (ps_p P) r) lost i).2 < 1000 := by
    intro i
    induction i with
    | zero => intro _; show 0 < 1000; decide
    | succ i ih =>
      intro hi
      have := tk_ok hP hr (i := i) (by omega)
      show (if _ then _ else _ : Nat × Nat).2 < 1000
      split
      · exact this.2.1
      · exact ih (by omega)
  suffices H : ∀ n i, i + n = (px_at (ps_p P) r).length → mV l κ true d 0 0 m_X2_longestThere 7 [some (.ref (54 + 2 * r)), some (.int (nI lost)), some (.int (nI (lg_ (px_at (ps_p P) r) lost i).1)), some (.int (nI (lg_ (px_at (ps_p P) r) lost i).2)), some (.int (nI i))] [] G (rI K) from H _ 0 (Nat.zero_add _)
  intro n
  induction n with
  | zero =>
    intro i hi
    refine p_X2_longestThere_7 _ hR _ _ _ _ ⟨fun _ => ?_, fun z => absurd (by rw [hro.1]; exact nI_le (by omega) (by omega)) z⟩
    rw [show i = (px_at (ps_p P) r).length by omega]
    exact h
  | succ n ih =>
    intro i hi
    have hI := ih (i + 1) (by omega)
    obtain ⟨t, t1, t2, t3, t4⟩ := hro.2.2 i (by omega)
    obtain ⟨k1, k2, k3⟩ := tk_ok hP hr (i := i) (by omega)
    have hbi := hb i (by omega)
    have et : mg_i G t 2 = nI (tkN (px_at (ps_p P) r) i) := by rw [← k3, ← t4]; rfl
    refine p_X2_longestThere_7 _ hR _ _ _ _ ⟨fun z => absurd z (by rw [hro.1]; exact nI_ge (by omega) (by omega)), fun _ => ?_⟩
    rw [ki_0, ki_bit hl (by omega), nI_add]
    refine ⟨fun z => ?_, fun z => ⟨(ki_vp (by omega)).2 (by omega), t, by rw [nI_clamp (by omega)]; exact t1, ln_At t2, fun z2 => ?_, fun z2 => ⟨(ki_vp (by omega)).2 (by omega), t, by rw [nI_clamp (by omega)]; exact t1, ln_At t2, ?_⟩⟩⟩
    · rw [show lg_ (px_at (ps_p P) r) lost (i + 1) = lg_ (px_at (ps_p P) r) lost i from if_neg (fun q => by unfold th_ at q; exact z (by simpa using q.1))] at hI
      exact hI
    · rw [et, nI_leI (by omega) (by omega)] at z2
      rw [show lg_ (px_at (ps_p P) r) lost (i + 1) = lg_ (px_at (ps_p P) r) lost i from if_neg (fun q => by omega)] at hI
      exact hI
    · rw [et, nI_leI (by omega) (by omega)] at z2
      rw [show lg_ (px_at (ps_p P) r) lost (i + 1) = (i, tkN (px_at (ps_p P) r) i) from if_pos ⟨by unfold th_; rw [z]; rfl, by omega⟩] at hI
      rw [et]
      exact hI
theorem s_victim {l : Launch} {κ : mm_K} {d : Nat} {G : mm_G} {K : Int32 → mm_G → Prop} {P : ps_T} {r law lost : Nat} (seed : Int32) (hP : ps_ok P) (hC : cB_ G P) (hr : r < (ps_p P).length) (hlaw : law < 4) (hl : lost < 2 ^ (px_at (ps_p P) r).length) (hpc : pc_ lost < (px_at (ps_p P) r).length) (h : K (nI (vi_ P r law seed lost)) G) : mC l κ true (d + 2) 0 0 m_X2_victim [.ref 98, .int (nI r), .int (nI law), .int seed, .int (nI lost)] G (rI K) := by
  have hp := hP.1.1
  have hlen := hP.1.2.2 r
  have h16 := px_len_lt hlen
  obtain ⟨hct, -⟩ := th_ct hl (by omega)
  unfold vi_ at h
  refine e_X2_victim _ _ _ _ (s_bits (by omega) ?_)
  rw [nI_clamp (by omega), (hC.1.2.1 r hr).1, nI_eq (by omega) (by omega), nI_eq (by omega) (by omega), nI_eq (by omega) (by omega), nI_toInt (by omega), ki_sub (by omega), ki_sub (by omega)]
  refine ⟨(ki_vp (by omega)).2 (by omega), fun z => ?_, fun z => ?_, fun z => ⟨(ki_vp (by omega)).2 (by omega), ?_⟩, fun z => ?_⟩
  · rw [if_pos z] at h
    exact s_lineThere (by omega) hlen (by omega) h
  · rw [if_neg (by omega), if_pos z] at h
    exact s_lineThere (by omega) hlen (by omega) h
  · rw [if_neg (by omega), if_neg (by omega), if_pos z] at h
    exact s_longest hP hC hr (by omega) h
  · rw [if_neg (by omega), if_neg (by omega), if_neg (by omega)] at h
    refine e_X12_lot _ _ _ (e_X12_mixed _ _ (e_X12_mixed _ _ ⟨fun z2 => ?_, fun _ => ⟨?_, ?_⟩⟩))
    · rw [ki_0, nI_leI (by omega) (by omega)] at z2
      omega
    · rw [ki_0, nI_eq (by omega) (by omega)]; omega
    · have e := lt_is seed (pc_ lost) (n := (px_at (ps_p P) r).length - pc_ lost) (by omega) (by omega)
      unfold hf_ mx_ at e
      rw [e]
      exact s_lineThere (by omega) hlen (by rw [hct]; exact Nat.mod_lt _ (by omega)) h
/-- how long a row lives -/
def lf_ (P : ps_T) (r law : Nat) (seed : Int32) : Nat → Nat → Nat → Nat
  | 0, _, g => g + 1
  | n + 1, lost, g => if sm_ P r (lost ||| 2 ^ vi_ P r law seed lost) then lf_ P r law seed n (lost ||| 2 ^ vi_ P r law seed lost) (g + 1) else g + 1
theorem s_lifeBy {l : Launch} {κ : mm_K} {d : Nat} {G : mm_G} {K : Int32 → mm_G → Prop} {P : ps_T} {r law : Nat} (seed : Int32) (hP : ps_ok P) (hC : cB_ G P) (hL : cL_ G P) (hr : r < (ps_p P).length) (hlaw : law < 4)
    (h : ∀ G', cL_ G' P → fr_ fl_ G G' → K (nI (lf_ P r law seed (px_at (ps_p P) r).length 0 0)) G') : mC l κ true (d + 5) 0 0 m_X2_lifeBy [.ref 98, .int (nI r), .int (nI law), .int seed] G (rI K) := by
  have hp := hP.1.1
  have hlen := hP.1.2.2 r
  have h16 := px_len_lt hlen
  refine e_X2_lifeBy _ _ _ ?_
  rw [nI_clamp (by omega), (hC.1.2.1 r hr).1]
  refine ⟨(ki_vp (by omega)).2 (by omega), ?_⟩
  suffices H : ∀ n g lost G1, g + n = (px_at (ps_p P) r).length → lost < 2 ^ (px_at (ps_p P) r).length → pc_ lost = g → cL_ G1 P → fr_ fl_ G G1 → (∀ G', cL_ G' P → fr_ fl_ G G' → K (nI (lf_ P r law seed n lost g)) G') → mV l κ true (d + 5) 0 0 m_X2_lifeBy 20 [some (.ref 98), some (.int (nI r)), some (.int (nI law)), some (.int seed), some (.int (nI (px_at (ps_p P) r).length)), some (.int (nI lost)), some (.int (nI g))] [] G1 (rI K) from H _ 0 0 G (Nat.zero_add _) (Nat.two_pow_pos _) pc_0 hL fr_.rfl' h
  intro n
  induction n with
  | zero =>
    intro g lost G1 hg hlo hpc hL1 hf h
    refine p_X2_lifeBy_20 _ _ _ _ _ _ ⟨fun _ => ?_, fun z => absurd (nI_le (by omega) (by omega)) z⟩
    have h := h G1 hL1 hf
    rw [show lf_ P r law seed 0 lost g = g + 1 from rfl] at h
    rw [nI_add, show (px_at (ps_p P) r).length = g by omega]
    exact h
  | succ n ih =>
    intro g lost G1 hg hlo hpc hL1 hf h
    have hC1 := hC.on hP (hf.on (fun c k q => fl_on q)) (by rw [hf.1]; exact Nat.le_refl _)
    obtain ⟨v1, v2⟩ := vi_ok (law := law) (seed := seed) hP hr hlo (by omega)
    have hlo2 : lost ||| 2 ^ vi_ P r law seed lost < 2 ^ (px_at (ps_p P) r).length := Nat.or_lt_two_pow hlo (Nat.pow_lt_pow_right (by decide) v1)
    refine p_X2_lifeBy_20 _ _ _ _ _ _ ⟨fun z => absurd z (nI_ge (by omega) (by omega)), fun _ => s_victim seed hP hC1 hr hlaw hlo (by omega) ?_⟩
    rw [ki_shl _ (by omega), fa_or]
    refine s_firstOther hP hC1 hL1 hr (by omega) (fun G2 l2 f2 => ⟨fun z => ?_, fun z => ?_⟩)
    · rw [nI_add]
      refine ih (g + 1) _ G2 (by omega) hlo2 (by rw [pc_or v2 (by omega)]; omega) l2 (hf.trans f2) (fun G' q1 q2 => ?_)
      have h := h G' q1 q2
      rw [show lf_ P r law seed (n + 1) lost g = lf_ P r law seed n (lost ||| 2 ^ vi_ P r law seed lost) (g + 1) from if_pos (fo_T hP z)] at h
      exact h
    · have h := h G2 l2 (hf.trans f2)
      rw [show lf_ P r law seed (n + 1) lost g = g + 1 from if_neg (by rw [fo_F z]; decide)] at h
      rw [nI_add]
      exact h
