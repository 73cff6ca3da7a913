/-! idle, harm, worst, pair, reached -/
theorem c_idle {l : Launch} {κ : mm_K} {d : Nat} {G : mm_G} {K : Int32 → mm_G → Prop} {P : ps_T} (a : Int32) (hP : ps_ok P) (hC : cB_ G P) (hL : cL_ G P) (h : ∀ G', cL_ G' P → fr_ fl_ G G' → K (an_row P (fun r => nI (il_ P r (px_at (ps_p P) r).length)) a) G') : mC l κ true (d + 6) 0 0 m_X12_idle [.ref 0, .int a] G (rI K) := by
  unfold an_row at h
  refine e_X12_idle a (s_hasRow a hC.1.1 hP.1.1 (fun e => ⟨fun _ => ?_, fun q => absurd (by decide) q⟩) (fun r e hr ea => ⟨fun q => absurd q (by decide), fun _ => ?_⟩))
  · rw [e] at h; exact h G hL fr_.rfl'
  · rw [e] at h
    subst ea
    exact s_idle hP hC hL hr h
theorem m_idle {l : Launch} {κ : mm_K} {d : Nat} {G : mm_G} {K : Int32 → mm_G → Prop} {P : ps_T} {m : Nat} (a : Int32) (hP : ps_ok P) (hM : mB_ G P m) (h : ∀ G', fr_ fb_ G G' → K (an_row P (fun r => nI (il_ P r (px_at (ps_p P) r).length)) a) G') : mC l κ true (d + 8) 0 0 m_X13_idle [.ref 226, .int a] G (rI K) := by
  unfold an_row at h
  refine e_X13_idle a (t_isRow a hP hM (fun e => ⟨fun _ => ?_, fun q => absurd (by decide) q⟩) (fun r e hr ea => ⟨fun q => absurd q (by decide), fun _ => ?_⟩))
  · rw [e] at h; exact h G fr_.rfl'
  · rw [e] at h
    subst ea
    exact t_idleOf hP hM hr (fun G' _ f => h G' f)
theorem c_harm {l : Launch} {κ : mm_K} {d : Nat} {G : mm_G} {K : Int32 → mm_G → Prop} {P : ps_T} (a b : Int32) (hP : ps_ok P) (hC : cB_ G P) (hL : cL_ G P) (h : ∀ G', cL_ G' P → fr_ fl_ G G' → K (an_harm P a b) G') : mC l κ true (d + 5) 0 0 m_X12_harm [.ref 0, .int a, .int b] G (rI K) := by
  unfold an_harm at h
  refine e_X12_harm a b (s_hasLine a b hP hC (fun e => ⟨fun _ => ?_, fun q => absurd (by decide) q⟩) (fun r i e hr ea hi ei => ⟨fun q => absurd q (by decide), fun _ => ?_⟩))
  · rw [e] at h; exact h G hL fr_.rfl'
  · rw [e] at h
    subst ea ei
    exact s_harm hP hC hL hr (Nat.lt_of_lt_of_le hi (hP.1.2.2 r)) h
theorem m_harm {l : Launch} {κ : mm_K} {d : Nat} {G : mm_G} {K : Int32 → mm_G → Prop} {P : ps_T} {m : Nat} (a b : Int32) (hP : ps_ok P) (hM : mB_ G P m) (h : ∀ G', fr_ fb_ G G' → K (an_harm P a b) G') : mC l κ true (d + 6) 0 0 m_X13_harm [.ref 226, .int a, .int b] G (rI K) := by
  unfold an_harm at h
  refine e_X13_harm a b (t_isLine a b hP hM (fun e => ⟨fun q => absurd (by decide) q, fun _ => ?_⟩) (fun r i e hr ea hi ei => ⟨fun _ => ?_, fun q => absurd q (by decide)⟩))
  · rw [e] at h; exact h G fr_.rfl'
  · rw [e] at h
    subst ea ei
    exact t_fillBase hP hM hr (fun G1 b1 _ f1 => t_harmOf hP (hM.fb f1) hr b1 (Nat.lt_of_lt_of_le hi (hP.1.2.2 r)) (fun G2 f2 => h G2 (f1.trans f2.gb)))
theorem c_worst {l : Launch} {κ : mm_K} {d : Nat} {G : mm_G} {K : Int32 → mm_G → Prop} {P : ps_T} (a : Int32) (hP : ps_ok P) (hC : cB_ G P) (hL : cL_ G P) (h : ∀ G', cL_ G' P → fr_ fl_ G G' → K (an_row P (fun r => (wl_ P r (px_at (ps_p P) r).length).1) a) G') : mC l κ true (d + 6) 0 0 m_X12_worst [.ref 0, .int a] G (rI K) := by
  unfold an_row at h
  refine e_X12_worst a (s_hasRow a hC.1.1 hP.1.1 (fun e => ⟨fun _ => ?_, fun q => absurd (by decide) q⟩) (fun r e hr ea => ⟨fun q => absurd q (by decide), fun _ => ?_⟩))
  · rw [e] at h; exact h G hL fr_.rfl'
  · rw [e] at h
    subst ea
    exact s_worst hP hC hL hr h
theorem m_worst {l : Launch} {κ : mm_K} {d : Nat} {G : mm_G} {K : Int32 → mm_G → Prop} {P : ps_T} {m : Nat} (a : Int32) (hP : ps_ok P) (hM : mB_ G P m) (h : ∀ G', fr_ fb_ G G' → K (an_row P (fun r => (wl_ P r (px_at (ps_p P) r).length).1) a) G') : mC l κ true (d + 6) 0 0 m_X13_worst [.ref 226, .int a] G (rI K) := by
  unfold an_row at h
  refine e_X13_worst a (t_isRow a hP hM (fun e => ⟨fun q => absurd (by decide) q, fun _ => ?_⟩) (fun r e hr ea => ⟨fun _ => ?_, fun q => absurd q (by decide)⟩))
  · rw [e] at h; exact h G fr_.rfl'
  · rw [e] at h
    subst ea
    have hlen := hP.1.2.2 r
    refine t_fillBase hP hM hr (fun G1 b1 _ f1 => ?_)
    suffices H : ∀ n i G2, i + n = (px_at (ps_p P) r).length → fr_ fg_ G1 G2 → mV l κ true (d + 6) 0 0 m_X13_worst 23 [some (.ref 226), some (.int (nI r)), some (.int (wl_ P r i).1), some (.int (wl_ P r i).2), some (.int (nI i)), none] [] G2 (rI K) from H _ 0 G1 (Nat.zero_add _) fr_.rfl'
    intro n
    induction n with
    | zero =>
      intro i G2 hi hf
      refine p_X13_worst_23 _ _ _ _ (t_lines hP ((hM.fb f1).fg hf) hr ⟨fun _ => ?_, fun z => absurd (nI_le (by omega) (by omega)) z⟩)
      have h := h G2 (f1.trans hf.gb)
      simp only [] at h
      rw [show (px_at (ps_p P) r).length = i by omega] at h
      exact h
    | succ n ih =>
      intro i G2 hi hf
      have hM2 := (hM.fb f1).fg hf
      refine p_X13_worst_23 _ _ _ _ (t_lines hP hM2 hr ⟨fun z => absurd z (nI_ge (by omega) (by omega)), fun _ => t_harmOf hP hM2 hr (b1.fg hf) (by omega) (fun G3 g3 => ⟨fun z => ?_, fun z => ?_⟩)⟩)
      · rw [nI_add]
        have hI := ih (i + 1) G3 (by omega) (hf.trans g3)
        rw [show wl_ P r (i + 1) = (nI i, nI (hm_ P r i)) from if_pos z] at hI
        exact hI
      · rw [nI_add]
        have hI := ih (i + 1) G3 (by omega) (hf.trans g3)
        rw [show wl_ P r (i + 1) = wl_ P r i from if_neg z] at hI
        exact hI
theorem c_pair {l : Launch} {κ : mm_K} {d : Nat} {G : mm_G} {K : Int32 → mm_G → Prop} {P : ps_T} (a : Int32) (hP : ps_ok P) (hC : cB_ G P) (hL : cL_ G P) (h : ∀ G', cL_ G' P → fr_ fl_ G G' → K (an_row P (pr_a P) a) G') : mC l κ true (d + 7) 0 0 m_X12_pair [.ref 0, .int a] G (rI K) := by
  unfold an_row at h
  refine e_X12_pair a (s_hasRow a hC.1.1 hP.1.1 (fun e => ⟨fun _ => ?_, fun q => absurd (by decide) q⟩) (fun r e hr ea => ⟨fun q => absurd q (by decide), fun _ => ?_⟩))
  · rw [e] at h; exact h G hL fr_.rfl'
  · rw [e] at h
    subst ea
    exact s_pair hP hC hL hr h
theorem m_pair {l : Launch} {κ : mm_K} {d : Nat} {G : mm_G} {K : Int32 → mm_G → Prop} {P : ps_T} {m : Nat} (a : Int32) (hP : ps_ok P) (hM : mB_ G P m) (h : ∀ G', fr_ fb_ G G' → K (an_row P (pr_a P) a) G') : mC l κ true (d + 8) 0 0 m_X13_pair [.ref 226, .int a] G (rI K) := by
  unfold an_row at h
  refine e_X13_pair a (t_isRow a hP hM (fun e => ⟨fun q => absurd (by decide) q, fun _ => ?_⟩) (fun r e hr ea => ⟨fun _ => ?_, fun q => absurd q (by decide)⟩))
  · rw [e] at h; exact h G fr_.rfl'
  · rw [e] at h
    subst ea
    have hlen := hP.1.2.2 r
    have hil := il_lt P r (px_at (ps_p P) r).length
    have h16 := px_len_lt hlen
    refine t_idleOf hP hM hr (fun G1 b1 f1 => ?_)
    have hhi : ∀ i, (px_at (ps_p P) r).length ≤ i → (il_ P r (px_at (ps_p P) r).length).testBit i = false := fun i hi => tb_hi hil hi
    suffices H : ∀ n i G2, i + n = (px_at (ps_p P) r).length → fr_ fg_ G1 G2 → (∀ m, m < 16 * i → pp_ P r m = false) → mV l κ true (d + 8) 0 0 m_X13_pair 18 [some (.ref 226), some (.int (nI r)), some (.int (nI (il_ P r (px_at (ps_p P) r).length))), some (.int (nI i)), none] [] G2 (rI K) from H _ 0 G1 (Nat.zero_add _) fr_.rfl' (fun m hm => absurd hm (Nat.not_lt_zero m))
    intro n
    induction n with
    | zero =>
      intro i G2 hi hf hno
      refine p_X13_pair_18 _ _ _ (t_lines hP ((hM.fb f1).fg hf) hr ⟨fun _ => ?_, fun z => absurd (nI_le (by omega) (by omega)) z⟩)
      have h := h G2 (f1.trans hf.gb)
      simp only [] at h
      unfold pr_a at h
      rw [ff_no (p := pp_ P r) (n := 256) (fun m hm => ?_), if_neg (Nat.lt_irrefl _)] at h
      · exact h
      · rcases Nat.lt_or_ge m (16 * i) with c | c
        · exact hno m c
        · unfold pp_
          rw [hhi (m / 16) (by omega)]
          simp
    | succ n ih =>
      intro i G2 hi hf hno
      have hM2 := (hM.fb f1).fg hf
      refine p_X13_pair_18 _ _ _ (t_lines hP hM2 hr ⟨fun z => absurd z (nI_ge (by omega) (by omega)), fun _ => ?_⟩)
      rw [nI_add]
      suffices H2 : ∀ n2 j G3, j + n2 = (px_at (ps_p P) r).length → i < j → fr_ fg_ G1 G3 → (∀ m, m < 16 * i + j → pp_ P r m = false) → mV l κ true (d + 8) 0 0 m_X13_pair 32 [some (.ref 226), some (.int (nI r)), some (.int (nI (il_ P r (px_at (ps_p P) r).length))), some (.int (nI i)), some (.int (nI j))] [] G3 (rI K) by
        refine H2 ((px_at (ps_p P) r).length - (i + 1)) (i + 1) G2 (by omega) (Nat.lt_succ_self i) hf (fun m hm => ?_)
        rcases Nat.lt_or_ge m (16 * i) with c | c
        · exact hno m c
        · have := pp_16 (P := P) (r := r) (i := i) (j := m - 16 * i) (by omega)
          rw [show 16 * i + (m - 16 * i) = m by omega] at this
          rw [this, decide_eq_false (by omega)]
          rfl
      intro n2
      induction n2 with
      | zero =>
        intro j G3 hj hij hf3 hno3
        refine p_X13_pair_32 _ _ _ _ (t_lines hP ((hM.fb f1).fg hf3) hr ⟨fun _ => ?_, fun z => absurd (nI_le (by omega) (by omega)) z⟩)
        rw [nI_add]
        refine ih (i + 1) G3 (by omega) hf3 (fun m hm => ?_)
        rcases Nat.lt_or_ge m (16 * i + j) with c | c
        · exact hno3 m c
        · have := pp_16 (P := P) (r := r) (i := i) (j := m - 16 * i) (by omega)
          rw [show 16 * i + (m - 16 * i) = m by omega] at this
          rw [this, hhi (m - 16 * i) (by omega)]
          simp
      | succ n2 ih2 =>
        intro j G3 hj hij hf3 hno3
        have hM3 := (hM.fb f1).fg hf3
        have hb : 2 ^ i ||| 2 ^ j < 65536 := Nat.or_lt_two_pow (n := 16) (tp_lt (by omega)) (tp_lt (by omega))
        refine p_X13_pair_32 _ _ _ _ (t_lines hP hM3 hr ⟨fun z => absurd z (nI_ge (by omega) (by omega)), fun _ => ?_⟩)
        rw [ki_sbit (by omega) (by omega), ki_sbit (by omega) (by omega), ki_shl _ (by omega), ki_shl _ (by omega), fa_or]
        have hstep : ∀ G4, fr_ fg_ G1 G4 → pp_ P r (16 * i + j) = false → mV l κ true (d + 8) 0 0 m_X13_pair 32 [some (.ref 226), some (.int (nI r)), some (.int (nI (il_ P r (px_at (ps_p P) r).length))), some (.int (nI i)), some (.int (nI j + nI 1))] [] G4 (rI K) := by
          intro G4 f4 hq
          rw [nI_add]
          refine ih2 (j + 1) G4 (by omega) (by omega) f4 (fun m hm => ?_)
          rcases Nat.lt_or_ge m (16 * i + j) with c | c
          · exact hno3 m c
          · rw [show m = 16 * i + j by omega]; exact hq
        have hbit : ∀ q, ¬ nI (if (il_ P r (px_at (ps_p P) r).length).testBit q then 1 else 0) = nI 1 → (il_ P r (px_at (ps_p P) r).length).testBit q = false := by
          intro q z
          cases c : (il_ P r (px_at (ps_p P) r).length).testBit q with
          | false => rfl
          | true => rw [c] at z; exact absurd rfl z
        have hbitT : ∀ q, nI (if (il_ P r (px_at (ps_p P) r).length).testBit q then 1 else 0) = nI 1 → (il_ P r (px_at (ps_p P) r).length).testBit q = true := by
          intro q z
          cases c : (il_ P r (px_at (ps_p P) r).length).testBit q with
          | true => rfl
          | false => rw [c] at z; exact absurd z (by decide)
        refine ⟨fun z => hstep G3 hf3 ?_, fun z => ⟨fun z2 => hstep G3 hf3 ?_, fun z2 => t_isSame hP hM3 hr (b1.fg hf3) hb (fun G4 f4 => ⟨fun z3 => hstep G4 (hf3.trans f4) ?_, fun z3 => ?_⟩)⟩⟩
        · rw [pp_16 (by omega), hbit i z]; simp
        · rw [pp_16 (by omega), hbit j z2]; simp
        · have hs : sm_ P r (2 ^ i ||| 2 ^ j) = true := by
            by_cases c : sm_ P r (2 ^ i ||| 2 ^ j) = true
            · exact c
            · rw [if_neg c] at z3; exact absurd rfl z3
          rw [pp_16 (by omega), hs]; simp
        · have hs : sm_ P r (2 ^ i ||| 2 ^ j) = false := by
            cases c : sm_ P r (2 ^ i ||| 2 ^ j) with
            | false => rfl
            | true => rw [c] at z3; exact absurd z3 (by decide)
          have h := h G4 (f1.trans (hf3.trans f4).gb)
          simp only [] at h
          unfold pr_a at h
          have hy : pp_ P r (16 * i + j) = true := by
            rw [pp_16 (by omega), hbitT i z, hbitT j z2, hs, decide_eq_true hij]
            rfl
          rw [ff_at (p := pp_ P r) (n := 256) hno3 hy (by omega), if_pos (by omega), show (16 * i + j) / 16 = i by omega, show (16 * i + j) % 16 = j by omega] at h
          rw [ki_mul, nI_add]
          exact h
/-! reached -/
def tr_ok (r : Nat) (t : List (Nat × Nat)) : Prop := ∀ a ∈ t, a.2 < 16 ∧ a.1 ≤ r
theorem ru_loop_tr {e : en_T} {r : Nat} (he : en_ok e r) : ∀ n s, rs_ok e r s → tr_ok r (rs_t s) → tr_ok r (rs_t (ru_loop e n s).1)
  | 0, s, hk, ht => by
    show tr_ok r (rs_t (ru_come e s))
    rw [rs_t_come]; exact ht
  | n + 1, s, hk, ht => by
    have hr : r < 4 := by have := he.2.2.1; have := he.2.2.2.2.2.1; omega
    unfold ru_loop
    by_cases hi : ru_is e s = true
    · rw [if_pos hi]
      have hlt := ru_come_lt hi
      have hko := ru_come_ok he hk
      have hdo := ru_do_ok (x := ru_top e (ru_come e s)) (ru_pre_ok hko hlt) hr (by
            show ln_ok (ru_to (ru_come e s) (ru_a (ru_come e s) + 1) (rs_d (ru_come e s))).1 _
            rw [ru_to_1]
            exact ln_ok_at he hko hlt)
      have htr : tr_ok r (rs_t (ru_do e (ru_top e (ru_come e s)) (ru_pre (ru_come e s))).1) := by
        rw [rs_t_do]
        show tr_ok r (rs_t (ru_come e s) ++ [ru_tr (ru_come e s)])
        rw [rs_t_come]
        intro a ha
        rcases List.mem_append.1 ha with z | z
        · exact ht a z
        · rw [List.mem_singleton] at z
          subst z
          have hl := ru_ls_le he (rs_s (ru_come e s)) (rs_d (ru_come e s))
          refine ⟨by show ru_a (ru_come e s) < 16; omega, ?_⟩
          show (if rs_d (ru_come e s) = 0 then 0 else (rs_s (ru_come e s) (rs_d (ru_come e s))).1 + 1) ≤ r
          split
          · omega
          · rename_i c0
            have hb := hko.2.1 (rs_d (ru_come e s) - 1) (by omega)
            rw [Nat.sub_add_cancel (by omega)] at hb
            omega
      by_cases h0 : (ru_do e (ru_top e (ru_come e s)) (ru_pre (ru_come e s))).2 = 0
      · rw [if_pos h0]
        exact ru_loop_tr he n _ hdo htr
      · rw [if_neg h0]
        exact htr
    · rw [if_neg hi]
      show tr_ok r (rs_t (ru_come e s))
      rw [rs_t_come]; exact ht
theorem rr_tr {P : ps_T} {r lo k : Nat} (hP : ps_ok P) (hr : r < (ps_p P).length) (hlo : lo < 65536) : tr_ok r (rs_t (rr_ (ps_p P) (ps_t P) (ps_f P) r lo k).1) :=
  ru_loop_tr (en_of_ok (k := k) (am := none) hP.1 hP.2.1 hr (hP.1.2.2 r) (px_ok hP hr) hlo) _ _ ru_init_ok (fun a ha => absurd ha (List.not_mem_nil))
def dn_ (t : List (Nat × Nat)) : Nat → Nat
  | 0 => 0
  | n + 1 => if (t.getD n (0, 0)).1 = 0 then dn_ t n ||| 2 ^ (t.getD n (0, 0)).2 else dn_ t n
theorem dn_app (t : List (Nat × Nat)) (a : Nat × Nat) : ∀ n, n ≤ t.length → dn_ (t ++ [a]) n = dn_ t n
  | 0, _ => rfl
  | n + 1, h => by
    unfold dn_
    rw [dn_app t a n (by omega), ld_l _ _ (by omega)]
theorem dn_eq (t : List (Nat × Nat)) : ru_dn t = dn_ t t.length := by
  suffices H : ∀ n (t : List (Nat × Nat)), t.length = n → ru_dn t = dn_ t n from H _ t rfl
  intro n
  induction n with
  | zero =>
    intro t ht
    rw [List.eq_nil_of_length_eq_zero ht]
    rfl
  | succ n ih =>
    intro t ht
    obtain ⟨u, a, rfl⟩ : ∃ u a, t = u ++ [a] := by
      have hne : t ≠ [] := fun q => by rw [q] at ht; cases ht
      exact ⟨t.dropLast, t.getLast hne, (List.dropLast_concat_getLast hne).symm⟩
    have hu : u.length = n := by rw [ld_len] at ht; omega
    rw [ru_dn_add]
    show _ = (if ((u ++ [a]).getD n (0, 0)).1 = 0 then dn_ (u ++ [a]) n ||| 2 ^ ((u ++ [a]).getD n (0, 0)).2 else dn_ (u ++ [a]) n)
    have e1 : (u ++ [a]).getD n (0, 0) = a := by rw [← hu]; exact ld_r u (0, 0) a
    rw [e1, dn_app u a n (by omega), ih u hu]
theorem c_reached {l : Launch} {κ : mm_K} {d : Nat} {G : mm_G} {K : Int32 → mm_G → Prop} {P : ps_T} (a : Int32) (hP : ps_ok P) (hC : cB_ G P) (hL : cL_ G P) (h : ∀ G', cL_ G' P → fr_ fl_ G G' → K (an_row P (fun r => nI (rch_ P r (ps_t P).length)) a) G') : mC l κ true (d + 5) 0 0 m_X12_reached [.ref 0, .int a] G (rI K) := by
  have hp := hP.1.1
  unfold an_row at h
  refine e_X12_reached a (s_hasRow a hC.1.1 hP.1.1 (fun e => ⟨fun _ => ?_, fun q => absurd (by decide) q⟩) (fun r e hr ea => ⟨fun q => absurd q (by decide), fun _ => ?_⟩))
  · rw [e] at h; exact h G hL fr_.rfl'
  · rw [e] at h
    subst ea
    refine e_X2_reachedLines _ (s_know hP hC hL hr (fun G1 l1 n1 f1 => ?_))
    rw [nI_clamp (by omega), n1.1]
    exact ⟨(ki_vp (by omega)).2 (by omega), h G1 l1 f1⟩
theorem m_reached {l : Launch} {κ : mm_K} {d : Nat} {G : mm_G} {K : Int32 → mm_G → Prop} {P : ps_T} {m : Nat} (a : Int32) (hP : ps_ok P) (hM : mB_ G P m) (h : ∀ G', fr_ fg_ G G' → K (an_row P (fun r => nI (rch_ P r (ps_t P).length)) a) G') : mC l κ true (d + 5) 0 0 m_X13_reached [.ref 226, .int a] G (rI K) := by
  have hp := hP.1.1
  have ht := hP.2.1.1
  have hm := hM.1
  unfold an_row at h
  refine e_X13_reached a (t_isRow a hP hM (fun e => ⟨fun q => absurd (by decide) q, fun _ => ?_⟩) (fun r e hr ea => ⟨fun _ => ?_, fun q => absurd q (by decide)⟩))
  · rw [e] at h; exact h G fr_.rfl'
  · rw [e] at h
    subst ea
    refine t_takesRow 0 hP hM hr (fun G1 p1 f1 => ?_)
    suffices H : ∀ n k G2, k + n = (ps_t P).length → fr_ fm_ G1 G2 → mV l κ true (d + 5) 0 0 m_X13_reached 20 [some (.ref 226), some (.int (nI r)), some (.int (nI (rch_ P r k))), some (.int (nI k)), none] [] G2 (rI K) from H _ 0 G1 (Nat.zero_add _) fr_.rfl'
    intro n
    induction n with
    | zero =>
      intro k G2 hk hf
      have hM2 := (hM.fg f1.tg).fm hf
      refine p_X13_reached_20 _ _ _ ?_
      rw [hM2.2.1, nI_clamp (by omega), hM2.2.2.2.1.1]
      refine ⟨(ki_vp (by omega)).2 (by omega), fun _ => ?_, fun z => absurd (nI_le (by omega) (by omega)) z⟩
      have h := h G2 (f1.tg.trans hf.mg)
      simp only [] at h
      rw [show (ps_t P).length = k by omega] at h
      exact h
    | succ n ih =>
      intro k G2 hk hf
      have hM2 := (hM.fg f1.tg).fm hf
      refine p_X13_reached_20 _ _ _ ?_
      rw [hM2.2.1, nI_clamp (by omega), hM2.2.2.2.1.1]
      refine ⟨(ki_vp (by omega)).2 (by omega), fun z => absurd z (nI_ge (by omega) (by omega)), fun _ => t_run1 hP hM2 (p1.fm hf) hr (hP.1.2.2 r) (px_ok hP hr) (by decide) (by omega) (fun G3 g1 g2 g3 => ?_)⟩
      have g1 : mo_ G3 r (fun i => i) (rr_ (ps_p P) (ps_t P) (ps_f P) r 0 k).1 := g1
      obtain ⟨-, t3, -⟩ := rr_ok (k := k) hP hr (by decide : 0 < 65536)
      have htr := rr_tr (k := k) hP hr (by decide : 0 < 65536)
      have hI := ih (k + 1) G3 (by omega) (hf.trans g2)
      rw [show rch_ P r (k + 1) = rch_ P r k ||| ru_dn (rs_t (rr_ (ps_p P) (ps_t P) (ps_f P) r 0 k).1) from rfl, dn_eq] at hI
      have g53 := g1.2.1
      have g59 := g1.2.2.2.2
      generalize rs_t (rr_ (ps_p P) (ps_t P) (ps_f P) r 0 k).1 = tt at t3 htr hI g53 g59
      suffices H2 : ∀ n2 j, j + n2 = tt.length → mV l κ true (d + 5) 0 0 m_X13_reached 41 [some (.ref 226), some (.int (nI r)), some (.int (nI (rch_ P r k ||| dn_ tt j))), some (.int (nI k)), some (.int (nI j))] [] G3 (rI K) by
        have := H2 tt.length 0 (Nat.zero_add _)
        rw [show dn_ tt 0 = 0 from rfl, Nat.or_zero] at this
        exact this
      intro n2
      induction n2 with
      | zero =>
        intro j hj
        refine p_X13_reached_41 _ _ _ _ ⟨fun _ => ?_, fun z => absurd (by rw [g53]; exact nI_le (by omega) (by omega)) z⟩
        rw [nI_add, show j = tt.length by omega]
        exact hI
      | succ n2 ih2 =>
        intro j hj
        have hmem : tt.getD j (0, 0) ∈ tt := by
          rw [List.getD_eq_getElem?_getD, List.getElem?_eq_getElem (by omega)]
          exact List.getElem_mem _
        obtain ⟨m1, m2⟩ := htr _ hmem
        have hnx := ih2 (j + 1) (by omega)
        refine p_X13_reached_41 _ _ _ _ ⟨fun z => absurd z (by rw [g53]; exact nI_ge (by omega) (by omega)), fun _ => ?_⟩
        rw [nI_clamp (by omega), g59 j (by omega)]
        by_cases c0 : (tt.getD j (0, 0)).1 = 0
        · have ec : mo_code r (fun i => i) (tt.getD j (0, 0)) = 20 * r + (tt.getD j (0, 0)).2 := by
            unfold mo_code
            rw [if_pos c0]
          have ed : dn_ tt (j + 1) = dn_ tt j ||| 2 ^ (tt.getD j (0, 0)).2 := by
            show (if _ then _ else _) = _
            rw [if_pos c0]
          rw [ed, ← Nat.or_assoc] at hnx
          rw [ec, pk_div (by omega) (by omega) (by omega), show (20 * r + (tt.getD j (0, 0)).2) / 20 = r by omega]
          refine ⟨(ki_vp (by omega)).2 (by omega), by decide, fun z => absurd rfl z, fun _ => ⟨(ki_vp (by omega)).2 (by omega), by decide, ?_⟩⟩
          rw [ki_mul, ki_sub (by omega), show 20 * r + (tt.getD j (0, 0)).2 - r * 20 = (tt.getD j (0, 0)).2 by omega, ki_shl _ (by omega), fa_or, nI_add]
          exact hnx
        · have ec : mo_code r (fun i => i) (tt.getD j (0, 0)) = 20 * ((tt.getD j (0, 0)).1 - 1) + (tt.getD j (0, 0)).2 := by
            unfold mo_code
            rw [if_neg c0]
          have ed : dn_ tt (j + 1) = dn_ tt j := by
            show (if _ then _ else _) = _
            rw [if_neg c0]
          rw [ed] at hnx
          rw [ec, pk_div (by omega) (by omega) (by omega), nI_eq (by omega) (by omega)]
          refine ⟨(ki_vp (by omega)).2 (by omega), by decide, fun _ => ?_, fun z => absurd z (by omega)⟩
          rw [nI_add]
          exact hnx
