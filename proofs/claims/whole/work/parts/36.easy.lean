/-! how a run ends -/
theorem ru_do_2 (e : en_T) (x : ln_T) (s : rs_T) : (ru_do e x s).2 ≤ 5 ∧ (en_am e = none → (ru_do e x s).2 ≤ 4) := by
  unfold ru_do
  split
  · split
    · exact ⟨by show 4 ≤ 5; decide, fun _ => by show 4 ≤ 4; decide⟩
    · split
      · rename_i c1 c2
        refine ⟨by show 5 ≤ 5; decide, fun ha => ?_⟩
        unfold ru_off at c2
        rw [ha] at c2
        cases c2
      · exact ⟨Nat.zero_le _, fun _ => Nat.zero_le _⟩
  · split
    · exact ⟨Nat.zero_le _, fun _ => Nat.zero_le _⟩
    · split
      · split
        · exact ⟨Nat.zero_le _, fun _ => Nat.zero_le _⟩
        · exact ⟨Nat.zero_le _, fun _ => Nat.zero_le _⟩
      · split
        · exact ⟨Nat.zero_le _, fun _ => Nat.zero_le _⟩
        · split
          · exact ⟨Nat.zero_le _, fun _ => Nat.zero_le _⟩
          · split
            · exact ⟨Nat.zero_le _, fun _ => Nat.zero_le _⟩
            · split
              · exact ⟨by show 3 ≤ 5; decide, fun _ => by show 3 ≤ 4; decide⟩
              · exact ⟨Nat.zero_le _, fun _ => Nat.zero_le _⟩
theorem ru_loop_ok {e : en_T} {r : Nat} (he : en_ok e r) : ∀ n s, rs_ok e r s → rs_ok e r (ru_loop e n s).1 ∧ (rs_t (ru_loop e n s).1).length ≤ (rs_t s).length + n ∧ (ru_loop e n s).2 ≤ 4 ∧ (en_am e = none → (ru_loop e n s).2 ≤ 3)
  | 0, s, hk => by
    refine ⟨ru_come_ok he hk, ?_, ?_⟩
    · show (rs_t (ru_come e s)).length ≤ _
      rw [rs_t_come]; omega
    · show (if ru_is e s then 1 else 0) ≤ 4 ∧ (en_am e = none → (if ru_is e s then 1 else 0) ≤ 3)
      split
      · exact ⟨by decide, fun _ => by decide⟩
      · exact ⟨by decide, fun _ => by decide⟩
  | n + 1, s, hk => by
    have hr : r < 4 := by have := he.2.2.1; have := he.2.2.2.2.2.1; omega
    unfold ru_loop
    by_cases hi : ru_is e s = true
    · rw [if_pos hi]
      have hlt := ru_come_lt hi
      have hko := ru_come_ok he hk
      have hdo := ru_do_ok (x := ru_top e (ru_come e s)) (ru_pre_ok hko hlt) hr (by
            show ln_ok (ru_to (ru_come e s) (ru_a (ru_come e s) + 1) (rs_d (ru_come e s))).1 _
            rw [ru_to_1]
            exact ln_ok_at he hko hlt)
      have ht : (rs_t (ru_do e (ru_top e (ru_come e s)) (ru_pre (ru_come e s))).1).length = (rs_t s).length + 1 := by
        rw [rs_t_do]
        show (rs_t (ru_come e s) ++ [_]).length = _
        rw [ld_len, rs_t_come]
      by_cases h0 : (ru_do e (ru_top e (ru_come e s)) (ru_pre (ru_come e s))).2 = 0
      · rw [if_pos h0]
        obtain ⟨i1, i2, i3⟩ := ru_loop_ok he n _ hdo
        exact ⟨i1, by omega, i3⟩
      · rw [if_neg h0]
        obtain ⟨d1, d2⟩ := ru_do_2 e (ru_top e (ru_come e s)) (ru_pre (ru_come e s))
        refine ⟨hdo, ?_, ?_, fun ha => ?_⟩
        · show (rs_t (ru_do e (ru_top e (ru_come e s)) (ru_pre (ru_come e s))).1).length ≤ _
          omega
        · show (ru_do e (ru_top e (ru_come e s)) (ru_pre (ru_come e s))).2 - 1 ≤ 4
          omega
        · show (ru_do e (ru_top e (ru_come e s)) (ru_pre (ru_come e s))).2 - 1 ≤ 3
          have := d2 ha
          omega
    · rw [if_neg hi]
      refine ⟨ru_come_ok he hk, ?_, by show 0 ≤ 4; decide, fun _ => by show 0 ≤ 3; decide⟩
      show (rs_t (ru_come e s)).length ≤ _
      rw [rs_t_come]; omega
theorem ru_init_ok {e : en_T} {r : Nat} : rs_ok e r (ru_init r) := ⟨rfl, fun j hj => absurd hj (Nat.not_lt_zero j), fun j hj => Nat.zero_le _, Nat.zero_le _, Nat.zero_le _, (show 0 < 65536 by decide), Nat.zero_le _⟩
theorem ru_run_ok {e : en_T} {r fu : Nat} (he : en_ok e r) : rs_ok e r (ru_run e r fu).1 ∧ (rs_t (ru_run e r fu).1).length ≤ fu ∧ (ru_run e r fu).2 ≤ 4 ∧ (en_am e = none → (ru_run e r fu).2 ≤ 3) := by
  obtain ⟨i1, i2, i3⟩ := ru_loop_ok he fu (ru_init r) ru_init_ok
  exact ⟨i1, by have e1 : (rs_t (ru_init r)).length = 0 := rfl; rw [e1] at i2; exact Nat.le_trans i2 (by omega), i3⟩
theorem rr_ok {P : ps_T} {r lo k : Nat} (hP : ps_ok P) (hr : r < (ps_p P).length) (hlo : lo < 65536) : (rs_o (rr_ (ps_p P) (ps_t P) (ps_f P) r lo k).1).length ≤ 8 ∧ (rs_t (rr_ (ps_p P) (ps_t P) (ps_f P) r lo k).1).length ≤ 300 ∧ (rr_ (ps_p P) (ps_t P) (ps_f P) r lo k).2 ≤ 3 ∧ rs_m (rr_ (ps_p P) (ps_t P) (ps_f P) r lo k).1 < 65536 := by
  obtain ⟨i1, i2, i3, i4⟩ := ru_run_ok (fu := ps_f P) (en_of_ok (k := k) (am := none) hP.1 hP.2.1 hr (hP.1.2.2 r) (px_ok hP hr) hlo)
  exact ⟨i1.2.2.2.1, Nat.le_trans i2 hP.2.2.1, i4 rfl, i1.2.2.2.2.2.1⟩
/-! the answers -/
def an_lines (P : ps_T) (a : Int32) : Int32 := match ix_ (ps_p P).length a with
  | none => -1
  | some r => nI (px_at (ps_p P) r).length
def an_line (P : ps_T) (a b w : Int32) : Int32 := match ix2_ P id a b with
  | none => -1
  | some (r, i) => if w = nI 0 then ln_or (ln_at (px_at (ps_p P) r) i) else if w = nI 1 then ln_tk (ln_at (px_at (ps_p P) r) i) else if w = nI 2 ∧ (ln_or (ln_at (px_at (ps_p P) r) i) = nI 6 ∨ ln_or (ln_at (px_at (ps_p P) r) i) = nI 7) then
      (if ru_find (ln_lb (ln_at (px_at (ps_p P) r) i)) 0 (px_at (ps_p P) r) < (px_at (ps_p P) r).length then nI (ru_find (ln_lb (ln_at (px_at (ps_p P) r) i)) 0 (px_at (ps_p P) r)) else -2) else -1
def an_run (P : ps_T) (a b c : Int32) : Int32 := match ix3_ P a b c with
  | none => -1
  | some (r, lo, k) => nI (rr_ (ps_p P) (ps_t P) (ps_f P) r lo k).2
def an_after (P : ps_T) (a b c w : Int32) : Int32 := match ix3_ P a b c, ix_ 6 w with
  | some (r, lo, k), some i => if i = 0 then nI (rs_o (rr_ (ps_p P) (ps_t P) (ps_f P) r lo k).1).length else if i = 1 then nI (rs_t (rr_ (ps_p P) (ps_t P) (ps_f P) r lo k).1).length else rs_c (rr_ (ps_p P) (ps_t P) (ps_f P) r lo k).1 (i - 2)
  | _, _ => -1
def an_out (P : ps_T) (a b c w : Int32) : Int32 := match ix3_ P a b c with
  | none => -2147483648
  | some (r, lo, k) => match ix_ (rs_o (rr_ (ps_p P) (ps_t P) (ps_f P) r lo k).1).length w with
    | none => -2147483648
    | some i => (rs_o (rr_ (ps_p P) (ps_t P) (ps_f P) r lo k).1).getD i (nI 0)
def an_step (P : ps_T) (a b c w : Int32) : Int32 := match ix3_ P a b c with
  | none => -1
  | some (r, lo, k) => match ix_ (rs_t (rr_ (ps_p P) (ps_t P) (ps_f P) r lo k).1).length w with
    | none => -1
    | some i => nI (ru_code r ((rs_t (rr_ (ps_p P) (ps_t P) (ps_f P) r lo k).1).getD i (0, 0)))
/-! the component answers -/
theorem c_place {l : Launch} {κ : mm_K} {d : Nat} {G : mm_G} {K : Int32 → mm_G → Prop} {P : ps_T} (hC : cB_ G P) (h : K (ps_c P) G) : mC l κ true d 0 0 m_X12_place [.ref 0] G (rI K) := e_X12_place (by rw [hC.2.2.2.2.2.1]; exact h)
theorem m_place {l : Launch} {κ : mm_K} {d : Nat} {G : mm_G} {K : Int32 → mm_G → Prop} {P : ps_T} {a : Nat} (hM : mB_ G P a) (h : K (ps_c P) G) : mC l κ true d 0 0 m_X13_place [.ref 226] G (rI K) := e_X13_place (by rw [hM.2.2.2.2.2.2.2.1]; exact h)
theorem c_lines {l : Launch} {κ : mm_K} {d : Nat} {G : mm_G} {K : Int32 → mm_G → Prop} {P : ps_T} (a : Int32) (hP : ps_ok P) (hC : cB_ G P) (h : K (an_lines P a) G) : mC l κ true (d + 1) 0 0 m_X12_lines [.ref 0, .int a] G (rI K) := by
  have hp := hP.1.1
  refine e_X12_lines a (s_hasRow a hC.1.1 hp (fun e => ⟨fun _ => ?_, fun q => absurd (by decide) q⟩) (fun r e hr ea => ⟨fun q => absurd q (by decide), fun _ => ?_⟩))
  · unfold an_lines at h; rw [e] at h; exact h
  · unfold an_lines at h
    rw [e] at h
    rw [ea, nI_clamp (by omega), (hC.1.2.1 r hr).1]
    exact ⟨(ki_vp (by omega)).2 (by omega), h⟩
theorem m_lines {l : Launch} {κ : mm_K} {d : Nat} {G : mm_G} {K : Int32 → mm_G → Prop} {P : ps_T} {m : Nat} (a : Int32) (hP : ps_ok P) (hM : mB_ G P m) (h : K (an_lines P a) G) : mC l κ true (d + 2) 0 0 m_X13_lines [.ref 226, .int a] G (rI K) := by
  have hp := hP.1.1
  refine e_X13_lines a (t_isRow a hP hM (fun e => ⟨fun _ => ?_, fun q => absurd (by decide) q⟩) (fun r e hr ea => ⟨fun q => absurd q (by decide), fun _ => ?_⟩))
  · unfold an_lines at h; rw [e] at h; exact h
  · unfold an_lines at h
    rw [e] at h
    subst ea
    exact t_lines hP hM hr h
theorem c_line {l : Launch} {κ : mm_K} {d : Nat} {G : mm_G} {K : Int32 → mm_G → Prop} {P : ps_T} (a b w : Int32) (hP : ps_ok P) (hC : cB_ G P) (h : K (an_line P a b w) G) : mC l κ true (d + 2) 0 0 m_X12_line [.ref 0, .int a, .int b, .int w] G (rI K) := by
  have hp := hP.1.1
  refine e_X12_line a b w (s_hasLine a b hP hC (fun e => ⟨fun q => absurd (by decide) q, fun _ => ?_⟩) (fun r i e hr ea hi ei => ⟨fun _ => ?_, fun q => absurd q (by decide)⟩))
  · unfold an_line at h; rw [e] at h; exact h
  · unfold an_line at h
    rw [e] at h
    have hro := hC.1.2.1 r hr
    have hlen := hro.2.1
    obtain ⟨t, t1, t2, t3, t4⟩ := hro.2.2 i hi
    have t1 : mg_r G (54 + 2 * r + 1) i = some t := t1
    subst ea ei
    rw [nI_clamp (by omega), nI_clamp (by omega)]
    have hwh : mC l κ true (d + 1) 0 0 m_X6_where [.ref (54 + 2 * r), .long (mg_l G t 9), .int (nI 0)] G (rI (fun r7 G8 => ((0 ≤ r7 → K r7 G8) ∧ (¬ 0 ≤ r7 → K (-2) G8)))) ∨ ¬ (w = nI 2 ∧ (ln_or (ln_at (px_at (ps_p P) r) i) = nI 6 ∨ ln_or (ln_at (px_at (ps_p P) r) i) = nI 7)) := by
      by_cases c2 : w = nI 2 ∧ (ln_or (ln_at (px_at (ps_p P) r) i) = nI 6 ∨ ln_or (ln_at (px_at (ps_p P) r) i) = nI 7)
      · left
        have eL : mg_l G t 9 = ln_lb (ln_at (px_at (ps_p P) r) i) := by
          rcases c2.2 with z | z
          · exact (rd_6 t4 z).symm
          · exact (rd_7 t4 z).2.2.2.symm
        rw [eL]
        simp only [] at h
        rw [if_neg (by rw [c2.1]; decide), if_neg (by rw [c2.1]; decide), if_pos c2] at h
        refine s_where _ (rc_row (rc_54 (by omega))) hro (by decide) ?_
        split
        · rename_i c3
          rw [if_pos c3] at h
          exact ⟨fun _ => h, fun q => absurd (nI_pos' (by omega)) q⟩
        · rename_i c3
          rw [if_neg c3] at h
          exact ⟨fun q => absurd q (by decide), fun _ => h⟩
      · exact Or.inr c2
    refine ⟨(ki_vp (by omega)).2 (by omega), (ki_vp (by omega)).2 (by omega), t, t1, ln_At t2, ?_⟩
    rw [rd_or t4, ki_0]
    have et : mg_i G t 2 = ln_tk (ln_at (px_at (ps_p P) r) i) := by rw [← t4]; rfl
    rw [et]
    have hvp : vp_in (nI r) 4 := (ki_vp (by omega)).2 (by omega)
    refine ⟨fun z0 => ⟨fun z1 => ⟨fun z2 => ?_, fun z2 => ⟨fun z3 => ⟨hvp, ?_⟩, fun z3 => ⟨fun z4 => ⟨hvp, ?_⟩, fun z4 => ?_⟩⟩⟩, fun z1 => ?_⟩, fun z0 => ?_⟩
    · simp only [] at h
      rw [if_neg z0, if_neg z1, if_neg (fun y => z2 y.1)] at h; exact h
    · rcases hwh with y | y
      · exact y
      · exact absurd ⟨z2, Or.inl z3⟩ y
    · rcases hwh with y | y
      · exact y
      · exact absurd ⟨z2, Or.inr z4⟩ y
    · simp only [] at h
      rw [if_neg z0, if_neg z1, if_neg (fun y => y.2.elim z3 z4)] at h; exact h
    · simp only [] at h
      rw [if_neg z0, if_pos z1] at h; exact h
    · simp only [] at h
      rw [if_pos z0] at h; exact h
theorem t_firstWith {l : Launch} {κ : mm_K} {d : Nat} {G : mm_G} {K : Int32 → mm_G → Prop} {a r : Nat} {ls : List ln_T} (lb : Int64) (ha : 4 * a + r < 20) (hr : r < 4) (hn : mg_i G 236 (4 * a + r) = nI ls.length) (hl : ls.length ≤ 16) (hx : ∀ i, i < ls.length → mg_l G 246 (64 * a + 16 * r + i) = ln_nm (ln_at ls i)) (h : K (if ru_find lb 0 ls < ls.length then nI (ru_find lb 0 ls) else -1) G) : mC l κ true d 0 0 m_X13_firstWith [.ref 226, .int (nI a), .int (nI r), .long lb] G (rI K) := by
  refine e_X13_firstWith _ _ _ ?_
  suffices H : ∀ n i, i + n = ls.length → (∀ k, k < i → (decide (ln_nm (ln_at ls k) = lb) && !Nat.testBit 0 k) = false) → mV l κ true d 0 0 m_X13_firstWith 3 [some (.ref 226), some (.int (nI a)), some (.int (nI r)), some (.long lb), none, some (.int (nI i))] [] G (rI K) from H ls.length 0 (Nat.zero_add _) (fun k hk => absurd hk (Nat.not_lt_zero k))
  intro n
  induction n with
  | zero =>
    intro i hi hp
    refine p_X13_firstWith_3 _ _ _ _ ?_
    rw [ki_mul, nI_add, nI_clamp (by omega), hn]
    refine ⟨(ki_vp (by omega)).2 ha, fun _ => ?_, fun q => absurd (nI_le (by omega) (by omega)) q⟩
    have e : ru_find lb 0 ls = ls.length := ff_no (fun k hk => hp k (by omega))
    rw [e, if_neg (Nat.lt_irrefl _)] at h
    exact h
  | succ n ih =>
    intro i hi hp
    refine p_X13_firstWith_3 _ _ _ _ ?_
    rw [ki_mul, nI_add, nI_clamp (by omega), hn, ki_mul, ki_mul, nI_add, nI_add, nI_clamp (by omega), hx i (by omega), ki_0, ki_cmp]
    refine ⟨(ki_vp (by omega)).2 ha, fun q => absurd q (nI_ge (by omega) (by omega)), fun _ => ⟨(ki_vp (by omega)).2 (by omega), fun q => ?_, fun q => ?_⟩⟩
    · rw [nI_add]
      refine ih (i + 1) (by omega) (fun k hk => ?_)
      rcases Nat.lt_succ_iff_lt_or_eq.mp hk with hk | hk
      · exact hp k hk
      · subst hk; rw [decide_eq_false q]; rfl
    · have e : ru_find lb 0 ls = i := ff_at hp (by rw [decide_eq_true q, Nat.zero_testBit]; rfl) (by omega)
      rw [e, if_pos (by omega)] at h
      exact h
