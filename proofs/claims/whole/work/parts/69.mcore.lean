/-! core: the reference; soonest -/
theorem not_all {L k : Nat} (hL : L ≤ 16) (hk : k < 2 ^ L) : nI (2 ^ L - 1) &&& (nI k ^^^ (-1)) = nI ((2 ^ L - 1) ^^^ k) := by
  have e1 : (-1 : Int32) = nI (2 ^ 32 - 1) := by decide +kernel
  rw [e1, nx_xor, fa_and]
  congr 1
  apply Nat.eq_of_testBit_eq
  intro i
  rw [Nat.testBit_and, Nat.testBit_xor, Nat.testBit_xor, Nat.testBit_two_pow_sub_one, Nat.testBit_two_pow_sub_one]
  by_cases c : i < L
  · rw [decide_eq_true c, decide_eq_true (p := i < 32) (by omega)]
    cases k.testBit i <;> rfl
  · rw [decide_eq_false c, Nat.testBit_lt_two_pow (Nat.lt_of_lt_of_le hk (Nat.pow_le_pow_right (by decide) (by omega)))]
    simp
theorem m_core {l : Launch} {κ : mm_K} {d : Nat} {G : mm_G} {K : Int32 → mm_G → Prop} {P : ps_T} {m : Nat} (a b : Int32) (hP : ps_ok P) (hM : mB_ G P m) (h : ∀ x G', fr_ fB_ G G' → sgc_ P a b x → K x G') : mC l κ true (d + 8) 0 0 m_X13_core [.ref 226, .int a, .int b] G (rI K) := by
  unfold sgc_ at h
  refine e_X13_core a b (t_isRow a hP hM (fun e => ⟨fun _ => ?_, fun q => absurd (by decide) q⟩) (fun r e hr ea => ⟨fun q => absurd q (by decide), fun _ => ?_⟩))
  · rw [e] at h; exact h _ G fr_.rfl' rfl
  · rw [e] at h
    subst ea
    refine t_in (n := 2) b (by decide) (by decide) (fun e2 => ⟨fun q => absurd (by decide) q, fun _ => ?_⟩) (fun w e2 hw ew => ⟨fun _ => t_short hP hM hr ?_, fun q => absurd q (by decide)⟩)
    · rw [e2] at h; exact h _ G fr_.rfl' rfl
    · rw [e2] at h
      subst ew
      simp only [] at h
      by_cases c : (px_at (ps_p P) r).length ≤ 12
      · simp only [if_pos c] at h ⊢
        have hpow : 2 ^ (px_at (ps_p P) r).length ≤ 4096 := Nat.pow_le_pow_right (n := 2) (by decide) c
        have hpos := Nat.two_pow_pos (px_at (ps_p P) r).length
        refine ⟨fun _ => t_fillSets hP hM hr c (fun G2 k2 f2 => t_lines hP (hM.fB f2) hr ?_), fun q => absurd q (by decide)⟩
        rw [ki_shl _ (by omega), ki_sub (by omega)]
        -- what holds of every set
        have hcell : ∀ k, k < 2 ^ (px_at (ps_p P) r).length → (2 ^ (px_at (ps_p P) r).length - 1) ^^^ k < 2 ^ (px_at (ps_p P) r).length ∧ mg_i G2 265 ((2 ^ (px_at (ps_p P) r).length - 1) ^^^ k) = (if sm_ P r ((2 ^ (px_at (ps_p P) r).length - 1) ^^^ k) then nI 1 else nI 0) := by
          intro k hk
          have hx : (2 ^ (px_at (ps_p P) r).length - 1) ^^^ k < 2 ^ (px_at (ps_p P) r).length := Nat.xor_lt_two_pow (by omega) hk
          exact ⟨hx, (k2 _ hx).1⟩
        -- then the smallest of as many
        have hdown : ∀ n best x, x + nI 1 = nI n → n ≤ 2 ^ (px_at (ps_p P) r).length → best < 2 ^ (px_at (ps_p P) r).length → sm_ P r ((2 ^ (px_at (ps_p P) r).length - 1) ^^^ best) = true → (∀ y, y < 2 ^ (px_at (ps_p P) r).length → sm_ P r ((2 ^ (px_at (ps_p P) r).length - 1) ^^^ y) = true → pc_ best ≤ pc_ y) → (∀ y, y < 2 ^ (px_at (ps_p P) r).length → sm_ P r ((2 ^ (px_at (ps_p P) r).length - 1) ^^^ y) = true → pc_ y = pc_ best → n ≤ y → best ≤ y) → mV l κ true (d + 8) 0 0 m_X13_core 100 [some (.ref 226), some (.int (nI r)), some (.int (nI w)), some (.int (nI (2 ^ (px_at (ps_p P) r).length - 1))), some (.int (nI best)), some (.int x)] [] G2 (rI K) := by
          intro n
          induction n with
          | zero =>
            intro best x hx hn hb hsm hmin hleast
            have hx1 : x.toInt = ((0 : Nat) : Int) - 1 := ki_q hx (by omega)
            have e0 : (0 : Int32).toInt = 0 := by decide
            have hlt : x < 0 := by rw [fa_lt]; omega
            have hC : isC_ P r best := ⟨hb, hsm, fun y hy hs => by
              have h1 := hmin y hy hs
              rcases Nat.lt_or_eq_of_le h1 with q | q
              · exact Or.inl q
              · exact Or.inr ⟨q, hleast y hy hs q.symm (Nat.zero_le _)⟩⟩
            refine p_X13_core_100 _ _ _ _ _ ⟨fun _ => ?_, fun z => absurd hlt z⟩
            rw [ki_0, nI_eq (by omega) (by omega)]
            exact ⟨fun z => h _ G2 f2 ⟨best, hC, by rw [if_neg z]⟩, fun z => t_bits (by omega) (h _ G2 f2 ⟨best, hC, by rw [if_pos z]⟩)⟩
          | succ n ih =>
            intro best x hx hn hb hsm hmin hleast
            have ex : x = nI n := by
              have : x + nI 1 = nI n + nI 1 := by rw [hx, nI_add]
              have h2 := congrArg (fun z => z - nI 1) this
              simp only [Int32.add_sub_cancel] at h2
              exact h2
            subst ex
            obtain ⟨hc1, hc2⟩ := hcell n (by omega)
            have hpn := pc_le (n := n) (m := (px_at (ps_p P) r).length) (by omega) (by omega)
            have hpb := pc_le hb (by omega)
            have hm1 : nI n + (-1) + nI 1 = nI n := by rw [Int32.add_assoc, show (-1 : Int32) + nI 1 = 0 by decide, Int32.add_zero]
            have hstay : (sm_ P r ((2 ^ (px_at (ps_p P) r).length - 1) ^^^ n) = true → pc_ n ≠ pc_ best) → mV l κ true (d + 8) 0 0 m_X13_core 100 [some (.ref 226), some (.int (nI r)), some (.int (nI w)), some (.int (nI (2 ^ (px_at (ps_p P) r).length - 1))), some (.int (nI best)), some (.int (nI n + (-1)))] [] G2 (rI K) := by
              intro hno
              refine ih best _ hm1 (by omega) hb hsm hmin (fun y hy hs he hny => ?_)
              rcases Nat.lt_or_eq_of_le hny with q | q
              · exact hleast y hy hs he (by omega)
              · subst q; exact absurd he (hno hs)
            refine p_X13_core_100 _ _ _ _ _ ⟨fun z => ?_, fun _ => ?_⟩
            · rw [ki_0, nI_ltI (by omega) (by omega)] at z; omega
            · rw [not_all (by omega) (by omega), nI_clamp (by omega), hc2]
              refine ⟨(ki_vp (by omega)).2 (by omega), fun z => hstay (fun q => ?_), fun z => t_bits (by omega) (t_bits (by omega) ?_)⟩
              · rw [q] at z; exact absurd z (by decide)
              · rw [nI_eq (by omega) (by omega)]
                have hs : sm_ P r ((2 ^ (px_at (ps_p P) r).length - 1) ^^^ n) = true := by
                  cases c2 : sm_ P r ((2 ^ (px_at (ps_p P) r).length - 1) ^^^ n) with
                  | true => rfl
                  | false => rw [c2] at z; exact absurd rfl z
                refine ⟨fun q => hstay (fun _ => q), fun q => ih n _ hm1 (by omega) (by omega) hs (fun y hy h1 => by rw [q]; exact hmin y hy h1) (fun y hy h1 h2 h3 => h3)⟩
        -- first the fewest
        suffices H : ∀ n k best, k + n = 2 ^ (px_at (ps_p P) r).length → best < 2 ^ (px_at (ps_p P) r).length → sm_ P r ((2 ^ (px_at (ps_p P) r).length - 1) ^^^ best) = true → (∀ y, y < k → sm_ P r ((2 ^ (px_at (ps_p P) r).length - 1) ^^^ y) = true → pc_ best ≤ pc_ y) → mV l κ true (d + 8) 0 0 m_X13_core 51 [some (.ref 226), some (.int (nI r)), some (.int (nI w)), some (.int (nI (2 ^ (px_at (ps_p P) r).length - 1))), some (.int (nI best)), some (.int (nI k))] [] G2 (rI K) from
          H _ 0 _ (Nat.zero_add _) (by omega) (by rw [Nat.xor_self]; exact sm_0 P r) (fun y hy => absurd hy (Nat.not_lt_zero y))
        intro n
        induction n with
        | zero =>
          intro k best hk hb hsm hmin
          refine p_X13_core_51 _ _ _ _ _ ⟨fun _ => ?_, fun z => absurd (nI_lt (by omega) (by omega)) z⟩
          exact hdown best best _ (Int32.sub_add_cancel _ _) (by omega) hb hsm (fun y hy => hmin y (by omega)) (fun y _ _ _ h3 => h3)
        | succ n ih =>
          intro k best hk hb hsm hmin
          obtain ⟨hc1, hc2⟩ := hcell k (by omega)
          have hpn := pc_le (n := k) (m := (px_at (ps_p P) r).length) (by omega) (by omega)
          have hpb := pc_le hb (by omega)
          have hstay : (sm_ P r ((2 ^ (px_at (ps_p P) r).length - 1) ^^^ k) = true → pc_ best ≤ pc_ k) → mV l κ true (d + 8) 0 0 m_X13_core 51 [some (.ref 226), some (.int (nI r)), some (.int (nI w)), some (.int (nI (2 ^ (px_at (ps_p P) r).length - 1))), some (.int (nI best)), some (.int (nI (k + 1)))] [] G2 (rI K) := by
            intro hno
            refine ih (k + 1) best (by omega) hb hsm (fun y hy hs => ?_)
            rcases Nat.lt_succ_iff_lt_or_eq.mp hy with q | q
            · exact hmin y q hs
            · subst q; exact hno hs
          refine p_X13_core_51 _ _ _ _ _ ⟨fun z => absurd z (nI_nlt (by omega) (by omega)), fun _ => ?_⟩
          rw [not_all (by omega) (by omega), nI_clamp (by omega), hc2, nI_add]
          refine ⟨(ki_vp (by omega)).2 (by omega), fun z => hstay (fun q => ?_), fun z => t_bits (by omega) (t_bits (by omega) ?_)⟩
          · rw [q] at z; exact absurd z (by decide)
          · rw [nI_leI (by omega) (by omega)]
            have hs : sm_ P r ((2 ^ (px_at (ps_p P) r).length - 1) ^^^ k) = true := by
              cases c2 : sm_ P r ((2 ^ (px_at (ps_p P) r).length - 1) ^^^ k) with
              | true => rfl
              | false => rw [c2] at z; exact absurd rfl z
            refine ⟨fun q => hstay (fun _ => q), fun q => ih (k + 1) k (by omega) (by omega) hs (fun y hy h1 => ?_)⟩
            rcases Nat.lt_succ_iff_lt_or_eq.mp hy with q2 | q2
            · have := hmin y q2 h1
              omega
            · rw [q2]; exact Nat.le_refl _
      · simp only [if_neg c] at h ⊢
        exact ⟨fun q => absurd (by decide) q, fun _ => h _ G fr_.rfl' rfl⟩
