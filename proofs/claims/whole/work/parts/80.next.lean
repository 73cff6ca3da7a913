/-! next: the component -/
def isN_ (P : ps_T) (r n k : Nat) (x : Int32) : Prop := (((nw_ P r n k).length = 0 ∨ (ps_t P).length = 0) ∧ x = -2) ∨ ((nw_ P r n k).length ≠ 0 ∧ ∃ (b : Nat) (v : Nat → Nat), b < (ps_t P).length ∧ x = nI b ∧ (∀ u, u < (ps_t P).length → isG_ P r n u (nw_ P r n k) (v u) (nw_ P r n k).length) ∧ (∀ u, u < (ps_t P).length → v b ≤ v u) ∧ ∀ u, u < b → v b < v u)
theorem fr_.eU {G G1 : mm_G} (h : fr_ f8_ G G1) : fr_ fU_ G G1 := h.toU (fun c k _ h2 => f8_F (by omega))
theorem s_bestTrial {l : Launch} {κ : mm_K} {d : Nat} {G : mm_G} {K : Int32 → mm_G → Prop} {P : ps_T} {r n k : Nat} (hP : ps_ok P) (hC : cB_ G P) (hU : cU_ G P) (hr : r < (ps_p P).length) (hn : n ≤ 2) (hk : k ≤ (ps_n P).2.length) (hs : k ≠ 0 → (ps_n P).1 = r)
    (h : ∀ G' x, cU_ G' P → fr_ fU_ G G' → isN_ P r n k x → K x G') : mC l κ true (d + 5) 0 0 m_X9_bestTrial [.ref 175, .int (nI r), .int (nI n), .int (nI k)] G (rI K) := by
  have ht8 := hP.2.1.1
  refine e_X9_bestTrial _ _ _ (s_narrow hP hC hU hr hn hk hs (fun G2 k2 l2 f2 => ?_))
  have hx := l2.2.1
  rw [ki_0, nI_eq (by omega) (by omega)]
  refine ⟨fun z => ?_, fun z => h G2 _ (k2.cU hr hn) f2 (Or.inl ⟨Or.inl z, rfl⟩)⟩
  suffices H : ∀ w t G3 (v : Nat → Nat) best least, t + w = (ps_t P).length → kU_ G3 P r n → lft_ G3 (nw_ P r n k) (sL_ P r n).length → fr_ fU_ G G3 → (∀ u, u < t → isG_ P r n u (nw_ P r n k) (v u) (nw_ P r n k).length) → ((t = 0 ∧ best = -2 ∧ least = 121) ∨ ∃ b, b < t ∧ best = nI b ∧ least = v b ∧ (∀ u, u < t → v b ≤ v u) ∧ ∀ u, u < b → v b < v u) → mV l κ true (d + 5) 0 0 m_X9_bestTrial 24 [some (.ref 175), some (.int (nI r)), some (.int (nI n)), some (.int (nI k)), some (.int best), some (.int (nI least)), some (.int (nI t)), none] [] G3 (rI K) from
    H _ 0 G2 (fun _ => 0) (-2) 121 (Nat.zero_add _) k2 l2 f2 (fun u hu => absurd hu (Nat.not_lt_zero u)) (Or.inl ⟨rfl, rfl, rfl⟩)
  intro w
  induction w with
  | zero =>
    intro t G3 v best least hw k3 l3 f3 hv hb
    have hC3 := hC.fU hP f3
    have e4 : mg_i G3 62 4 = nI (ps_t P).length := hC3.2.1.1
    refine p_X9_bestTrial_24 _ _ _ _ _ _ ⟨fun _ => h G3 best (k3.cU hr hn) f3 ?_, fun y => absurd (by rw [e4]; exact nI_le (by omega) (by omega)) y⟩
    rcases hb with ⟨b1, b2, b3⟩ | ⟨b, b1, b2, b3, b4, b5⟩
    · exact Or.inl ⟨Or.inr (by omega), b2⟩
    · exact Or.inr ⟨z, b, v, by omega, b2, fun u hu => hv u (by omega), fun u hu => b4 u (by omega), b5⟩
  | succ w ih =>
    intro t G3 v best least hw k3 l3 f3 hv hb
    have hC3 := hC.fU hP f3
    have e4 : mg_i G3 62 4 = nI (ps_t P).length := hC3.2.1.1
    refine p_X9_bestTrial_24 _ _ _ _ _ _ ⟨fun y => absurd y (by rw [e4]; exact nI_ge (by omega) (by omega)), fun _ => ?_⟩
    refine s_group (d := d + 1) hP hC3 hr hn k3 (by omega) (fun G4 k4 g4 e5 f4 => ?_)
    have l4 : lft_ G4 (nw_ P r n k) (sL_ P r n).length := l3.fr f4 (fG_F (by omega)) (fun k => fG_F (by omega))
    refine s_greatest (d := d + 3) hP hn (by omega) k4 g4 l4 (fun G5 x hG f5 => ?_)
    have k5 : kU_ G5 P r n := k4.fr hP hr f5 (fun k _ => f8_F (by omega)) (fun c k hc => f8_F (by omega))
    have l5 : lft_ G5 (nw_ P r n k) (sL_ P r n).length := l4.fr f5 (f8_F (by omega)) (fun k => f8_F (by omega))
    have f35 := (f3.trans f4.GU).trans f5.eU
    have hxl := hG.1
    have hv2 : ∀ u, u < t + 1 → isG_ P r n u (nw_ P r n k) (ru_up v t x u) (nw_ P r n k).length := by
      intro u hu
      rcases Nat.lt_succ_iff_lt_or_eq.mp hu with y | y
      · rw [ru_up_ne _ _ (by omega)]; exact hv u y
      · subst y; rw [ru_up_eq]; exact hG
    have hll : least ≤ 121 := by
      rcases hb with ⟨b1, b2, b3⟩ | ⟨b, b1, b2, b3, b4, b5⟩
      · omega
      · have := (hv b b1).1
        omega
    rw [nI_add, nI_leI (by omega) (by omega)]
    refine ⟨fun y => ?_, fun y => ?_⟩
    · refine ih (t + 1) G5 (ru_up v t x) best least (by omega) k5 l5 f35 hv2 ?_
      rcases hb with ⟨b1, b2, b3⟩ | ⟨b, b1, b2, b3, b4, b5⟩
      · omega
      · refine Or.inr ⟨b, by omega, b2, by rw [ru_up_ne _ _ (by omega)]; exact b3, fun u hu => ?_, fun u hu => ?_⟩
        · rw [ru_up_ne v x (show b ≠ t by omega)]
          rcases Nat.lt_succ_iff_lt_or_eq.mp hu with q | q
          · rw [ru_up_ne _ _ (by omega)]; exact b4 u q
          · subst q; rw [ru_up_eq]; omega
        · rw [ru_up_ne v x (show b ≠ t by omega), ru_up_ne v x (show u ≠ t by omega)]; exact b5 u hu
    · refine ih (t + 1) G5 (ru_up v t x) (nI t) x (by omega) k5 l5 f35 hv2 (Or.inr ⟨t, by omega, rfl, by rw [ru_up_eq], fun u hu => ?_, fun u hu => ?_⟩)
      · rw [ru_up_eq]
        rcases Nat.lt_succ_iff_lt_or_eq.mp hu with q | q
        · rw [ru_up_ne _ _ (by omega)]
          rcases hb with ⟨b1, b2, b3⟩ | ⟨b, b1, b2, b3, b4, b5⟩
          · omega
          · have := b4 u q; omega
        · subst q; rw [ru_up_eq]; exact Nat.le_refl _
      · rw [ru_up_eq, ru_up_ne v x (show u ≠ t by omega)]
        rcases hb with ⟨b1, b2, b3⟩ | ⟨b, b1, b2, b3, b4, b5⟩
        · omega
        · have := b4 u hu; omega
