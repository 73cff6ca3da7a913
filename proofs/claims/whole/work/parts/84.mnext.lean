/-! next: the reference -/
def fmx_ (f : Nat → Nat) : Nat → Nat
  | 0 => 0
  | n + 1 => if fmx_ f n < f n then f n else fmx_ f n
theorem fmx_le {f : Nat → Nat} : ∀ n i, i < n → f i ≤ fmx_ f n
  | 0, i, h => absurd h (Nat.not_lt_zero i)
  | n + 1, i, h => by
    unfold fmx_
    rcases Nat.lt_succ_iff_lt_or_eq.mp h with c | c
    · have := fmx_le (f := f) n i c
      split <;> omega
    · subst c
      split <;> omega
theorem fmx_at {f : Nat → Nat} : ∀ n, n ≠ 0 → ∃ i, i < n ∧ f i = fmx_ f n
  | 0, h => absurd rfl h
  | n + 1, _ => by
    unfold fmx_
    by_cases c : fmx_ f n < f n
    · rw [if_pos c]; exact ⟨n, by omega, rfl⟩
    · rw [if_neg c]
      by_cases n0 : n = 0
      · subst n0
        refine ⟨0, by omega, ?_⟩
        have : fmx_ f 0 = 0 := rfl
        omega
      · obtain ⟨i, i1, i2⟩ := fmx_at (f := f) n n0
        exact ⟨i, by omega, i2⟩
def vm_ (P : ps_T) (r t : Nat) (S : List Nat) : Nat := fmx_ (cn_ P r t S) S.length
theorem vm_M (P : ps_T) (r t : Nat) (S : List Nat) : isM_ P r t S (vm_ P r t S) := ⟨fun i hi => fmx_le _ i hi, fun h => fmx_at _ h⟩
theorem gq_same {P : ps_T} {r t a b : Nat} {S : List Nat} : gq_ P r t S a = gq_ P r t S b ↔ oD_ P r t (S.getD a 0) = oD_ P r t (S.getD b 0) := by
  have hrep : ∀ c, oD_ P r t (S.getD (gq_ P r t S c) 0) = oD_ P r t (S.getD c 0) := by
    intro c
    have hle : gq_ P r t S c ≤ c := fa_first_le _ _
    rcases Nat.lt_or_eq_of_le hle with y | y
    · exact of_decide_eq_true (fa_first_yes (fun j => decide (oD_ P r t (S.getD j 0) = oD_ P r t (S.getD c 0))) c y)
    · rw [y]
  constructor
  · intro e
    rw [← hrep a, e, hrep b]
  · intro e
    have key : ∀ a b, oD_ P r t (S.getD a 0) = oD_ P r t (S.getD b 0) → gq_ P r t S a ≤ gq_ P r t S b := by
      intro a b e
      rcases Nat.lt_or_ge (gq_ P r t S b) (gq_ P r t S a) with y | y
      · have hn := fa_first_no (fun j => decide (oD_ P r t (S.getD j 0) = oD_ P r t (S.getD a 0))) a (gq_ P r t S b) y
        rw [decide_eq_true (by rw [hrep b, e])] at hn
        cases hn
      · exact y
    have := key a b e
    have := key b a e.symm
    omega
def qc_ (P : ps_T) (r t : Nat) (S : List Nat) (g i : Nat) : Nat := fb_ct (fun j => decide (gq_ P r t S j = g)) i
theorem cn_qc {P : ps_T} {r t i : Nat} {S : List Nat} : cn_ P r t S i = qc_ P r t S (gq_ P r t S i) S.length := fb_ct_cong (fun _ _ => decide_eq_decide.2 gq_same.symm)
theorem t_greatest {l : Launch} {κ : mm_K} {d : Nat} {G : mm_G} {K : Int32 → mm_G → Prop} {P : ps_T} {r t : Nat} {S : List Nat} (ht : t < 8) (hS : S.length ≤ 120) (h0 : S.length ≠ 0) (hR : sR_ G S) (hg : mGr_ G P r S t S.length) (h : K (nI (vm_ P r t S)) G) : mC l κ true d 0 0 m_X13_greatest [.ref 226, .int (nI t)] G (rI K) := by
  refine e_X13_greatest _ ?_
  have hgl : ∀ i, gq_ P r t S i ≤ i := fun i => fa_first_le _ _
  have hqle : ∀ g, qc_ P r t S g S.length ≤ S.length := fun g => fb_ct_le _ _
  suffices H : ∀ m g v, g + m = S.length → v ≤ 120 → (∀ g', g' < g → qc_ P r t S g' S.length ≤ v) → (v = 0 ∨ ∃ g', g' < g ∧ qc_ P r t S g' S.length = v) → mV l κ true d 0 0 m_X13_greatest 4 [some (.ref 226), some (.int (nI t)), some (.int (nI v)), some (.int (nI g)), none, none] [] G (rI K) from
    H _ 0 0 (Nat.zero_add _) (by omega) (fun g' hg => absurd hg (Nat.not_lt_zero g')) (Or.inl rfl)
  intro m
  induction m with
  | zero =>
    intro g v hm hv h1 h2
    obtain rfl : g = S.length := by omega
    refine p_X13_greatest_4 _ _ _ ⟨fun _ => ?_, fun y => absurd (by rw [hR.1]; exact nI_le (by omega) (by omega)) y⟩
    have hself : 0 < cn_ P r t S 0 := by
      unfold cn_
      have h4 : fb_ct (fun j => decide (oD_ P r t (S.getD j 0) = oD_ P r t (S.getD 0 0))) 1 ≤ _ := fb_ct_mono _ (show 1 ≤ S.length by omega)
      rw [fb_ct_succ, decide_eq_true rfl] at h4
      simp only [if_true] at h4
      omega
    have hM : isM_ P r t S v := by
      refine ⟨fun i hi => ?_, fun _ => ?_⟩
      · rw [cn_qc]
        have := hgl i
        exact h1 _ (by omega)
      · have hv0 : 0 < v := by
          have := h1 (gq_ P r t S 0) (by have := hgl 0; omega)
          rw [← cn_qc] at this
          omega
        rcases h2 with z | ⟨g', z1, z2⟩
        · omega
        · rw [← z2] at hv0
          unfold qc_ at hv0
          obtain ⟨i, i1, i2, -⟩ := fb_ct_kth hv0
          have i2 := of_decide_eq_true i2
          exact ⟨i, i1, by rw [cn_qc, i2]; exact z2⟩
    rw [isM_one h0 hM (vm_M P r t S)]
    exact h
  | succ m ih =>
    intro g v hm hv h1 h2
    refine p_X13_greatest_4 _ _ _ ⟨fun y => absurd y (by rw [hR.1]; exact nI_ge (by omega) (by omega)), fun _ => ?_⟩
    suffices H : ∀ e s, s + e = S.length → mV l κ true d 0 0 m_X13_greatest 18 [some (.ref 226), some (.int (nI t)), some (.int (nI v)), some (.int (nI g)), some (.int (nI (qc_ P r t S g s))), some (.int (nI s))] [] G (rI K) from H _ 0 (Nat.zero_add _)
    intro e
    induction e with
    | zero =>
      intro s hs
      obtain rfl : s = S.length := by omega
      have hq := hqle g
      refine p_X13_greatest_18 _ _ _ _ _ ⟨fun _ => ?_, fun y => absurd (by rw [hR.1]; exact nI_le (by omega) (by omega)) y⟩
      rw [nI_leI (by omega) (by omega), nI_add]
      refine ⟨fun y => ih (g + 1) v (by omega) hv (fun g' hg' => ?_) ?_, fun y => ih (g + 1) _ (by omega) (by omega) (fun g' hg' => ?_) (Or.inr ⟨g, by omega, rfl⟩)⟩
      · rcases Nat.lt_succ_iff_lt_or_eq.mp hg' with z | z
        · exact h1 g' z
        · subst z; exact y
      · rcases h2 with z | ⟨g', z1, z2⟩
        · exact Or.inl z
        · exact Or.inr ⟨g', by omega, z2⟩
      · rcases Nat.lt_succ_iff_lt_or_eq.mp hg' with z | z
        · have := h1 g' z; omega
        · subst z; exact Nat.le_refl _
    | succ e ihe =>
      intro s hs
      have hgs := hgl s
      refine p_X13_greatest_18 _ _ _ _ _ ⟨fun y => absurd y (by rw [hR.1]; exact nI_ge (by omega) (by omega)), fun _ => ?_⟩
      rw [ki_mul, nI_add, nI_add, nI_add, nI_clamp (by omega), hg s (by omega), nI_eq (by omega) (by omega)]
      have hh := ihe (s + 1) (by omega)
      have e1 : qc_ P r t S g (s + 1) = qc_ P r t S g s + (if gq_ P r t S s = g then 1 else 0) := by
        unfold qc_
        rw [fb_ct_succ]
        by_cases c : gq_ P r t S s = g
        · rw [if_pos c, decide_eq_true c]; rfl
        · rw [if_neg c, decide_eq_false c]; rfl
      refine ⟨(ki_vp (by omega)).2 (by omega), fun y => ?_, fun y => ?_⟩
      · rw [e1, if_neg y, Nat.add_zero] at hh; exact hh
      · rw [e1, if_pos y] at hh; exact hh
theorem sp_mem {P : ps_T} {r n k i : Nat} (h : i < (sp_ P r n k).length) : (sp_ P r n k).getD i 0 < 2 ^ (px_at (ps_p P) r).length := by
  have := gd_mem h
  rw [sp_sr] at this
  exact (su_mem (List.mem_filter.1 (by unfold sr_ at this; exact this)).1).1 |> (fun q => by rw [sp_sr]; exact q)
theorem vm_le {P : ps_T} {r t : Nat} {S : List Nat} (h0 : S.length ≠ 0) : vm_ P r t S ≤ S.length := by
  obtain ⟨i, i1, i2⟩ := (vm_M P r t S).2 h0
  rw [← i2]
  exact fb_ct_le _ _
def fwz_ (c k : Nat) : Bool := fV_ c k || fgr_ c k || decide (c = 277)
theorem fwz_on {c k : Nat} (h : rgQ c k = true) : fwz_ c k = false := by
  unfold fwz_
  have := rgQ_iff.1 h
  rw [fV_on h, fgr_on h, decide_eq_false (p := c = 277) (by omega)]
  rfl
theorem mB_.fwz {G G1 : mm_G} {P : ps_T} {m : Nat} (h : mB_ G P m) (hf : fr_ fwz_ G G1) : mB_ G1 P m := h.on (hf.on (fun c k q => fwz_on q))
theorem fr_.Vwz {G G1 : mm_G} (h : fr_ fV_ G G1) : fr_ fwz_ G G1 := h.mono (fun c k q => by unfold fwz_ at q; simp only [Bool.or_eq_false_iff] at q; exact q.1.1)
theorem fr_.grW {G G1 : mm_G} (h : fr_ fgr_ G G1) : fr_ fwz_ G G1 := h.mono (fun c k q => by unfold fwz_ at q; simp only [Bool.or_eq_false_iff] at q; exact q.1.2)
theorem m_next {l : Launch} {κ : mm_K} {d : Nat} {G : mm_G} {K : Int32 → mm_G → Prop} {P : ps_T} {w : Nat} (a b c : Int32) (hP : ps_ok P) (hM : mB_ G P w) (h : ∀ G' x, fr_ fwz_ G G' → sgn_ P a b c x → K x G') : mC l κ true (d + 7) 0 0 m_X13_next [.ref 226, .int a, .int b, .int c] G (rI K) := by
  unfold sgn_ at h
  refine e_X13_next a b c (t_canSuspect a b c hP hM (fun e => ⟨fun y => absurd (by decide) y, fun _ => ?_⟩) (fun r n k e hr ea hn eb hk ec hs => ⟨fun _ => ?_, fun y => absurd y (by decide)⟩))
  · rw [e] at h; exact h G _ fr_.rfl' rfl
  · rw [e] at h
    subst ea eb ec
    have hw := hM.1
    have ht8 := hP.2.1.1
    refine t_fillSuspects hP hM hr hn hk hs (fun G2 r2 f2 => ?_)
    have h120 := sp_le (r := r) (k := k) hP hn
    have hM2 := hM.fV f2
    simp only [] at h
    rw [r2.1, hM2.2.1, nI_clamp (by omega), hM2.2.2.2.1.1, ki_0, nI_eq (by omega) (by omega), nI_eq (by omega) (by omega)]
    refine ⟨fun z => h G2 _ f2.Vwz (Or.inl ⟨Or.inl z, rfl⟩), fun z => ⟨(ki_vp (by omega)).2 (by omega), fun z2 => ?_, fun z2 => h G2 _ f2.Vwz (Or.inl ⟨Or.inr z2, rfl⟩)⟩⟩
    refine t_fillGroups (d := d + 1) hP hM2 hr h120 (fun i hi => sp_mem hi) r2 (fun G3 g3 r3 f3 => ?_)
    have f23 := f2.Vwz.trans f3.grW
    have hM3 := hM.fwz f23
    suffices H : ∀ m t b, t + m = (ps_t P).length → b < t → (∀ u, u < t → vm_ P r b (sp_ P r n k) ≤ vm_ P r u (sp_ P r n k)) → (∀ u, u < b → vm_ P r b (sp_ P r n k) < vm_ P r u (sp_ P r n k)) → mV l κ true (d + 7) 0 0 m_X13_next 52 [some (.ref 226), some (.int (nI r)), some (.int (nI n)), some (.int (nI k)), some (.int (nI b)), some (.int (nI t))] [] G3 (rI K) from
      H ((ps_t P).length - 1) 1 0 (by omega) (by omega) (fun u hu => by obtain rfl : u = 0 := by omega
                                                                        exact Nat.le_refl _) (fun u hu => absurd hu (Nat.not_lt_zero u))
    intro m
    induction m with
    | zero =>
      intro t b hm hb h1 h2
      refine p_X13_next_52 _ _ _ _ _ ?_
      rw [hM3.2.1, nI_clamp (by omega), hM3.2.2.2.1.1]
      refine ⟨(ki_vp (by omega)).2 (by omega), fun _ => h G3 _ f23 (Or.inr ⟨z, b, fun u => vm_ P r u (sp_ P r n k), by omega, rfl, fun u _ => vm_M _ _ _ _, fun u hu => h1 u (by omega), h2⟩), fun y => absurd (nI_le (by omega) (by omega)) y⟩
    | succ m ih =>
      intro t b hm hb h1 h2
      have b1 := vm_le (P := P) (r := r) (t := t) z
      have b2 := vm_le (P := P) (r := r) (t := b) z
      refine p_X13_next_52 _ _ _ _ _ ?_
      rw [hM3.2.1, nI_clamp (by omega), hM3.2.2.2.1.1]
      refine ⟨(ki_vp (by omega)).2 (by omega), fun y => absurd y (nI_ge (by omega) (by omega)), fun _ => t_greatest (by omega) h120 z r3 (g3 t (by omega)) (t_greatest (by omega) h120 z r3 (g3 b (by omega)) ?_)⟩
      rw [nI_add, nI_leI (by omega) (by omega)]
      refine ⟨fun y => ih (t + 1) b (by omega) (by omega) (fun u hu => ?_) h2, fun y => ih (t + 1) t (by omega) (by omega) (fun u hu => ?_) (fun u hu => ?_)⟩
      · rcases Nat.lt_succ_iff_lt_or_eq.mp hu with q | q
        · exact h1 u q
        · subst q; exact y
      · rcases Nat.lt_succ_iff_lt_or_eq.mp hu with q | q
        · have := h1 u q; omega
        · subst q; exact Nat.le_refl _
      · have := h1 u hu; omega
