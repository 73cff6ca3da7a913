/-! most: the component -/
theorem s_isFirst {l : Launch} {κ : mm_K} {d : Nat} {G : mm_G} {K : Int32 → mm_G → Prop} {P : ps_T} {r n t dp i : Nat} {L : List Nat} (hP : ps_ok P) (hn : n ≤ 2) (hg : gv_ G P r n) (ht : t < (ps_t P).length) (hd : dp < 5) (hm : mbr_ G P r n dp L) (hi : i < L.length) (h1 : K (nI 1) G) (h0 : ∀ j, j < i → eC_ P r n t (L.getD j 0) = eC_ P r n t (L.getD i 0) → K (nI 0) G) : mC l κ true d 0 0 m_X9_isFirstOfGroup [.ref 175, .int (nI t), .int (nI dp), .int (nI i)] G (rI K) := by
  have h120 : (sL_ P r n).length ≤ 120 := su_120 (hP.1.2.2 r) hn
  have ht8 := hP.2.1.1
  obtain ⟨l1, l2⟩ := hm
  have gl : ∀ c, gr_ P r n t c ≤ c := fun c => gr_le
  obtain ⟨a1, a2⟩ := l2 i hi
  have ga := gl (L.getD i 0)
  refine e_X9_isFirstOfGroup _ _ _ ?_
  rw [nI_clamp (by omega), nI_clamp (by omega), a1, ki_mul, nI_add, nI_clamp (by omega), show L.getD i 0 * 8 + t = 8 * L.getD i 0 + t by omega, hg.2 t ht _ a2]
  refine ⟨(ki_vp (by omega)).2 (by omega), (ki_vp (by omega)).2 (by omega), (ki_vp (by omega)).2 (by omega), ?_⟩
  suffices H : ∀ m j, j + m = i → mV l κ true d 0 0 m_X9_isFirstOfGroup 23 [some (.ref 175), some (.int (nI t)), some (.int (nI dp)), some (.int (nI i)), some (.int (nI (gr_ P r n t (L.getD i 0)))), some (.int (nI j))] [] G (rI K) from H _ 0 (Nat.zero_add _)
  intro m
  induction m with
  | zero =>
    intro j hj
    exact p_X9_isFirstOfGroup_23 _ _ _ _ _ ⟨fun _ => h1, fun z => absurd (nI_le (by omega) (by omega)) z⟩
  | succ m ih =>
    intro j hj
    obtain ⟨b1, b2⟩ := l2 j (by omega)
    have gb := gl (L.getD j 0)
    refine p_X9_isFirstOfGroup_23 _ _ _ _ _ ⟨fun z => absurd z (nI_ge (by omega) (by omega)), fun _ => ?_⟩
    rw [nI_clamp (by omega), nI_clamp (by omega), b1, ki_mul, nI_add, nI_clamp (by omega), show L.getD j 0 * 8 + t = 8 * L.getD j 0 + t by omega, hg.2 t ht _ b2, nI_eq (by omega) (by omega), gr_same, nI_add]
    exact ⟨(ki_vp (by omega)).2 (by omega), (ki_vp (by omega)).2 (by omega), (ki_vp (by omega)).2 (by omega), fun _ => ih (j + 1) (by omega), fun z => h0 j (by omega) z⟩
def flt_ (P : ps_T) (r n t x : Nat) (L : List Nat) : List Nat := L.filter (fun y => decide (sD_ P r n y t = sD_ P r n x t))
theorem s_split {l : Launch} {κ : mm_K} {d : Nat} {G : mm_G} {K : Int32 → mm_G → Prop} {P : ps_T} {r n t dp x : Nat} {L : List Nat} (hP : ps_ok P) (hn : n ≤ 2) (hg : gv_ G P r n) (ht : t < (ps_t P).length) (hd : dp < 4) (hm : mbr_ G P r n dp L) (hx : x < (sL_ P r n).length)
    (h : ∀ G', mbr_ G' P r n (dp + 1) (flt_ P r n t x L) → fr_ (fMb_ (dp + 1)) G G' → K (nI (flt_ P r n t x L).length) G') : mC l κ true d 0 0 m_X9_split [.ref 175, .int (nI t), .int (nI dp), .int (nI L.length), .int (nI (gr_ P r n t x))] G (rI K) := by
  have h120 : (sL_ P r n).length ≤ 120 := su_120 (hP.1.2.2 r) hn
  have ht8 := hP.2.1.1
  have gl : ∀ c, gr_ P r n t c ≤ c := fun c => gr_le
  have gx := gl x
  have l1 := hm.1
  refine e_X9_split _ _ _ _ ?_
  suffices H : ∀ m i G1, i + m = L.length → mbr_ G1 P r n (dp + 1) (flt_ P r n t x (L.take i)) → fr_ (fMb_ (dp + 1)) G G1 → mV l κ true d 0 0 m_X9_split 6 [some (.ref 175), some (.int (nI t)), some (.int (nI dp)), some (.int (nI L.length)), some (.int (nI (gr_ P r n t x))), some (.int (nI (flt_ P r n t x (L.take i)).length)), some (.int (nI i)), none] [] G1 (rI K) from
    H _ 0 G (Nat.zero_add _) ⟨Nat.zero_le _, fun i hi => absurd hi (Nat.not_lt_zero i)⟩ fr_.rfl'
  intro m
  induction m with
  | zero =>
    intro i G1 hi m1 f1
    refine p_X9_split_6 _ _ _ _ _ _ ⟨fun _ => ?_, fun z => absurd (nI_le (by omega) (by omega)) z⟩
    rw [List.take_of_length_le (show L.length ≤ i by omega)] at m1 ⊢
    exact h G1 m1 f1
  | succ m ih =>
    intro i G1 hi m1 f1
    obtain ⟨b1, b2⟩ := (hm.fM f1 (Nat.lt_succ_self dp)).2 i (by omega)
    have gb := gl (L.getD i 0)
    have hfl : (flt_ P r n t x (L.take i)).length ≤ i := Nat.le_trans (List.length_filter_le _ _) (List.length_take_le _ _)
    have et := tk_succ (show i < L.length by omega)
    refine p_X9_split_6 _ _ _ _ _ _ ⟨fun z => absurd z (nI_ge (by omega) (by omega)), fun _ => ?_⟩
    rw [nI_add, nI_add, nI_add, nI_clamp (n := dp) (by omega), nI_clamp (n := i) (by omega), b1, ki_mul, nI_add, nI_clamp (n := L.getD i 0 * 8 + t) (by omega), show L.getD i 0 * 8 + t = 8 * L.getD i 0 + t by omega, (hg.fM f1).2 t ht _ b2, nI_eq (by omega) (by omega), gr_same, nI_clamp (n := dp + 1) (by omega), nI_clamp (n := (flt_ P r n t x (L.take i)).length) (by omega)]
    refine ⟨(ki_vp (by omega)).2 (by omega), (ki_vp (by omega)).2 (by omega), (ki_vp (by omega)).2 (by omega), fun z => ?_, fun z => ⟨(ki_vp (by omega)).2 (by omega), (ki_vp (by omega)).2 (by omega), ?_⟩⟩
    · have e : flt_ P r n t x (L.take (i + 1)) = flt_ P r n t x (L.take i) := by
        unfold flt_
        rw [et, List.filter_append, List.filter_cons_of_neg (by rw [decide_eq_false z]; decide)]
        exact List.append_nil _
      have hh := ih (i + 1) G1 (by omega) (by rw [e]; exact m1) f1
      rw [e] at hh
      exact hh
    · have e : flt_ P r n t x (L.take (i + 1)) = flt_ P r n t x (L.take i) ++ [L.getD i 0] := by
        unfold flt_
        rw [et, List.filter_append, List.filter_cons_of_pos (by exact decide_eq_true z)]
        rfl
      have el : (flt_ P r n t x (L.take i) ++ [L.getD i 0]).length = (flt_ P r n t x (L.take i)).length + 1 := List.length_append
      have hh := ih (i + 1) (ms_i G1 (183 + (dp + 1)) (flt_ P r n t x (L.take i)).length (nI (L.getD i 0))) (by omega) (by
        rw [e]
        refine ⟨by omega, fun j hj => ?_⟩
        rw [el] at hj
        simp only [mg_i_i, mg_i_l, mg_i_r, mg_i_b, mg_l_i, mg_l_l, mg_l_r, mg_l_b, mg_r_i, mg_r_l, mg_r_r, mg_r_b, false_and, and_false, true_and, and_true, reduceCtorEq, if_true, if_false, reduceIte, Nat.reduceEqDiff, Nat.reduceAdd, Nat.succ_ne_self, ne_eq, not_false_eq_true, not_true_eq_false]
        by_cases q : j = (flt_ P r n t x (L.take i)).length
        · rw [if_pos q, q, ap_eq]; exact ⟨rfl, b2⟩
        · rw [if_neg q, ap_lt (by omega)]; exact m1.2 j (by omega)) (f1.si (fMb_T (by omega)))
      rw [e, el] at hh
      exact hh
theorem two_dn {D : de_T} {T : Nat} {L : List Nat} (h : sep_ D T L) : dnn_ D T (fun x => x ∈ L) ↔ L.length ≤ 1 := by
  constructor
  · intro hd
    match L, h, hd with
    | [], _, _ => exact Nat.zero_le _
    | [_], _, _ => exact Nat.le_refl _
    | a :: b :: L, h, hd =>
      have h2 := (List.pairwise_cons.1 h).1 b (List.mem_cons_self ..)
      exact absurd (fun t ht => hd a b (List.mem_cons_self ..) (List.mem_cons_of_mem _ (List.mem_cons_self ..)) t ht) h2
  · intro hl a b ha hb t _
    match L, hl, ha, hb with
    | [], _, ha, _ => exact absurd ha List.not_mem_nil
    | [x], _, ha, hb => rw [List.mem_singleton.1 ha, List.mem_singleton.1 hb]
    | _ :: _ :: L, hl, _, _ =>
      rw [List.length_cons, List.length_cons] at hl
      omega
theorem s_settles {l : Launch} {κ : mm_K} {P : ps_T} {r n : Nat} (hP : ps_ok P) (hn : n ≤ 2) : ∀ (k dp d : Nat) (L : List Nat) (G : mm_G) (K : Int32 → mm_G → Prop), dp + k ≤ 4 → gv_ G P r n → mbr_ G P r n dp L → sep_ (eC_ P r n) (ps_t P).length L →
    (∀ G', sN_ (eC_ P r n) (ps_t P).length k (fun x => x ∈ L) → fr_ (fMb_ (dp + 1)) G G' → K (nI 1) G') →
    (∀ G', ¬ sN_ (eC_ P r n) (ps_t P).length k (fun x => x ∈ L) → fr_ (fMb_ (dp + 1)) G G' → K (nI 0) G') → mC l κ true (d + 2 + 2 * k) 0 0 m_X9_settles [.ref 175, .int (nI dp), .int (nI L.length), .int (nI k)] G (rI K) := by
  have h120 : (sL_ P r n).length ≤ 120 := su_120 (hP.1.2.2 r) hn
  have ht8 := hP.2.1.1
  intro k
  induction k with
  | zero =>
    intro dp d L G K hdp hg hm hs h1 h0
    have l1 := hm.1
    refine e_X9_settles _ _ _ ?_
    rw [nI_ltI (by omega) (by omega)]
    refine ⟨fun z => ⟨fun _ => h0 G (fun q => ?_) fr_.rfl', fun y => absurd (by decide) y⟩, fun z => h1 G ((two_dn hs).2 (by omega)) fr_.rfl'⟩
    have := (two_dn hs).1 q
    omega
  | succ k ih =>
    intro dp d L G K hdp hg hm hs h1 h0
    have l1 := hm.1
    show mC l κ true ((d + 2 + 2 * k) + 2) 0 0 m_X9_settles _ G (rI K)
    refine e_X9_settles _ _ _ ?_
    rw [nI_ltI (by omega) (by omega), nI_ltI (by omega) (by omega), ki_0, nI_leI (by omega) (by omega)]
    refine ⟨fun z => ⟨fun y => by omega, fun _ => ⟨fun _ => ?_, fun y => by omega⟩⟩, fun z => h1 G (sN_dn ((two_dn hs).2 (by omega)) _) fr_.rfl'⟩
    have hnd : ¬ dnn_ (eC_ P r n) (ps_t P).length (fun x => x ∈ L) := fun q => by
      have := (two_dn hs).1 q
      omega
    suffices H : ∀ m t G1, t + m = (ps_t P).length → (∀ u, u < t → ¬ ((∃ a b, a ∈ L ∧ b ∈ L ∧ eC_ P r n u a ≠ eC_ P r n u b) ∧ ∀ a, a ∈ L → sN_ (eC_ P r n) (ps_t P).length k (fun b => b ∈ L ∧ eC_ P r n u b = eC_ P r n u a))) → fr_ (fMb_ (dp + 1)) G G1 → mV l κ true ((d + 2 + 2 * k) + 2) 0 0 m_X9_settles 21 [some (.ref 175), some (.int (nI dp)), some (.int (nI L.length)), some (.int (nI (k + 1))), some (.int (nI t))] [] G1 (rI K) from
      H _ 0 G (Nat.zero_add _) (fun u hu => absurd hu (Nat.not_lt_zero u)) fr_.rfl'
    intro m
    induction m with
    | zero =>
      intro t G1 hm' hno f1
      have hg1 := hg.fM f1
      refine p_X9_settles_21 _ _ _ _ ⟨fun _ => h0 G1 (fun q => ?_) f1, fun y => absurd (by rw [hg1.1]; exact nI_le (by omega) (by omega)) y⟩
      rcases q with q | ⟨u, u1, u2, u3⟩
      · exact hnd q
      · exact hno u (by omega) ⟨u2, u3⟩
    | succ m ihm =>
      intro t G1 hm' hno f1
      have hg1 := hg.fM f1
      have ht : t < (ps_t P).length := by omega
      refine p_X9_settles_21 _ _ _ _ ⟨fun y => absurd y (by rw [hg1.1]; exact nI_ge (by omega) (by omega)), fun _ => ?_⟩
      -- by this trial
      have hfail : ∀ G2, fr_ (fMb_ (dp + 1)) G G2 → ¬ ((∃ a b, a ∈ L ∧ b ∈ L ∧ eC_ P r n t a ≠ eC_ P r n t b) ∧ ∀ a, a ∈ L → sN_ (eC_ P r n) (ps_t P).length k (fun b => b ∈ L ∧ eC_ P r n t b = eC_ P r n t a)) → ((nI 0 = 0 → mV l κ true ((d + 2 + 2 * k) + 2) 0 0 m_X9_settles 21 [some (.ref 175), some (.int (nI dp)), some (.int (nI L.length)), some (.int (nI (k + 1))), some (.int (nI t + nI 1))] [] G2 (rI K)) ∧ (¬ nI 0 = 0 → K (nI 1) G2)) := by
        intro G2 f2 hq
        refine ⟨fun _ => ?_, fun y => absurd (by decide) y⟩
        rw [nI_add]
        refine ihm (t + 1) G2 (by omega) (fun u hu => ?_) f2
        rcases Nat.lt_succ_iff_lt_or_eq.mp hu with q | q
        · exact hno u q
        · subst q; exact hq
      refine e_X9_settlesBy _ _ _ _ ?_
      suffices H : ∀ w i G2, i + w = L.length → (∀ j, j < i → sN_ (eC_ P r n) (ps_t P).length k (fun b => b ∈ L ∧ eC_ P r n t b = eC_ P r n t (L.getD j 0))) → (i ≠ 0 → ∃ a b, a ∈ L ∧ b ∈ L ∧ eC_ P r n t a ≠ eC_ P r n t b) → fr_ (fMb_ (dp + 1)) G G2 → mV l κ true ((d + 2 + 2 * k) + 1) 0 0 m_X9_settlesBy 3 [some (.ref 175), some (.int (nI t)), some (.int (nI dp)), some (.int (nI L.length)), some (.int (nI (k + 1))), some (.int (nI i)), none, none] [] G2 (rI (fun r1 G2 => ((r1 = 0 → mV l κ true ((d + 2 + 2 * k) + 2) 0 0 m_X9_settles 21 [some (.ref 175), some (.int (nI dp)), some (.int (nI L.length)), some (.int (nI (k + 1))), some (.int (nI t + nI 1))] [] G2 (rI K)) ∧ (¬ r1 = 0 → K (nI 1) G2)))) from
        H _ 0 G1 (Nat.zero_add _) (fun j hj => absurd hj (Nat.not_lt_zero j)) (fun q => absurd rfl q) f1
      intro w
      induction w with
      | zero =>
        intro i G2 hi hall hsp f2
        refine p_X9_settlesBy_3 _ _ _ _ _ ⟨fun _ => ⟨fun y => absurd y (by decide), fun _ => h1 G2 (Or.inr ⟨t, ht, hsp (by omega), fun a ha => ?_⟩) f2⟩, fun y => absurd (nI_le (by omega) (by omega)) y⟩
        obtain ⟨j, j1, j2⟩ := mem_gd ha
        have := hall j (by omega)
        rw [j2] at this
        exact this
      | succ w ihw =>
        intro i G2 hi hall hsp f2
        have hil : i < L.length := by omega
        have hg2 := hg.fM f2
        have hm2 := hm.fM f2 (Nat.lt_succ_self dp)
        obtain ⟨a1, a2⟩ := hm2.2 i hil
        have gb := gr_le (P := P) (r := r) (n := n) (t := t) (c := L.getD i 0)
        refine p_X9_settlesBy_3 _ _ _ _ _ ⟨fun y => absurd y (nI_ge (by omega) (by omega)), fun _ => ?_⟩
        rw [nI_clamp (n := dp) (by omega), nI_clamp (n := i) (by omega), a1, ki_mul, nI_add, nI_clamp (n := L.getD i 0 * 8 + t) (by omega), show L.getD i 0 * 8 + t = 8 * L.getD i 0 + t by omega, hg2.2 t ht _ a2, nI_add, nI_add, nI_add, ki_sub (by omega), Nat.add_sub_cancel]
        refine ⟨(ki_vp (by omega)).2 (by omega), (ki_vp (by omega)).2 (by omega), (ki_vp (by omega)).2 (by omega), ?_⟩
        have hnext : ∀ G3, fr_ (fMb_ (dp + 1)) G G3 → sN_ (eC_ P r n) (ps_t P).length k (fun b => b ∈ L ∧ eC_ P r n t b = eC_ P r n t (L.getD i 0)) → (∃ a b, a ∈ L ∧ b ∈ L ∧ eC_ P r n t a ≠ eC_ P r n t b) → mV l κ true ((d + 2 + 2 * k) + 1) 0 0 m_X9_settlesBy 3 [some (.ref 175), some (.int (nI t)), some (.int (nI dp)), some (.int (nI L.length)), some (.int (nI (k + 1))), some (.int (nI (i + 1))), none, none] [] G3 (rI (fun r1 G2 => ((r1 = 0 → mV l κ true ((d + 2 + 2 * k) + 2) 0 0 m_X9_settles 21 [some (.ref 175), some (.int (nI dp)), some (.int (nI L.length)), some (.int (nI (k + 1))), some (.int (nI (t + 1)))] [] G2 (rI K)) ∧ (¬ r1 = 0 → K (nI 1) G2)))) := by
          intro G3 f3 q1 q2
          have hh := ihw (i + 1) G3 (by omega) (fun j hj => by
            rcases Nat.lt_succ_iff_lt_or_eq.mp hj with q | q
            · exact hall j q
            · subst q; exact q1) (fun _ => q2) f3
          rw [nI_add] at hh
          exact hh
        have hfail2 := hfail
        simp only [nI_add] at hfail2
        refine s_isFirst hP hn hg2 ht (by omega) hm2 hil ⟨fun y => absurd y (by decide), fun _ => ?_⟩ (fun j hj ej => ⟨fun _ => ?_, fun y => absurd (by decide) y⟩)
        · refine s_split hP hn hg2 ht (by omega) hm2 a2 (fun G3 m3 f3 => ?_)
          have f23 := f2.trans f3
          have hfle : (flt_ P r n t (L.getD i 0) L).length ≤ L.length := List.length_filter_le _ _
          have hmem : ∀ b, b ∈ flt_ P r n t (L.getD i 0) L ↔ (b ∈ L ∧ eC_ P r n t b = eC_ P r n t (L.getD i 0)) := fun b => by
            unfold flt_
            rw [List.mem_filter, decide_eq_true_eq]
            exact Iff.rfl
          rw [nI_eq (by omega) (by omega)]
          refine ⟨fun y => hfail2 G3 f23 (fun q => ?_), fun y => ?_⟩
          · obtain ⟨⟨a, b, qa, qb, qn⟩, -⟩ := q
            have hfa := List.length_filter_eq_length_iff.1 y
            have e1 := of_decide_eq_true (hfa a qa)
            have e2 := of_decide_eq_true (hfa b qb)
            exact qn (e1.trans e2.symm)
          · have hsplit : ∃ a b, a ∈ L ∧ b ∈ L ∧ eC_ P r n t a ≠ eC_ P r n t b := by
              refine Classical.byContradiction (fun hno2 => y (List.length_filter_eq_length_iff.2 (fun a ha => decide_eq_true ?_)))
              refine Classical.byContradiction (fun hne => hno2 ⟨a, L.getD i 0, ha, gd_mem hil, hne⟩)
            refine ih (dp + 1) d _ G3 _ (by omega) (hg2.fM f3) m3 (List.Pairwise.filter _ hs) (fun G4 s4 f4 => ⟨fun _ => hnext G4 (f23.trans (fMb_up f4 (by omega))) (sN_cg hmem s4) hsplit, fun y => absurd y (by decide)⟩) (fun G4 s4 f4 => ⟨fun y => absurd (by decide) y, fun _ => hfail2 G4 (f23.trans (fMb_up f4 (by omega))) (fun q => ?_)⟩)
            exact s4 (sN_cg (fun b => (hmem b).symm) (q.2 _ (gd_mem hil)))
        · have := hall j hj
          rw [ej] at this
          exact hnext G2 f2 this (hsp (by omega))
theorem fr_.MU {a : Nat} {G G1 : mm_G} (h : fr_ (fMb_ a) G G1) : fr_ fU_ G G1 := h.toU (fun c k _ h2 => fMb_F (by omega))
theorem s_groupk {l : Launch} {κ : mm_K} {d : Nat} {G : mm_G} {K : mm_G → Prop} {P : ps_T} {r n t : Nat} (hP : ps_ok P) (hC : cB_ G P) (hr : r < (ps_p P).length) (hn : n ≤ 2) (hk : kU_ G P r n) (ht : t < (ps_t P).length)
    (h : ∀ G', kU_ G' P r n → gU_ G' P r n t (sL_ P r n).length → mg_i G' 180 t = nI 1 → (∀ u, u ≠ t → mg_i G' 180 u = mg_i G 180 u) → fr_ fG_ G G' → K G') : mC l κ true (d + 3) 0 0 m_X9_group [.ref 175, .int (nI t)] G (rV K) := by
  have hp := hP.1.1
  have ht8 := hP.2.1.1
  have h120 : (sL_ P r n).length ≤ 120 := su_120 (hP.1.2.2 r) hn
  refine e_X9_group _ ?_
  rw [nI_clamp (by omega)]
  refine ⟨(ki_vp (by omega)).2 (by omega), fun y => ?_, fun y => ?_⟩
  · suffices H : ∀ w c G1, c + w = (sL_ P r n).length → fr_ fG_ G G1 → kU_ G1 P r n → mg_i G1 180 t = nI 0 → gU_ G1 P r n t c → (∀ u, u ≠ t → mg_i G1 180 u = mg_i G 180 u) → mV l κ true (d + 3) 0 0 m_X9_group 12 [some (.ref 175), some (.int (nI t)), some (.int (nI c)), none] [] G1 (rV K) from
      H _ 0 G (Nat.zero_add _) fr_.rfl' hk (y.trans (by decide)) (fun c hc => absurd hc (Nat.not_lt_zero c)) (fun _ _ => rfl)
    intro w
    induction w with
    | zero =>
      intro c G1 hc f1 k1 e1 g1 q1
      obtain rfl : c = (sL_ P r n).length := by omega
      refine p_X9_group_12 _ _ ?_
      rw [k1.2.2.1, nI_clamp (by omega), show vp_nar .boolean (nI 1) = nI 1 by decide +kernel]
      refine ⟨fun _ => ⟨(ki_vp (by omega)).2 (by omega), ?_⟩, fun z => absurd (nI_le (by omega) (by omega)) z⟩
      have g2 : gU_ (ms_i G1 180 t (nI 1)) P r n t (sL_ P r n).length := g1.tr hP hr (Nat.le_refl _) (fun c _ => by simp only [mg_i_i, mg_i_l, mg_i_r, mg_i_b, mg_l_i, mg_l_l, mg_l_r, mg_l_b, mg_r_i, mg_r_l, mg_r_r, mg_r_b, false_and, and_false, true_and, and_true, reduceCtorEq, if_true, if_false, reduceIte, Nat.reduceEqDiff, Nat.reduceAdd, Nat.succ_ne_self, ne_eq, not_false_eq_true, not_true_eq_false]) (fun c _ k _ _ => by simp only [mg_i_i, mg_i_l, mg_i_r, mg_i_b, mg_l_i, mg_l_l, mg_l_r, mg_l_b, mg_r_i, mg_r_l, mg_r_r, mg_r_b, false_and, and_false, true_and, and_true, reduceCtorEq, if_true, if_false, reduceIte, Nat.reduceEqDiff, Nat.reduceAdd, Nat.succ_ne_self, ne_eq, not_false_eq_true, not_true_eq_false])
      have k2 : kU_ (ms_i G1 180 t (nI 1)) P r n := k1.tr t hP hr (fun k _ => by simp only [mg_i_i, mg_i_l, mg_i_r, mg_i_b, mg_l_i, mg_l_l, mg_l_r, mg_l_b, mg_r_i, mg_r_l, mg_r_r, mg_r_b, false_and, and_false, true_and, and_true, reduceCtorEq, if_true, if_false, reduceIte, Nat.reduceEqDiff, Nat.reduceAdd, Nat.succ_ne_self, ne_eq, not_false_eq_true, not_true_eq_false]) (fun i => by simp only [mg_i_i, mg_i_l, mg_i_r, mg_i_b, mg_l_i, mg_l_l, mg_l_r, mg_l_b, mg_r_i, mg_r_l, mg_r_r, mg_r_b, false_and, and_false, true_and, and_true, reduceCtorEq, if_true, if_false, reduceIte, Nat.reduceEqDiff, Nat.reduceAdd, Nat.succ_ne_self, ne_eq, not_false_eq_true, not_true_eq_false]) (fun u hu => by simp only [mg_i_i, mg_i_l, mg_i_r, mg_i_b, mg_l_i, mg_l_l, mg_l_r, mg_l_b, mg_r_i, mg_r_l, mg_r_r, mg_r_b, false_and, and_false, true_and, and_true, reduceCtorEq, if_true, if_false, reduceIte, Nat.reduceEqDiff, Nat.reduceAdd, Nat.succ_ne_self, ne_eq, not_false_eq_true, not_true_eq_false]; rw [if_neg hu]) (fun u _ _ c => by simp only [mg_i_i, mg_i_l, mg_i_r, mg_i_b, mg_l_i, mg_l_l, mg_l_r, mg_l_b, mg_r_i, mg_r_l, mg_r_r, mg_r_b, false_and, and_false, true_and, and_true, reduceCtorEq, if_true, if_false, reduceIte, Nat.reduceEqDiff, Nat.reduceAdd, Nat.succ_ne_self, ne_eq, not_false_eq_true, not_true_eq_false]) (fun u _ _ c k _ _ => by simp only [mg_i_i, mg_i_l, mg_i_r, mg_i_b, mg_l_i, mg_l_l, mg_l_r, mg_l_b, mg_r_i, mg_r_l, mg_r_r, mg_r_b, false_and, and_false, true_and, and_true, reduceCtorEq, if_true, if_false, reduceIte, Nat.reduceEqDiff, Nat.reduceAdd, Nat.succ_ne_self, ne_eq, not_false_eq_true, not_true_eq_false]) (fun _ => Or.inr ⟨by simp only [mg_i_i, mg_i_l, mg_i_r, mg_i_b, mg_l_i, mg_l_l, mg_l_r, mg_l_b, mg_r_i, mg_r_l, mg_r_r, mg_r_b, false_and, and_false, true_and, and_true, reduceCtorEq, if_true, if_false, reduceIte, Nat.reduceEqDiff, Nat.reduceAdd, Nat.succ_ne_self, ne_eq, not_false_eq_true, not_true_eq_false], g2⟩)
      exact h _ k2 g2 (by simp only [mg_i_i, mg_i_l, mg_i_r, mg_i_b, mg_l_i, mg_l_l, mg_l_r, mg_l_b, mg_r_i, mg_r_l, mg_r_r, mg_r_b, false_and, and_false, true_and, and_true, reduceCtorEq, if_true, if_false, reduceIte, Nat.reduceEqDiff, Nat.reduceAdd, Nat.succ_ne_self, ne_eq, not_false_eq_true, not_true_eq_false]) (fun u hu => by simp only [mg_i_i, mg_i_l, mg_i_r, mg_i_b, mg_l_i, mg_l_l, mg_l_r, mg_l_b, mg_r_i, mg_r_l, mg_r_r, mg_r_b, false_and, and_false, true_and, and_true, reduceCtorEq, if_true, if_false, reduceIte, Nat.reduceEqDiff, Nat.reduceAdd, Nat.succ_ne_self, ne_eq, not_false_eq_true, not_true_eq_false]; rw [if_neg hu]; exact q1 u hu) (f1.si (fG_T (by omega)))
    | succ w ih =>
      intro c G1 hc f1 k1 e1 g1 q1
      obtain ⟨d1, d2, d3⟩ := sD_ok (t := t) hP hr (show c < (sL_ P r n).length by omega)
      have hgle : gr_ P r n t c ≤ c := fa_first_le _ _
      -- one set more
      have hnext : ∀ G2 G3, fr_ fG_ G G2 → kU_ G2 P r n → mg_i G2 180 t = nI 0 → gU_ G2 P r n t c → (∀ u, u ≠ t → mg_i G2 180 u = mg_i G 180 u) → fr_ (fW_ (8 * c + t)) G2 G3 → mg_i G3 178 (8 * c + t) = nI (gr_ P r n t c) → (gr_ P r n t c = c → rc_d G3 (8 * c + t) (sD_ P r n c t)) → mV l κ true (d + 3) 0 0 m_X9_group 12 [some (.ref 175), some (.int (nI t)), some (.int (nI (c + 1))), none] [] G3 (rV K) := by
        intro G2 G3 f2 k2 e2 g2 q2 fw w1 w2
        have e3 : mg_i G3 180 t = nI 0 := by rw [fw.i _ _ (fW_F (by omega))]; exact e2
        refine ih (c + 1) G3 (by omega) (f2.trans fw.WG) ?_ e3 (fun c' hc' => ?_) (fun u hu => by rw [fw.i _ _ (fW_F (by omega))]; exact q2 u hu)
        · exact k2.tr t hP hr (fun k _ => fw.i _ _ (fW_F (by omega))) (fun i => fw.i _ _ (fW_F (by omega))) (fun u _ => fw.i _ _ (fW_F (by omega))) (fun u hu hut c' => fw.i _ _ (fW_F (by omega))) (fun u hu hut c' k _ _ => fw.i _ _ (fW_F (by omega))) (fun _ => Or.inl e3)
        · rcases Nat.lt_succ_iff_lt_or_eq.mp hc' with z | z
          · exact (g2.tr hP hr (show c ≤ _ by omega) (fun c'' h'' => fw.i _ _ (fW_F (by omega))) (fun c'' h'' k _ _ => fw.i _ _ (fW_F (by omega)))) c' z
          · subst z; exact ⟨w1, w2⟩
      refine p_X9_group_12 _ _ ?_
      rw [k1.1, k1.2.2.1, nI_clamp (by omega), nI_clamp (by omega), nI_clamp (by omega), k1.2.2.2.1 c (by omega)]
      refine ⟨fun z => absurd z (nI_ge (by omega) (by omega)), fun _ => ⟨(ki_vp (by omega)).2 (by omega), (ki_vp (by omega)).2 (by omega), s_run0 hP (hC.fG hP f1) hr d3 ht (fun G2 c2 f2 s2 => ?_)⟩⟩
      have hd2 : dd_ G2 (sD_ P r n c t) := ⟨s2, c2.cd d2, d1⟩
      have k2 : kU_ G2 P r n := k1.fr hP hr f2 (fun k _ => fc_F (by omega)) (fun c k hc => fc_F (by omega))
      have e2 : mg_i G2 180 t = nI 0 := by rw [f2.i _ _ (fc_F (by omega))]; exact e1
      have g2 : gU_ G2 P r n t c := g1.tr hP hr (by omega) (fun c _ => f2.i _ _ (fc_F (by omega))) (fun c _ k _ _ => f2.i _ _ (fc_F (by omega)))
      have f12 := f1.trans f2.cG
      have q2 : ∀ u, u ≠ t → mg_i G2 180 u = mg_i G 180 u := fun u hu => by rw [f2.i _ _ (fc_F (by omega))]; exact q1 u hu
      refine s_groupOf hP hr hn (by omega) (by omega) g2 hd2 ?_
      have egf : gf_ P r n t (sD_ P r n c t) c = gr_ P r n t c := rfl
      rw [egf, ki_mul, nI_add, nI_add, nI_clamp (by omega), show c * 8 + t = 8 * c + t by omega]
      by_cases cg : gr_ P r n t c < c
      · rw [if_pos cg]
        refine ⟨fun _ => ⟨(ki_vp (by omega)).2 (by omega), ?_⟩, fun z => absurd (by rw [ki_0, nI_leI (by omega) (by omega)]; omega) z⟩
        exact hnext G2 _ f12 k2 e2 g2 q2 (fr_.rfl'.si (fW_T (Or.inl ⟨rfl, rfl⟩))) (by simp only [mg_i_i, mg_i_l, mg_i_r, mg_i_b, mg_l_i, mg_l_l, mg_l_r, mg_l_b, mg_r_i, mg_r_l, mg_r_r, mg_r_b, false_and, and_false, true_and, and_true, reduceCtorEq, if_true, if_false, reduceIte, Nat.reduceEqDiff, Nat.reduceAdd, Nat.succ_ne_self, ne_eq, not_false_eq_true, not_true_eq_false]) (fun e => absurd e (by omega))
      · rw [if_neg cg]
        refine ⟨fun z => absurd z (by decide), fun _ => s_keepDeed (by omega) (by omega) hd2 (fun G3 r3 f3 => ⟨(ki_vp (by omega)).2 (by omega), ?_⟩)⟩
        have ec : gr_ P r n t c = c := by omega
        refine hnext G2 _ f12 k2 e2 g2 q2 (f3.si (fW_T (Or.inl ⟨rfl, rfl⟩))) (by simp only [mg_i_i, mg_i_l, mg_i_r, mg_i_b, mg_l_i, mg_l_l, mg_l_r, mg_l_b, mg_r_i, mg_r_l, mg_r_r, mg_r_b, false_and, and_false, true_and, and_true, reduceCtorEq, if_true, if_false, reduceIte, Nat.reduceEqDiff, Nat.reduceAdd, Nat.succ_ne_self, ne_eq, not_false_eq_true, not_true_eq_false]; rw [ec]) (fun _ => ?_)
        obtain ⟨u1, u2, u3⟩ := r3
        exact ⟨by simp only [mg_i_i, mg_i_l, mg_i_r, mg_i_b, mg_l_i, mg_l_l, mg_l_r, mg_l_b, mg_r_i, mg_r_l, mg_r_r, mg_r_b, false_and, and_false, true_and, and_true, reduceCtorEq, if_true, if_false, reduceIte, Nat.reduceEqDiff, Nat.reduceAdd, Nat.succ_ne_self, ne_eq, not_false_eq_true, not_true_eq_false]; exact u1, by simp only [mg_i_i, mg_i_l, mg_i_r, mg_i_b, mg_l_i, mg_l_l, mg_l_r, mg_l_b, mg_r_i, mg_r_l, mg_r_r, mg_r_b, false_and, and_false, true_and, and_true, reduceCtorEq, if_true, if_false, reduceIte, Nat.reduceEqDiff, Nat.reduceAdd, Nat.succ_ne_self, ne_eq, not_false_eq_true, not_true_eq_false]; exact u2, fun j hj => by simp only [mg_i_i, mg_i_l, mg_i_r, mg_i_b, mg_l_i, mg_l_l, mg_l_r, mg_l_b, mg_r_i, mg_r_l, mg_r_r, mg_r_b, false_and, and_false, true_and, and_true, reduceCtorEq, if_true, if_false, reduceIte, Nat.reduceEqDiff, Nat.reduceAdd, Nat.succ_ne_self, ne_eq, not_false_eq_true, not_true_eq_false]; exact u3 j hj⟩
  · rcases hk.2.2.2.2 t (by omega) with z | ⟨z, z2⟩
    · exact absurd (z.trans (by decide)) y
    · exact h G hk z2 z (fun _ _ => rfl) fr_.rfl'
theorem s_fewestT {l : Launch} {κ : mm_K} {d : Nat} {G : mm_G} {K : Int32 → mm_G → Prop} {P : ps_T} {r n k : Nat} (hP : ps_ok P) (hC : cB_ G P) (hU : cU_ G P) (hr : r < (ps_p P).length) (hn : n ≤ 2) (hk : k ≤ (ps_n P).2.length) (hs : k ≠ 0 → (ps_n P).1 = r)
    (h : ∀ G' x, cU_ G' P → fr_ fU_ G G' → isW_ (oD_ P r) (ps_t P).length (fun s => s ∈ sp_ P r n k) x → K x G') : mC l κ true (d + 11) 0 0 m_X9_fewestTrials [.ref 175, .int (nI r), .int (nI n), .int (nI k)] G (rI K) := by
  have ht8 := hP.2.1.1
  show mC l κ true ((d + 6) + 5) 0 0 m_X9_fewestTrials _ G (rI K)
  refine e_X9_fewestTrials _ _ _ (s_narrow (d := d + 6) hP hC hU hr hn hk hs (fun G2 k2 l2 f2 => ?_))
  suffices H : ∀ m t G3, t + m = (ps_t P).length → kU_ G3 P r n → lft_ G3 (nw_ P r n k) (sL_ P r n).length → (∀ u, u < t → mg_i G3 180 u = nI 1) → fr_ fU_ G G3 → mV l κ true ((d + 6) + 5) 0 0 m_X9_fewestTrials 11 [some (.ref 175), some (.int (nI r)), some (.int (nI n)), some (.int (nI k)), some (.int (nI t)), none] [] G3 (rI K) from
    H _ 0 G2 (Nat.zero_add _) k2 l2 (fun u hu => absurd hu (Nat.not_lt_zero u)) f2
  intro m
  induction m with
  | succ m ih =>
    intro t G3 hm k3 l3 g3 f3
    have hC3 := hC.fU hP f3
    have e4 : mg_i G3 62 4 = nI (ps_t P).length := hC3.2.1.1
    refine p_X9_fewestTrials_11 _ _ _ _ ⟨fun y => absurd y (by rw [e4]; exact nI_ge (by omega) (by omega)), fun _ => ?_⟩
    refine s_groupk (d := d + 7) hP hC3 hr hn k3 (by omega) (fun G4 k4 _ e5 q5 f4 => ?_)
    rw [nI_add]
    refine ih (t + 1) G4 (by omega) k4 (l3.fr f4 (fG_F (by omega)) (fun k => fG_F (by omega))) (fun u hu => ?_) (f3.trans f4.GU)
    rcases Nat.lt_succ_iff_lt_or_eq.mp hu with q | q
    · rw [q5 u (by omega)]; exact g3 u q
    · subst q; exact e5
  | zero =>
    intro t G3 hm k3 l3 g3 f3
    have hC3 := hC.fU hP f3
    have e4 : mg_i G3 62 4 = nI (ps_t P).length := hC3.2.1.1
    have hg3 : gv_ G3 P r n := ⟨e4, fun u hu c hc => by
      rcases k3.2.2.2.2 u (by omega) with z | ⟨-, z⟩
      · exact absurd (z.symm.trans (g3 u (by omega))) (by decide)
      · exact (z c hc).1⟩
    refine p_X9_fewestTrials_11 _ _ _ _ ⟨fun _ => s_unlike (d := d + 9) hP hn hg3 l3 (fun G4 L m4 s4 u4 c4 f4 => ?_), fun y => absurd (by rw [e4]; exact nI_le (by omega) (by omega)) y⟩
    have hW : ∀ x, isW_ (eC_ P r n) (ps_t P).length (fun y => y ∈ L) x → isW_ (oD_ P r) (ps_t P).length (fun s => s ∈ sp_ P r n k) x := by
      intro x hx
      refine isW_bi (fun a ha => ?_) (fun s hsm => ?_) hx
      · refine ⟨sv_ P r n a, ?_, fun t ht => rfl⟩
        unfold sp_
        exact List.mem_map.2 ⟨a, u4 a ha, rfl⟩
      · unfold sp_ at hsm
        obtain ⟨x0, x1, x2⟩ := List.mem_map.1 hsm
        obtain ⟨y, y1, y2⟩ := c4 x0 x1
        refine ⟨y, y1, fun t ht => ?_⟩
        rw [← y2 t ht, ← x2]
        rfl
    have hg4 := hg3.fM f4
    have kf : ∀ G5, fr_ (fMb_ 0) G3 G5 → cU_ G5 P := fun G5 f5 => (k3.fr hP hr f5 (fun k _ => fMb_F (by omega)) (fun c k hc => fMb_F (by omega))).cU hr hn
    suffices H : ∀ w j G5, j + w = 5 → fr_ (fMb_ 1) G4 G5 → (∀ i, i < j → ¬ sN_ (eC_ P r n) (ps_t P).length i (fun y => y ∈ L)) → mV l κ true ((d + 6) + 5) 0 0 m_X9_fewestTrials 44 [some (.ref 175), some (.int (nI r)), some (.int (nI n)), some (.int (nI k)), some (.int (nI L.length)), some (.int (nI j))] [] G5 (rI K) from
      H 5 0 G4 rfl fr_.rfl' (fun i hi => absurd hi (Nat.not_lt_zero i))
    intro w
    induction w with
    | zero =>
      intro j G5 hj f5 hno
      have f35 := f4.trans (fMb_up f5 (by omega))
      exact p_X9_fewestTrials_44 _ _ _ _ _ ⟨fun _ => h G5 _ (kf G5 f35) (f3.trans f35.MU) (hW _ (Or.inr ⟨fun i hi => hno i (by omega), rfl⟩)), fun y => absurd (by rw [nI_ltI (by omega) (by omega)]; omega) y⟩
    | succ w ihw =>
      intro j G5 hj f5 hno
      refine p_X9_fewestTrials_44 _ _ _ _ _ ⟨fun y => absurd y (by rw [nI_ltI (by omega) (by omega)]; omega), fun _ => ?_⟩
      have ed : d + 6 + 4 = (d + 2 * (4 - j)) + 2 + 2 * j := by omega
      rw [ed, nI_add]
      refine s_settles hP hn j 0 (d + 2 * (4 - j)) L G5 _ (by omega) (hg4.fM f5) (m4.fM f5 (by omega)) s4 (fun G6 q6 f6 => ⟨fun y => absurd y (by decide), fun _ => ?_⟩) (fun G6 q6 f6 => ⟨fun _ => ?_, fun y => absurd (by decide) y⟩)
      · have f36 := f4.trans (fMb_up (f5.trans f6) (by omega))
        exact h G6 _ (kf G6 f36) (f3.trans f36.MU) (hW _ (Or.inl ⟨j, by omega, rfl, q6, hno⟩))
      · refine ihw (j + 1) G6 (by omega) (f5.trans f6) (fun i hi => ?_)
        rcases Nat.lt_succ_iff_lt_or_eq.mp hi with q | q
        · exact hno i q
        · subst q; exact q6
theorem c_most {l : Launch} {κ : mm_K} {d : Nat} {G : mm_G} {K : Int32 → mm_G → Prop} {P : ps_T} (a b c : Int32) (hP : ps_ok P) (hC : cB_ G P) (hU : cU_ G P) (h : ∀ G' x, cU_ G' P → fr_ fU_ G G' → sgm_ P a b c x → K x G') : mC l κ true (d + 12) 0 0 m_X12_most [.ref 0, .int a, .int b, .int c] G (rI K) := by
  unfold sgm_ at h
  show mC l κ true ((d + 6) + 6) 0 0 m_X12_most _ G (rI K)
  refine e_X12_most a b c (s_canSuspect (d := d + 10) a b c hP hC (fun e => ⟨fun _ => ?_, fun y => absurd (by decide) y⟩) (fun r n k e hr ea hn eb hk ec hs => ⟨fun y => absurd y (by decide), fun _ => ?_⟩))
  · rw [e] at h; exact h G _ hU fr_.rfl' rfl
  · rw [e] at h
    subst ea eb ec
    exact s_fewestT hP hC hU hr hn hk hs (fun G2 x u2 f2 hN => h G2 x u2 f2 hN)
