/-! most: the reference -/
def eR_ (P : ps_T) (r : Nat) (S : List Nat) : de_T := fun t i => oD_ P r t (S.getD i 0)
def pA_ (S : List Nat) (A : Nat → Bool) (i : Nat) : Prop := i < S.length ∧ A i = true
def lv_ (G : mm_G) (S : List Nat) (lv : Nat) (A : Nat → Bool) : Prop := ∀ s, s < S.length → mg_i G 277 (140 * lv + s) = if A s = true then nI 1 else nI 0
def gw_ (G : mm_G) (P : ps_T) (r : Nat) (S : List Nat) : Prop := mg_i G 226 72 = nI S.length ∧ (∃ w, w < 2 ∧ mg_i G 226 18 = nI w ∧ mg_i G 249 w = nI (ps_t P).length) ∧ ∀ t, t < (ps_t P).length → mGr_ G P r S t S.length
def f7_ (a c k : Nat) : Bool := decide (c = 277) && decide (140 * a ≤ k)
theorem f7_F {a c k : Nat} (h : c ≠ 277 ∨ k < 140 * a) : f7_ a c k = false := by
  unfold f7_
  rcases h with z | z
  · rw [decide_eq_false z]; rfl
  · rw [decide_eq_false (p := 140 * a ≤ k) (by omega), Bool.and_false]
theorem f7_T {a k : Nat} (h : 140 * a ≤ k) : f7_ a 277 k = true := by
  unfold f7_
  rw [decide_eq_true h]
  rfl
theorem f7_up {a b : Nat} {G G1 : mm_G} (h : fr_ (f7_ a) G G1) (hb : b ≤ a) : fr_ (f7_ b) G G1 := h.mono (fun c k q => by
  by_cases z : c = 277 ∧ 140 * a ≤ k
  · obtain ⟨rfl, z⟩ := z
    rw [f7_T (by omega)] at q; cases q
  · exact f7_F (by omega))
theorem lv_.f7 {G G1 : mm_G} {S : List Nat} {lv a : Nat} {A : Nat → Bool} (h : lv_ G S lv A) (hS : S.length ≤ 120) (hf : fr_ (f7_ a) G G1) (hl : lv < a) : lv_ G1 S lv A := fun s hs => by
  rw [hf.i _ _ (f7_F (by omega))]
  exact h s hs
theorem gw_.f7 {G G1 : mm_G} {P : ps_T} {r a : Nat} {S : List Nat} (h : gw_ G P r S) (hf : fr_ (f7_ a) G G1) : gw_ G1 P r S := by
  obtain ⟨h1, ⟨w, w1, w2, w3⟩, h3⟩ := h
  exact ⟨by rw [hf.i _ _ (f7_F (by omega))]; exact h1, ⟨w, w1, by rw [hf.i _ _ (f7_F (by omega))]; exact w2, by rw [hf.i _ _ (f7_F (by omega))]; exact w3⟩, fun t ht c hc => by rw [hf.i _ _ (f7_F (by omega))]; exact h3 t ht c hc⟩
theorem gq_le {P : ps_T} {r t c : Nat} {S : List Nat} : gq_ P r t S c ≤ c := fa_first_le _ _
theorem lv_1 {G : mm_G} {S : List Nat} {lv s : Nat} {A : Nat → Bool} (h : lv_ G S lv A) (hs : s < S.length) (ha : A s = true) : mg_i G 277 (140 * lv + s) = nI 1 := by
  rw [h s hs, if_pos ha]
theorem lv_0 {G : mm_G} {S : List Nat} {lv s : Nat} {A : Nat → Bool} (h : lv_ G S lv A) (hs : s < S.length) (ha : A s = false) : mg_i G 277 (140 * lv + s) = nI 0 := by
  rw [h s hs, if_neg (by rw [ha]; decide)]
theorem t_isDone {l : Launch} {κ : mm_K} {d : Nat} {G : mm_G} {K : Int32 → mm_G → Prop} {P : ps_T} {r lv : Nat} {S : List Nat} {A : Nat → Bool} (hP : ps_ok P) (hS : S.length ≤ 120) (hl : lv < 5) (hg : gw_ G P r S) (hA : lv_ G S lv A) (h1 : dnn_ (eR_ P r S) (ps_t P).length (pA_ S A) → K (nI 1) G) (h0 : ¬ dnn_ (eR_ P r S) (ps_t P).length (pA_ S A) → K (nI 0) G) : mC l κ true d 0 0 m_X13_isDone [.ref 226, .int (nI lv)] G (rI K) := by
  have ht8 := hP.2.1.1
  obtain ⟨g1, ⟨w, w1, w2, w3⟩, g3⟩ := hg
  refine e_X13_isDone _ ?_
  suffices H : ∀ m s (fi : Int32), s + m = S.length → ((fi = -1 ∧ ∀ j, j < s → A j = false) ∨ ∃ f, f < s ∧ fi = nI f ∧ A f = true ∧ ∀ j, j < s → A j = true → ∀ t, t < (ps_t P).length → eR_ P r S t j = eR_ P r S t f) → mV l κ true d 0 0 m_X13_isDone 4 [some (.ref 226), some (.int (nI lv)), some (.int fi), some (.int (nI s)), none] [] G (rI K) from
    H _ 0 (-1) (Nat.zero_add _) (Or.inl ⟨rfl, fun j hj => absurd hj (Nat.not_lt_zero j)⟩)
  intro m
  induction m with
  | zero =>
    intro s fi hs hf
    refine p_X13_isDone_4 _ _ _ ⟨fun _ => h1 (fun a b ha hb t ht => ?_), fun y => absurd (by rw [g1]; exact nI_le (by omega) (by omega)) y⟩
    obtain ⟨a1, a2⟩ := ha
    obtain ⟨b1, b2⟩ := hb
    rcases hf with ⟨q1, q2⟩ | ⟨f, q1, q2, q3, q4⟩
    · rw [q2 a (by omega)] at a2; cases a2
    · rw [q4 a (by omega) a2 t ht, q4 b (by omega) b2 t ht]
  | succ m ih =>
    intro s fi hs hf
    have hsl : s < S.length := by omega
    refine p_X13_isDone_4 _ _ _ ⟨fun y => absurd y (by rw [g1]; exact nI_ge (by omega) (by omega)), fun _ => ?_⟩
    rw [ki_mul, nI_add, nI_clamp (by omega), nI_add]
    refine ⟨(ki_vp (by omega)).2 (by omega), ?_⟩
    -- its deeds against the first's
    have hin : ∀ f, f ≤ s → A f = true → A s = true → (∀ j, j < s → A j = true → ∀ t, t < (ps_t P).length → eR_ P r S t j = eR_ P r S t f) → ∀ e t, t + e = (ps_t P).length → (∀ u, u < t → eR_ P r S u s = eR_ P r S u f) → mV l κ true d 0 0 m_X13_isDone 40 [some (.ref 226), some (.int (nI lv)), some (.int (nI f)), some (.int (nI s)), some (.int (nI t))] [] G (rI K) := by
      intro f hfs af as hall e
      induction e with
      | zero =>
        intro t ht hu
        refine p_X13_isDone_40 _ _ _ _ ?_
        rw [w2, nI_clamp (by omega), w3, nI_add]
        refine ⟨(ki_vp (by omega)).2 (by omega), fun _ => ih (s + 1) (nI f) (by omega) (Or.inr ⟨f, by omega, rfl, af, fun j hj aj t' ht' => ?_⟩), fun y => absurd (nI_le (by omega) (by omega)) y⟩
        rcases Nat.lt_succ_iff_lt_or_eq.mp hj with q | q
        · exact hall j q aj t' ht'
        · subst q; exact hu t' (by omega)
      | succ e ihe =>
        intro t ht hu
        have gs := gq_le (P := P) (r := r) (t := t) (S := S) (c := s)
        have gf := gq_le (P := P) (r := r) (t := t) (S := S) (c := f)
        refine p_X13_isDone_40 _ _ _ _ ?_
        rw [w2, nI_clamp (by omega), w3]
        refine ⟨(ki_vp (by omega)).2 (by omega), fun y => absurd y (nI_ge (by omega) (by omega)), fun _ => ?_⟩
        rw [ki_mul, nI_add, nI_add, nI_add, nI_clamp (by omega), nI_clamp (by omega), g3 t (by omega) s hsl, g3 t (by omega) f (by omega), nI_eq (by omega) (by omega), gq_same]
        refine ⟨(ki_vp (by omega)).2 (by omega), (ki_vp (by omega)).2 (by omega), fun y => ihe (t + 1) (by omega) (fun u hu2 => ?_), fun y => h0 (fun q => y (q s f ⟨hsl, as⟩ ⟨by omega, af⟩ t (by omega)))⟩
        rcases Nat.lt_succ_iff_lt_or_eq.mp hu2 with q | q
        · exact hu u q
        · subst q; exact y
    cases as : A s with
    | false =>
      rw [lv_0 hA hsl as]
      refine ⟨fun y => absurd (by decide) y, fun _ => ih (s + 1) fi (by omega) ?_⟩
      rcases hf with ⟨q1, q2⟩ | ⟨f, q1, q2, q3, q4⟩
      · refine Or.inl ⟨q1, fun j hj => ?_⟩
        rcases Nat.lt_succ_iff_lt_or_eq.mp hj with q | q
        · exact q2 j q
        · subst q; exact as
      · refine Or.inr ⟨f, by omega, q2, q3, fun j hj aj => ?_⟩
        rcases Nat.lt_succ_iff_lt_or_eq.mp hj with q | q
        · exact q4 j q aj
        · subst q; rw [as] at aj; cases aj
    | true =>
      rw [lv_1 hA hsl as]
      refine ⟨fun _ => ⟨fun y => ?_, fun y => ?_⟩, fun y => absurd y (by decide)⟩
      · rcases hf with ⟨q1, q2⟩ | ⟨f, q1, q2, q3, q4⟩
        · exact absurd q1 y
        · subst q2
          exact hin f (by omega) q3 as q4 _ 0 (Nat.zero_add _) (fun u hu => absurd hu (Nat.not_lt_zero u))
      · rcases hf with ⟨q1, q2⟩ | ⟨f, q1, q2, q3, q4⟩
        · exact hin s (Nat.le_refl _) as as (fun j hj aj => by rw [q2 j hj] at aj; cases aj) _ 0 (Nat.zero_add _) (fun u hu => absurd hu (Nat.not_lt_zero u))
        · rw [q2, ki_m1 (by omega)] at y; exact y.elim
theorem t_splits {l : Launch} {κ : mm_K} {d : Nat} {G : mm_G} {K : Int32 → mm_G → Prop} {P : ps_T} {r lv t : Nat} {S : List Nat} {A : Nat → Bool} (hP : ps_ok P) (hS : S.length ≤ 120) (hl : lv < 5) (ht : t < (ps_t P).length) (hg : gw_ G P r S) (hA : lv_ G S lv A) (h1 : (∃ a b, pA_ S A a ∧ pA_ S A b ∧ eR_ P r S t a ≠ eR_ P r S t b) → K (nI 1) G) (h0 : (¬ ∃ a b, pA_ S A a ∧ pA_ S A b ∧ eR_ P r S t a ≠ eR_ P r S t b) → K (nI 0) G) : mC l κ true d 0 0 m_X13_splits [.ref 226, .int (nI lv), .int (nI t)] G (rI K) := by
  have ht8 := hP.2.1.1
  obtain ⟨g1, -, g3⟩ := hg
  refine e_X13_splits _ _ ?_
  suffices H : ∀ m s (fi : Int32), s + m = S.length → ((fi = -1 ∧ ∀ j, j < s → A j = false) ∨ ∃ f, f < s ∧ fi = nI (gq_ P r t S f) ∧ A f = true ∧ ∀ j, j < s → A j = true → eR_ P r S t j = eR_ P r S t f) → mV l κ true d 0 0 m_X13_splits 5 [some (.ref 226), some (.int (nI lv)), some (.int (nI t)), some (.int fi), some (.int (nI s))] [] G (rI K) from
    H _ 0 (-1) (Nat.zero_add _) (Or.inl ⟨rfl, fun j hj => absurd hj (Nat.not_lt_zero j)⟩)
  intro m
  induction m with
  | zero =>
    intro s fi hs hf
    refine p_X13_splits_5 _ _ _ _ ⟨fun _ => h0 ?_, fun y => absurd (by rw [g1]; exact nI_le (by omega) (by omega)) y⟩
    rintro ⟨a, b, ⟨a1, a2⟩, ⟨b1, b2⟩, hne⟩
    rcases hf with ⟨q1, q2⟩ | ⟨f, q1, q2, q3, q4⟩
    · rw [q2 a (by omega)] at a2; cases a2
    · exact hne (by rw [q4 a (by omega) a2, q4 b (by omega) b2])
  | succ m ih =>
    intro s fi hs hf
    have hsl : s < S.length := by omega
    have gs := gq_le (P := P) (r := r) (t := t) (S := S) (c := s)
    refine p_X13_splits_5 _ _ _ _ ⟨fun y => absurd y (by rw [g1]; exact nI_ge (by omega) (by omega)), fun _ => ?_⟩
    rw [ki_mul, ki_mul, nI_add, nI_add, nI_add, nI_clamp (by omega), nI_clamp (by omega), g3 t ht s hsl]
    refine ⟨(ki_vp (by omega)).2 (by omega), ?_⟩
    cases as : A s with
    | false =>
      rw [lv_0 hA hsl as]
      refine ⟨fun y => absurd (by decide) y, fun _ => ih (s + 1) fi (by omega) ?_⟩
      rcases hf with ⟨q1, q2⟩ | ⟨f, q1, q2, q3, q4⟩
      · refine Or.inl ⟨q1, fun j hj => ?_⟩
        rcases Nat.lt_succ_iff_lt_or_eq.mp hj with q | q
        · exact q2 j q
        · subst q; exact as
      · refine Or.inr ⟨f, by omega, q2, q3, fun j hj aj => ?_⟩
        rcases Nat.lt_succ_iff_lt_or_eq.mp hj with q | q
        · exact q4 j q aj
        · subst q; rw [as] at aj; cases aj
    | true =>
      rw [lv_1 hA hsl as]
      refine ⟨fun _ => ⟨fun y => ⟨(ki_vp (by omega)).2 (by omega), ?_⟩, fun y => ⟨(ki_vp (by omega)).2 (by omega), (ki_vp (by omega)).2 (by omega), fun _ => ?_, fun z => absurd rfl z⟩⟩, fun y => absurd y (by decide)⟩
      · rcases hf with ⟨q1, q2⟩ | ⟨f, q1, q2, q3, q4⟩
        · exact absurd q1 y
        · subst q2
          have gf := gq_le (P := P) (r := r) (t := t) (S := S) (c := f)
          rw [nI_eq (by omega) (by omega), gq_same]
          refine ⟨fun z => ih (s + 1) _ (by omega) (Or.inr ⟨f, by omega, rfl, q3, fun j hj aj => ?_⟩), fun z => h1 ⟨s, f, ⟨hsl, as⟩, ⟨by omega, q3⟩, z⟩⟩
          rcases Nat.lt_succ_iff_lt_or_eq.mp hj with q | q
          · exact q4 j q aj
          · subst q; exact z
      · rcases hf with ⟨q1, q2⟩ | ⟨f, q1, q2, q3, q4⟩
        · refine ih (s + 1) _ (by omega) (Or.inr ⟨s, by omega, rfl, as, fun j hj aj => ?_⟩)
          rcases Nat.lt_succ_iff_lt_or_eq.mp hj with q | q
          · rw [q2 j q] at aj; cases aj
          · subst q; rfl
        · have gf := gq_le (P := P) (r := r) (t := t) (S := S) (c := f)
          rw [q2, ki_m1 (by omega)] at y; exact y.elim
def aG_ (P : ps_T) (r t : Nat) (S : List Nat) (A : Nat → Bool) (g s : Nat) : Bool := A s && decide (gq_ P r t S s = g)
theorem t_parts {l : Launch} {κ : mm_K} {d : Nat} {G : mm_G} {K : Int32 → mm_G → Prop} {P : ps_T} {r lv t g : Nat} {S : List Nat} {A : Nat → Bool} (hP : ps_ok P) (hS : S.length ≤ 120) (hl : lv < 4) (ht : t < (ps_t P).length) (hgl : g < 120) (hg : gw_ G P r S) (hA : lv_ G S lv A)
    (h1 : ∀ G' a, pA_ S (aG_ P r t S A g) a → lv_ G' S (lv + 1) (aG_ P r t S A g) → fr_ (f7_ (lv + 1)) G G' → K (nI 1) G') (h0 : ∀ G', (∀ a, ¬ pA_ S (aG_ P r t S A g) a) → fr_ (f7_ (lv + 1)) G G' → K (nI 0) G') : mC l κ true d 0 0 m_X13_parts [.ref 226, .int (nI lv), .int (nI t), .int (nI g)] G (rI K) := by
  have ht8 := hP.2.1.1
  refine e_X13_parts _ _ _ ?_
  suffices H : ∀ m s (so : Int32) G1, s + m = S.length → ((so = nI 0 ∧ ∀ j, j < s → aG_ P r t S A g j = false) ∨ (so = nI 1 ∧ ∃ j, j < s ∧ aG_ P r t S A g j = true)) → fr_ (f7_ (lv + 1)) G G1 → (∀ j, j < s → mg_i G1 277 (140 * (lv + 1) + j) = if aG_ P r t S A g j = true then nI 1 else nI 0) → mV l κ true d 0 0 m_X13_parts 6 [some (.ref 226), some (.int (nI lv)), some (.int (nI t)), some (.int (nI g)), some (.int so), some (.int (nI s)), none] [] G1 (rI K) from
    H _ 0 (nI 0) G (Nat.zero_add _) (Or.inl ⟨rfl, fun j hj => absurd hj (Nat.not_lt_zero j)⟩) fr_.rfl' (fun j hj => absurd hj (Nat.not_lt_zero j))
  intro m
  induction m with
  | zero =>
    intro s so G1 hs hso f1 b1
    have g1 := (hg.f7 f1).1
    refine p_X13_parts_6 _ _ _ _ _ ⟨fun _ => ?_, fun y => absurd (by rw [g1]; exact nI_le (by omega) (by omega)) y⟩
    rcases hso with ⟨q1, q2⟩ | ⟨q1, j, q2, q3⟩
    · subst q1
      exact ⟨Or.inl (by decide), h0 G1 (fun a ha => by
        have a1 := ha.1
        have a2 := ha.2
        rw [q2 a (by omega)] at a2
        cases a2) f1⟩
    · subst q1
      exact ⟨Or.inr (by decide), h1 G1 j ⟨by omega, q3⟩ (fun j hj => b1 j (by omega)) f1⟩
  | succ m ih =>
    intro s so G1 hs hso f1 b1
    have hsl : s < S.length := by omega
    have g1 := (hg.f7 f1).1
    have g3 := (hg.f7 f1).2.2
    have hA1 := hA.f7 hS f1 (Nat.lt_succ_self lv)
    have gs := gq_le (P := P) (r := r) (t := t) (S := S) (c := s)
    have hput : ∀ (v so' : Int32), v = (if aG_ P r t S A g s = true then nI 1 else nI 0) → ((so' = nI 0 ∧ so = nI 0 ∧ aG_ P r t S A g s = false) ∨ (so' = nI 1 ∧ (so = nI 1 ∨ aG_ P r t S A g s = true))) → mV l κ true d 0 0 m_X13_parts 6 [some (.ref 226), some (.int (nI lv)), some (.int (nI t)), some (.int (nI g)), some (.int so'), some (.int (nI (s + 1))), none] [] (ms_i G1 277 (140 * lv + 140 + s) v) (rI K) := by
      intro v so' hv hso'
      refine ih (s + 1) so' _ (by omega) ?_ (f1.si (f7_T (by omega))) (fun j hj => ?_)
      · rcases hso' with ⟨c1, c2, c3⟩ | ⟨c1, c2⟩
        · refine Or.inl ⟨c1, fun j hj => ?_⟩
          rcases hso with ⟨q1, q2⟩ | ⟨q1, q2⟩
          · rcases Nat.lt_succ_iff_lt_or_eq.mp hj with q | q
            · exact q2 j q
            · subst q; exact c3
          · rw [c2] at q1; exact absurd q1 (by decide)
        · refine Or.inr ⟨c1, ?_⟩
          rcases c2 with c2 | c2
          · rcases hso with ⟨q1, q2⟩ | ⟨q1, j, q2, q3⟩
            · rw [c2] at q1; exact absurd q1 (by decide)
            · exact ⟨j, by omega, q3⟩
          · exact ⟨s, by omega, c2⟩
      · simp only [mg_i_i, mg_i_l, mg_i_r, mg_i_b, mg_l_i, mg_l_l, mg_l_r, mg_l_b, mg_r_i, mg_r_l, mg_r_r, mg_r_b, false_and, and_false, true_and, and_true, reduceCtorEq, if_true, if_false, reduceIte, Nat.reduceEqDiff, Nat.reduceAdd, Nat.succ_ne_self, ne_eq, not_false_eq_true, not_true_eq_false]
        rcases Nat.lt_succ_iff_lt_or_eq.mp hj with q | q
        · rw [if_neg (by omega)]; exact b1 j q
        · subst q; rw [if_pos (by omega)]; exact hv
    have hso01 : so = nI 0 ∨ so = nI 1 := by
      rcases hso with ⟨q1, q2⟩ | ⟨q1, q2⟩
      · exact Or.inl q1
      · exact Or.inr q1
    have hcase : ∀ v : Int32, (v = nI 0 ∨ v = nI 1) → (aG_ P r t S A g s = true ↔ v = nI 1) → ((¬ so = 0 → mV l κ true d 0 0 m_X13_parts 6 [some (.ref 226), some (.int (nI lv)), some (.int (nI t)), some (.int (nI g)), some (.int (nI 1)), some (.int (nI (s + 1))), none] [] (ms_i G1 277 (140 * lv + 140 + s) (vp_nar .boolean v)) (rI K)) ∧ (so = 0 → ((v = 0 → mV l κ true d 0 0 m_X13_parts 6 [some (.ref 226), some (.int (nI lv)), some (.int (nI t)), some (.int (nI g)), some (.int (nI 0)), some (.int (nI (s + 1))), none] [] (ms_i G1 277 (140 * lv + 140 + s) (vp_nar .boolean v)) (rI K)) ∧ (¬ v = 0 → mV l κ true d 0 0 m_X13_parts 6 [some (.ref 226), some (.int (nI lv)), some (.int (nI t)), some (.int (nI g)), some (.int (nI 1)), some (.int (nI (s + 1))), none] [] (ms_i G1 277 (140 * lv + 140 + s) (vp_nar .boolean v)) (rI K))))) := by
      intro v hv hiff
      have hv2 : vp_nar .boolean v = (if aG_ P r t S A g s = true then nI 1 else nI 0) := by
        rcases hv with q | q
        · subst q; rw [if_neg (fun e => absurd (hiff.1 e) (by decide))]; decide +kernel
        · subst q; rw [if_pos (hiff.2 rfl)]; decide +kernel
      rw [ki_0]
      refine ⟨fun y => hput _ _ hv2 (Or.inr ⟨rfl, Or.inl (hso01.resolve_left y)⟩), fun y => ⟨fun z => hput _ _ hv2 (Or.inl ⟨rfl, y, ?_⟩), fun z => hput _ _ hv2 (Or.inr ⟨rfl, Or.inr (hiff.2 (hv.resolve_left z))⟩)⟩⟩
      cases e : aG_ P r t S A g s with
      | false => rfl
      | true => exact absurd (z.symm.trans (hiff.1 e)) (by decide)
    refine p_X13_parts_6 _ _ _ _ _ ⟨fun y => absurd y (by rw [g1]; exact nI_ge (by omega) (by omega)), fun _ => ?_⟩
    rw [ki_mul, ki_mul, nI_add, nI_add, nI_add, nI_add, nI_add, nI_clamp (n := 140 * lv + s) (by omega), nI_clamp (n := 140 * lv + 140 + s) (by omega), nI_clamp (n := 140 * t + s) (by omega), g3 t ht s hsl, nI_eq (by omega) (by omega)]
    refine ⟨(ki_vp (by omega)).2 (by omega), fun y => ⟨(ki_vp (by omega)).2 (by omega), hcase (nI 0) (Or.inl rfl) ?_⟩, fun y => ⟨(ki_vp (by omega)).2 (by omega), fun z => ⟨(ki_vp (by omega)).2 (by omega), hcase (nI 0) (Or.inl rfl) ?_⟩, fun z => ⟨(ki_vp (by omega)).2 (by omega), hcase (nI 1) (Or.inr rfl) ?_⟩⟩⟩
    · constructor
      · intro e
        unfold aG_ at e
        rw [Bool.and_eq_true] at e
        rw [lv_1 hA1 hsl e.1] at y
        exact absurd y (by decide)
      · intro e; exact absurd e (by decide)
    · constructor
      · intro e
        unfold aG_ at e
        rw [Bool.and_eq_true] at e
        exact absurd (of_decide_eq_true e.2) z
      · intro e; exact absurd e (by decide)
    · refine ⟨fun _ => rfl, fun _ => ?_⟩
      unfold aG_
      rw [Bool.and_eq_true]
      refine ⟨?_, decide_eq_true z⟩
      cases as : A s with
      | true => rfl
      | false => rw [lv_0 hA1 hsl as] at y; exact absurd (by decide) y
theorem gq_id {P : ps_T} {r t c : Nat} {S : List Nat} : gq_ P r t S (gq_ P r t S c) = gq_ P r t S c := by
  have hle : gq_ P r t S c ≤ c := fa_first_le _ _
  rcases Nat.lt_or_eq_of_le hle with y | y
  · exact gq_same.2 (of_decide_eq_true (fa_first_yes (fun j => decide (oD_ P r t (S.getD j 0) = oD_ P r t (S.getD c 0))) c y))
  · rw [y, y]
/-- what a trial must do -/
def qT_ (P : ps_T) (r k : Nat) (S : List Nat) (A : Nat → Bool) (t : Nat) : Prop := (∃ a b, pA_ S A a ∧ pA_ S A b ∧ eR_ P r S t a ≠ eR_ P r S t b) ∧ ∀ a, pA_ S A a → sN_ (eR_ P r S) (ps_t P).length k (fun b => pA_ S A b ∧ eR_ P r S t b = eR_ P r S t a)
theorem aG_mem {P : ps_T} {r t a : Nat} {S : List Nat} {A : Nat → Bool} (b : Nat) : (pA_ S A b ∧ eR_ P r S t b = eR_ P r S t a) ↔ pA_ S (aG_ P r t S A (gq_ P r t S a)) b := by
  unfold pA_ aG_
  rw [Bool.and_eq_true, decide_eq_true_eq, gq_same]
  exact ⟨fun q => ⟨q.1.1, q.1.2, q.2⟩, fun q => ⟨⟨q.1, q.2.1⟩, q.2.2⟩⟩
theorem t_inOne {l : Launch} {κ : mm_K} {d : Nat} {G : mm_G} {K : Int32 → mm_G → Prop} {P : ps_T} {r lv : Nat} {S : List Nat} {A : Nat → Bool} (hP : ps_ok P) (hS : S.length ≤ 120) (hl : lv + 1 ≤ 4) (hg : gw_ G P r S) (hA : lv_ G S lv A) (h1 : ∀ G', sN_ (eR_ P r S) (ps_t P).length 1 (pA_ S A) → fr_ (f7_ (lv + 1)) G G' → K (nI 1) G') (h0 : ∀ G', ¬ sN_ (eR_ P r S) (ps_t P).length 1 (pA_ S A) → fr_ (f7_ (lv + 1)) G G' → K (nI 0) G') : mC l κ true (d + 1) 0 0 m_X13_inOne [.ref 226, .int (nI lv)] G (rI K) := by
  have ht8 := hP.2.1.1
  refine e_X13_inOne _ (t_isDone hP hS (by omega) hg hA (fun q => ⟨fun y => absurd y (by decide), fun _ => h1 G (Or.inl q) fr_.rfl'⟩) (fun hnd => ⟨fun _ => ?_, fun y => absurd (by decide) y⟩))
  suffices H : ∀ m t G1, t + m = (ps_t P).length → (∀ u, u < t → ¬ qT_ P r 0 S A u) → fr_ (f7_ (lv + 1)) G G1 → mV l κ true (d + 1) 0 0 m_X13_inOne 12 [some (.ref 226), some (.int (nI lv)), some (.int (nI t)), none, none] [] G1 (rI K) from
    H _ 0 G (Nat.zero_add _) (fun u hu => absurd hu (Nat.not_lt_zero u)) fr_.rfl'
  intro m
  induction m with
  | zero =>
    intro t G1 hm hno f1
    obtain ⟨g1, ⟨w, w1, w2, w3⟩, g3⟩ := hg.f7 f1
    refine p_X13_inOne_12 _ _ ?_
    rw [w2, nI_clamp (by omega), w3]
    refine ⟨(ki_vp (by omega)).2 (by omega), fun _ => h0 G1 (fun q => ?_) f1, fun y => absurd (nI_le (by omega) (by omega)) y⟩
    rcases q with q | ⟨u, u1, u2, u3⟩
    · exact hnd q
    · exact hno u (by omega) ⟨u2, u3⟩
  | succ m ihm =>
    intro t G1 hm hno f1
    have hg1 := hg.f7 f1
    obtain ⟨g1, ⟨w, w1, w2, w3⟩, g3⟩ := hg.f7 f1
    have ht : t < (ps_t P).length := by omega
    refine p_X13_inOne_12 _ _ ?_
    rw [w2, nI_clamp (by omega), w3]
    refine ⟨(ki_vp (by omega)).2 (by omega), fun y => absurd y (nI_ge (by omega) (by omega)), fun _ => ?_⟩
    have hfail : ∀ G2, fr_ (f7_ (lv + 1)) G G2 → ¬ qT_ P r 0 S A t → mV l κ true (d + 1) 0 0 m_X13_inOne 12 [some (.ref 226), some (.int (nI lv)), some (.int (nI t + nI 1)), none, none] [] G2 (rI K) := by
      intro G2 f2 hq
      rw [nI_add]
      refine ihm (t + 1) G2 (by omega) (fun u hu => ?_) f2
      rcases Nat.lt_succ_iff_lt_or_eq.mp hu with q | q
      · exact hno u q
      · subst q; exact hq
    have hflag0 : ∀ G2 g, fr_ (f7_ (lv + 1)) G G2 → g ≤ S.length → ¬ qT_ P r 0 S A t → mV l κ true (d + 1) 0 0 m_X13_inOne 35 [some (.ref 226), some (.int (nI lv)), some (.int (nI t)), some (.int (nI 0)), some (.int (nI g))] [] G2 (rI K) := by
      intro G2 g f2 hgl hq
      have hh := hfail G2 f2 hq
      exact p_X13_inOne_35 _ _ _ _ ⟨fun _ => ⟨fun _ => hh, fun y => absurd (by decide) y⟩, fun _ => ⟨fun _ => ⟨fun _ => hh, fun y => absurd (by decide) y⟩, fun y => absurd (by decide) y⟩⟩
    refine t_splits hP hS (by omega) ht hg1 (hA.f7 hS f1 (Nat.lt_succ_self lv)) (fun hsp => ?_) (fun hsp => hflag0 G1 0 f1 (Nat.zero_le _) (fun q => hsp q.1))
    suffices H : ∀ e g G2, g + e = S.length → (∀ g', g' < g → gq_ P r t S g' = g' → (∃ a, pA_ S (aG_ P r t S A g') a) → sN_ (eR_ P r S) (ps_t P).length 0 (pA_ S (aG_ P r t S A g'))) → fr_ (f7_ (lv + 1)) G G2 → mV l κ true (d + 1) 0 0 m_X13_inOne 35 [some (.ref 226), some (.int (nI lv)), some (.int (nI t)), some (.int (nI 1)), some (.int (nI g))] [] G2 (rI K) from
      H _ 0 G1 (Nat.zero_add _) (fun g' hg' => absurd hg' (Nat.not_lt_zero g')) f1
    intro e
    induction e with
    | zero =>
      intro g G2 he hall f2
      have g1 := (hg.f7 f2).1
      refine p_X13_inOne_35 _ _ _ _ ⟨fun _ => ⟨fun y => absurd y (by decide), fun _ => h1 G2 (Or.inr ⟨t, ht, hsp, fun a ha => ?_⟩) f2⟩, fun y => absurd (by rw [g1]; exact nI_le (by omega) (by omega)) y⟩
      have hga := gq_le (P := P) (r := r) (t := t) (S := S) (c := a)
      have hal := ha.1
      exact sN_cg (fun b => (aG_mem b).symm) (hall (gq_ P r t S a) (by omega) gq_id ⟨a, (aG_mem a).1 ⟨ha, rfl⟩⟩)
    | succ e ihe =>
      intro g G2 he hall f2
      have hgS : g < S.length := by omega
      have hg2 := hg.f7 f2
      have g1 := hg2.1
      have gg := gq_le (P := P) (r := r) (t := t) (S := S) (c := g)
      refine p_X13_inOne_35 _ _ _ _ ⟨fun y => absurd y (by rw [g1]; exact nI_ge (by omega) (by omega)), fun _ => ⟨fun y => absurd y (by decide), fun _ => ?_⟩⟩
      rw [ki_mul, nI_add, nI_add, nI_add, nI_clamp (by omega), hg2.2.2 t ht g hgS, nI_eq (by omega) (by omega)]
      have hskip : ∀ G3, fr_ (f7_ (lv + 1)) G G3 → (gq_ P r t S g = g → (∃ a, pA_ S (aG_ P r t S A g) a) → sN_ (eR_ P r S) (ps_t P).length 0 (pA_ S (aG_ P r t S A g))) → mV l κ true (d + 1) 0 0 m_X13_inOne 35 [some (.ref 226), some (.int (nI lv)), some (.int (nI t)), some (.int (nI 1)), some (.int (nI (g + 1)))] [] G3 (rI K) := by
        intro G3 f3 hq
        refine ihe (g + 1) G3 (by omega) (fun g' hg' => ?_) f3
        rcases Nat.lt_succ_iff_lt_or_eq.mp hg' with q | q
        · exact hall g' q
        · subst q; exact hq
      refine ⟨(ki_vp (by omega)).2 (by omega), fun y => hskip G2 f2 (fun q => absurd q y), fun y => ?_⟩
      refine t_parts hP hS (by omega) ht (by omega) hg2 (hA.f7 hS f2 (Nat.lt_succ_self lv)) (fun G3 a pa l3 f3 => ⟨fun z => absurd z (by decide), fun _ => ?_⟩) (fun G3 no f3 => ⟨fun _ => hskip G3 (f2.trans f3) (fun _ q => by
        obtain ⟨a, ha⟩ := q
        exact absurd ha (no a)), fun z => absurd (by decide) z⟩)
      have f23 := f2.trans f3
      have hbad : ¬ sN_ (eR_ P r S) (ps_t P).length 0 (pA_ S (aG_ P r t S A g)) → ¬ qT_ P r 0 S A t := by
        intro hb q
        have pa2 := pa.2
        unfold aG_ at pa2
        rw [Bool.and_eq_true, decide_eq_true_eq] at pa2
        refine hb ?_
        rw [← pa2.2]
        exact sN_cg (fun b => aG_mem b) (q.2 a ⟨pa.1, pa2.1⟩)
      refine t_isDone hP hS (by omega) (hg2.f7 f3) l3 (fun q => hskip G3 f23 (fun _ _ => q)) (fun q => hflag0 G3 (g + 1) f23 (by omega) (hbad q))
theorem t_inTwo {l : Launch} {κ : mm_K} {d : Nat} {G : mm_G} {K : Int32 → mm_G → Prop} {P : ps_T} {r lv : Nat} {S : List Nat} {A : Nat → Bool} (hP : ps_ok P) (hS : S.length ≤ 120) (hl : lv + 2 ≤ 4) (hg : gw_ G P r S) (hA : lv_ G S lv A) (h1 : ∀ G', sN_ (eR_ P r S) (ps_t P).length 2 (pA_ S A) → fr_ (f7_ (lv + 1)) G G' → K (nI 1) G') (h0 : ∀ G', ¬ sN_ (eR_ P r S) (ps_t P).length 2 (pA_ S A) → fr_ (f7_ (lv + 1)) G G' → K (nI 0) G') : mC l κ true (d + 2) 0 0 m_X13_inTwo [.ref 226, .int (nI lv)] G (rI K) := by
  have ht8 := hP.2.1.1
  refine e_X13_inTwo _ (t_isDone hP hS (by omega) hg hA (fun q => ⟨fun y => absurd y (by decide), fun _ => h1 G (Or.inl q) fr_.rfl'⟩) (fun hnd => ⟨fun _ => ?_, fun y => absurd (by decide) y⟩))
  suffices H : ∀ m t G1, t + m = (ps_t P).length → (∀ u, u < t → ¬ qT_ P r 1 S A u) → fr_ (f7_ (lv + 1)) G G1 → mV l κ true (d + 2) 0 0 m_X13_inTwo 12 [some (.ref 226), some (.int (nI lv)), some (.int (nI t)), none, none] [] G1 (rI K) from
    H _ 0 G (Nat.zero_add _) (fun u hu => absurd hu (Nat.not_lt_zero u)) fr_.rfl'
  intro m
  induction m with
  | zero =>
    intro t G1 hm hno f1
    obtain ⟨g1, ⟨w, w1, w2, w3⟩, g3⟩ := hg.f7 f1
    refine p_X13_inTwo_12 _ _ ?_
    rw [w2, nI_clamp (by omega), w3]
    refine ⟨(ki_vp (by omega)).2 (by omega), fun _ => h0 G1 (fun q => ?_) f1, fun y => absurd (nI_le (by omega) (by omega)) y⟩
    rcases q with q | ⟨u, u1, u2, u3⟩
    · exact hnd q
    · exact hno u (by omega) ⟨u2, u3⟩
  | succ m ihm =>
    intro t G1 hm hno f1
    have hg1 := hg.f7 f1
    obtain ⟨g1, ⟨w, w1, w2, w3⟩, g3⟩ := hg.f7 f1
    have ht : t < (ps_t P).length := by omega
    refine p_X13_inTwo_12 _ _ ?_
    rw [w2, nI_clamp (by omega), w3]
    refine ⟨(ki_vp (by omega)).2 (by omega), fun y => absurd y (nI_ge (by omega) (by omega)), fun _ => ?_⟩
    have hfail : ∀ G2, fr_ (f7_ (lv + 1)) G G2 → ¬ qT_ P r 1 S A t → mV l κ true (d + 2) 0 0 m_X13_inTwo 12 [some (.ref 226), some (.int (nI lv)), some (.int (nI t + nI 1)), none, none] [] G2 (rI K) := by
      intro G2 f2 hq
      rw [nI_add]
      refine ihm (t + 1) G2 (by omega) (fun u hu => ?_) f2
      rcases Nat.lt_succ_iff_lt_or_eq.mp hu with q | q
      · exact hno u q
      · subst q; exact hq
    have hflag0 : ∀ G2 g, fr_ (f7_ (lv + 1)) G G2 → g ≤ S.length → ¬ qT_ P r 1 S A t → mV l κ true (d + 2) 0 0 m_X13_inTwo 35 [some (.ref 226), some (.int (nI lv)), some (.int (nI t)), some (.int (nI 0)), some (.int (nI g))] [] G2 (rI K) := by
      intro G2 g f2 hgl hq
      have hh := hfail G2 f2 hq
      exact p_X13_inTwo_35 _ _ _ _ ⟨fun _ => ⟨fun _ => hh, fun y => absurd (by decide) y⟩, fun _ => ⟨fun _ => ⟨fun _ => hh, fun y => absurd (by decide) y⟩, fun y => absurd (by decide) y⟩⟩
    refine t_splits hP hS (by omega) ht hg1 (hA.f7 hS f1 (Nat.lt_succ_self lv)) (fun hsp => ?_) (fun hsp => hflag0 G1 0 f1 (Nat.zero_le _) (fun q => hsp q.1))
    suffices H : ∀ e g G2, g + e = S.length → (∀ g', g' < g → gq_ P r t S g' = g' → (∃ a, pA_ S (aG_ P r t S A g') a) → sN_ (eR_ P r S) (ps_t P).length 1 (pA_ S (aG_ P r t S A g'))) → fr_ (f7_ (lv + 1)) G G2 → mV l κ true (d + 2) 0 0 m_X13_inTwo 35 [some (.ref 226), some (.int (nI lv)), some (.int (nI t)), some (.int (nI 1)), some (.int (nI g))] [] G2 (rI K) from
      H _ 0 G1 (Nat.zero_add _) (fun g' hg' => absurd hg' (Nat.not_lt_zero g')) f1
    intro e
    induction e with
    | zero =>
      intro g G2 he hall f2
      have g1 := (hg.f7 f2).1
      refine p_X13_inTwo_35 _ _ _ _ ⟨fun _ => ⟨fun y => absurd y (by decide), fun _ => h1 G2 (Or.inr ⟨t, ht, hsp, fun a ha => ?_⟩) f2⟩, fun y => absurd (by rw [g1]; exact nI_le (by omega) (by omega)) y⟩
      have hga := gq_le (P := P) (r := r) (t := t) (S := S) (c := a)
      have hal := ha.1
      exact sN_cg (fun b => (aG_mem b).symm) (hall (gq_ P r t S a) (by omega) gq_id ⟨a, (aG_mem a).1 ⟨ha, rfl⟩⟩)
    | succ e ihe =>
      intro g G2 he hall f2
      have hgS : g < S.length := by omega
      have hg2 := hg.f7 f2
      have g1 := hg2.1
      have gg := gq_le (P := P) (r := r) (t := t) (S := S) (c := g)
      refine p_X13_inTwo_35 _ _ _ _ ⟨fun y => absurd y (by rw [g1]; exact nI_ge (by omega) (by omega)), fun _ => ⟨fun y => absurd y (by decide), fun _ => ?_⟩⟩
      rw [ki_mul, nI_add, nI_add, nI_add, nI_clamp (by omega), hg2.2.2 t ht g hgS, nI_eq (by omega) (by omega)]
      have hskip : ∀ G3, fr_ (f7_ (lv + 1)) G G3 → (gq_ P r t S g = g → (∃ a, pA_ S (aG_ P r t S A g) a) → sN_ (eR_ P r S) (ps_t P).length 1 (pA_ S (aG_ P r t S A g))) → mV l κ true (d + 2) 0 0 m_X13_inTwo 35 [some (.ref 226), some (.int (nI lv)), some (.int (nI t)), some (.int (nI 1)), some (.int (nI (g + 1)))] [] G3 (rI K) := by
        intro G3 f3 hq
        refine ihe (g + 1) G3 (by omega) (fun g' hg' => ?_) f3
        rcases Nat.lt_succ_iff_lt_or_eq.mp hg' with q | q
        · exact hall g' q
        · subst q; exact hq
      refine ⟨(ki_vp (by omega)).2 (by omega), fun y => hskip G2 f2 (fun q => absurd q y), fun y => ?_⟩
      refine t_parts hP hS (by omega) ht (by omega) hg2 (hA.f7 hS f2 (Nat.lt_succ_self lv)) (fun G3 a pa l3 f3 => ⟨fun z => absurd z (by decide), fun _ => ?_⟩) (fun G3 no f3 => ⟨fun _ => hskip G3 (f2.trans f3) (fun _ q => by
        obtain ⟨a, ha⟩ := q
        exact absurd ha (no a)), fun z => absurd (by decide) z⟩)
      have f23 := f2.trans f3
      have hbad : ¬ sN_ (eR_ P r S) (ps_t P).length 1 (pA_ S (aG_ P r t S A g)) → ¬ qT_ P r 1 S A t := by
        intro hb q
        have pa2 := pa.2
        unfold aG_ at pa2
        rw [Bool.and_eq_true, decide_eq_true_eq] at pa2
        refine hb ?_
        rw [← pa2.2]
        exact sN_cg (fun b => aG_mem b) (q.2 a ⟨pa.1, pa2.1⟩)
      refine t_inOne hP hS (by omega) (hg2.f7 f3) l3 (fun G4 q f4 => hskip G4 (f23.trans (f7_up f4 (by omega))) (fun _ _ => q)) (fun G4 q f4 => hflag0 G4 (g + 1) (f23.trans (f7_up f4 (by omega))) (by omega) (hbad q))
theorem t_inThree {l : Launch} {κ : mm_K} {d : Nat} {G : mm_G} {K : Int32 → mm_G → Prop} {P : ps_T} {r lv : Nat} {S : List Nat} {A : Nat → Bool} (hP : ps_ok P) (hS : S.length ≤ 120) (hl : lv + 3 ≤ 4) (hg : gw_ G P r S) (hA : lv_ G S lv A) (h1 : ∀ G', sN_ (eR_ P r S) (ps_t P).length 3 (pA_ S A) → fr_ (f7_ (lv + 1)) G G' → K (nI 1) G') (h0 : ∀ G', ¬ sN_ (eR_ P r S) (ps_t P).length 3 (pA_ S A) → fr_ (f7_ (lv + 1)) G G' → K (nI 0) G') : mC l κ true (d + 3) 0 0 m_X13_inThree [.ref 226, .int (nI lv)] G (rI K) := by
  have ht8 := hP.2.1.1
  refine e_X13_inThree _ (t_isDone hP hS (by omega) hg hA (fun q => ⟨fun y => absurd y (by decide), fun _ => h1 G (Or.inl q) fr_.rfl'⟩) (fun hnd => ⟨fun _ => ?_, fun y => absurd (by decide) y⟩))
  suffices H : ∀ m t G1, t + m = (ps_t P).length → (∀ u, u < t → ¬ qT_ P r 2 S A u) → fr_ (f7_ (lv + 1)) G G1 → mV l κ true (d + 3) 0 0 m_X13_inThree 12 [some (.ref 226), some (.int (nI lv)), some (.int (nI t)), none, none] [] G1 (rI K) from
    H _ 0 G (Nat.zero_add _) (fun u hu => absurd hu (Nat.not_lt_zero u)) fr_.rfl'
  intro m
  induction m with
  | zero =>
    intro t G1 hm hno f1
    obtain ⟨g1, ⟨w, w1, w2, w3⟩, g3⟩ := hg.f7 f1
    refine p_X13_inThree_12 _ _ ?_
    rw [w2, nI_clamp (by omega), w3]
    refine ⟨(ki_vp (by omega)).2 (by omega), fun _ => h0 G1 (fun q => ?_) f1, fun y => absurd (nI_le (by omega) (by omega)) y⟩
    rcases q with q | ⟨u, u1, u2, u3⟩
    · exact hnd q
    · exact hno u (by omega) ⟨u2, u3⟩
  | succ m ihm =>
    intro t G1 hm hno f1
    have hg1 := hg.f7 f1
    obtain ⟨g1, ⟨w, w1, w2, w3⟩, g3⟩ := hg.f7 f1
    have ht : t < (ps_t P).length := by omega
    refine p_X13_inThree_12 _ _ ?_
    rw [w2, nI_clamp (by omega), w3]
    refine ⟨(ki_vp (by omega)).2 (by omega), fun y => absurd y (nI_ge (by omega) (by omega)), fun _ => ?_⟩
    have hfail : ∀ G2, fr_ (f7_ (lv + 1)) G G2 → ¬ qT_ P r 2 S A t → mV l κ true (d + 3) 0 0 m_X13_inThree 12 [some (.ref 226), some (.int (nI lv)), some (.int (nI t + nI 1)), none, none] [] G2 (rI K) := by
      intro G2 f2 hq
      rw [nI_add]
      refine ihm (t + 1) G2 (by omega) (fun u hu => ?_) f2
      rcases Nat.lt_succ_iff_lt_or_eq.mp hu with q | q
      · exact hno u q
      · subst q; exact hq
    have hflag0 : ∀ G2 g, fr_ (f7_ (lv + 1)) G G2 → g ≤ S.length → ¬ qT_ P r 2 S A t → mV l κ true (d + 3) 0 0 m_X13_inThree 35 [some (.ref 226), some (.int (nI lv)), some (.int (nI t)), some (.int (nI 0)), some (.int (nI g))] [] G2 (rI K) := by
      intro G2 g f2 hgl hq
      have hh := hfail G2 f2 hq
      exact p_X13_inThree_35 _ _ _ _ ⟨fun _ => ⟨fun _ => hh, fun y => absurd (by decide) y⟩, fun _ => ⟨fun _ => ⟨fun _ => hh, fun y => absurd (by decide) y⟩, fun y => absurd (by decide) y⟩⟩
    refine t_splits hP hS (by omega) ht hg1 (hA.f7 hS f1 (Nat.lt_succ_self lv)) (fun hsp => ?_) (fun hsp => hflag0 G1 0 f1 (Nat.zero_le _) (fun q => hsp q.1))
    suffices H : ∀ e g G2, g + e = S.length → (∀ g', g' < g → gq_ P r t S g' = g' → (∃ a, pA_ S (aG_ P r t S A g') a) → sN_ (eR_ P r S) (ps_t P).length 2 (pA_ S (aG_ P r t S A g'))) → fr_ (f7_ (lv + 1)) G G2 → mV l κ true (d + 3) 0 0 m_X13_inThree 35 [some (.ref 226), some (.int (nI lv)), some (.int (nI t)), some (.int (nI 1)), some (.int (nI g))] [] G2 (rI K) from
      H _ 0 G1 (Nat.zero_add _) (fun g' hg' => absurd hg' (Nat.not_lt_zero g')) f1
    intro e
    induction e with
    | zero =>
      intro g G2 he hall f2
      have g1 := (hg.f7 f2).1
      refine p_X13_inThree_35 _ _ _ _ ⟨fun _ => ⟨fun y => absurd y (by decide), fun _ => h1 G2 (Or.inr ⟨t, ht, hsp, fun a ha => ?_⟩) f2⟩, fun y => absurd (by rw [g1]; exact nI_le (by omega) (by omega)) y⟩
      have hga := gq_le (P := P) (r := r) (t := t) (S := S) (c := a)
      have hal := ha.1
      exact sN_cg (fun b => (aG_mem b).symm) (hall (gq_ P r t S a) (by omega) gq_id ⟨a, (aG_mem a).1 ⟨ha, rfl⟩⟩)
    | succ e ihe =>
      intro g G2 he hall f2
      have hgS : g < S.length := by omega
      have hg2 := hg.f7 f2
      have g1 := hg2.1
      have gg := gq_le (P := P) (r := r) (t := t) (S := S) (c := g)
      refine p_X13_inThree_35 _ _ _ _ ⟨fun y => absurd y (by rw [g1]; exact nI_ge (by omega) (by omega)), fun _ => ⟨fun y => absurd y (by decide), fun _ => ?_⟩⟩
      rw [ki_mul, nI_add, nI_add, nI_add, nI_clamp (by omega), hg2.2.2 t ht g hgS, nI_eq (by omega) (by omega)]
      have hskip : ∀ G3, fr_ (f7_ (lv + 1)) G G3 → (gq_ P r t S g = g → (∃ a, pA_ S (aG_ P r t S A g) a) → sN_ (eR_ P r S) (ps_t P).length 2 (pA_ S (aG_ P r t S A g))) → mV l κ true (d + 3) 0 0 m_X13_inThree 35 [some (.ref 226), some (.int (nI lv)), some (.int (nI t)), some (.int (nI 1)), some (.int (nI (g + 1)))] [] G3 (rI K) := by
        intro G3 f3 hq
        refine ihe (g + 1) G3 (by omega) (fun g' hg' => ?_) f3
        rcases Nat.lt_succ_iff_lt_or_eq.mp hg' with q | q
        · exact hall g' q
        · subst q; exact hq
      refine ⟨(ki_vp (by omega)).2 (by omega), fun y => hskip G2 f2 (fun q => absurd q y), fun y => ?_⟩
      refine t_parts hP hS (by omega) ht (by omega) hg2 (hA.f7 hS f2 (Nat.lt_succ_self lv)) (fun G3 a pa l3 f3 => ⟨fun z => absurd z (by decide), fun _ => ?_⟩) (fun G3 no f3 => ⟨fun _ => hskip G3 (f2.trans f3) (fun _ q => by
        obtain ⟨a, ha⟩ := q
        exact absurd ha (no a)), fun z => absurd (by decide) z⟩)
      have f23 := f2.trans f3
      have hbad : ¬ sN_ (eR_ P r S) (ps_t P).length 2 (pA_ S (aG_ P r t S A g)) → ¬ qT_ P r 2 S A t := by
        intro hb q
        have pa2 := pa.2
        unfold aG_ at pa2
        rw [Bool.and_eq_true, decide_eq_true_eq] at pa2
        refine hb ?_
        rw [← pa2.2]
        exact sN_cg (fun b => aG_mem b) (q.2 a ⟨pa.1, pa2.1⟩)
      refine t_inTwo hP hS (by omega) (hg2.f7 f3) l3 (fun G4 q f4 => hskip G4 (f23.trans (f7_up f4 (by omega))) (fun _ _ => q)) (fun G4 q f4 => hflag0 G4 (g + 1) (f23.trans (f7_up f4 (by omega))) (by omega) (hbad q))
theorem t_inFour {l : Launch} {κ : mm_K} {d : Nat} {G : mm_G} {K : Int32 → mm_G → Prop} {P : ps_T} {r lv : Nat} {S : List Nat} {A : Nat → Bool} (hP : ps_ok P) (hS : S.length ≤ 120) (hl : lv + 4 ≤ 4) (hg : gw_ G P r S) (hA : lv_ G S lv A) (hnd : ¬ dnn_ (eR_ P r S) (ps_t P).length (pA_ S A)) (h1 : ∀ G', sN_ (eR_ P r S) (ps_t P).length 4 (pA_ S A) → fr_ (f7_ (lv + 1)) G G' → K (nI 1) G') (h0 : ∀ G', ¬ sN_ (eR_ P r S) (ps_t P).length 4 (pA_ S A) → fr_ (f7_ (lv + 1)) G G' → K (nI 0) G') : mC l κ true (d + 4) 0 0 m_X13_inFour [.ref 226, .int (nI lv)] G (rI K) := by
  have ht8 := hP.2.1.1
  refine e_X13_inFour _ ?_
  suffices H : ∀ m t G1, t + m = (ps_t P).length → (∀ u, u < t → ¬ qT_ P r 3 S A u) → fr_ (f7_ (lv + 1)) G G1 → mV l κ true (d + 4) 0 0 m_X13_inFour 2 [some (.ref 226), some (.int (nI lv)), some (.int (nI t)), none, none] [] G1 (rI K) from
    H _ 0 G (Nat.zero_add _) (fun u hu => absurd hu (Nat.not_lt_zero u)) fr_.rfl'
  intro m
  induction m with
  | zero =>
    intro t G1 hm hno f1
    obtain ⟨g1, ⟨w, w1, w2, w3⟩, g3⟩ := hg.f7 f1
    refine p_X13_inFour_2 _ _ ?_
    rw [w2, nI_clamp (by omega), w3]
    refine ⟨(ki_vp (by omega)).2 (by omega), fun _ => h0 G1 (fun q => ?_) f1, fun y => absurd (nI_le (by omega) (by omega)) y⟩
    rcases q with q | ⟨u, u1, u2, u3⟩
    · exact hnd q
    · exact hno u (by omega) ⟨u2, u3⟩
  | succ m ihm =>
    intro t G1 hm hno f1
    have hg1 := hg.f7 f1
    obtain ⟨g1, ⟨w, w1, w2, w3⟩, g3⟩ := hg.f7 f1
    have ht : t < (ps_t P).length := by omega
    refine p_X13_inFour_2 _ _ ?_
    rw [w2, nI_clamp (by omega), w3]
    refine ⟨(ki_vp (by omega)).2 (by omega), fun y => absurd y (nI_ge (by omega) (by omega)), fun _ => ?_⟩
    have hfail : ∀ G2, fr_ (f7_ (lv + 1)) G G2 → ¬ qT_ P r 3 S A t → mV l κ true (d + 4) 0 0 m_X13_inFour 2 [some (.ref 226), some (.int (nI lv)), some (.int (nI t + nI 1)), none, none] [] G2 (rI K) := by
      intro G2 f2 hq
      rw [nI_add]
      refine ihm (t + 1) G2 (by omega) (fun u hu => ?_) f2
      rcases Nat.lt_succ_iff_lt_or_eq.mp hu with q | q
      · exact hno u q
      · subst q; exact hq
    have hflag0 : ∀ G2 g, fr_ (f7_ (lv + 1)) G G2 → g ≤ S.length → ¬ qT_ P r 3 S A t → mV l κ true (d + 4) 0 0 m_X13_inFour 25 [some (.ref 226), some (.int (nI lv)), some (.int (nI t)), some (.int (nI 0)), some (.int (nI g))] [] G2 (rI K) := by
      intro G2 g f2 hgl hq
      have hh := hfail G2 f2 hq
      exact p_X13_inFour_25 _ _ _ _ ⟨fun _ => ⟨fun _ => hh, fun y => absurd (by decide) y⟩, fun _ => ⟨fun _ => ⟨fun _ => hh, fun y => absurd (by decide) y⟩, fun y => absurd (by decide) y⟩⟩
    refine t_splits hP hS (by omega) ht hg1 (hA.f7 hS f1 (Nat.lt_succ_self lv)) (fun hsp => ?_) (fun hsp => hflag0 G1 0 f1 (Nat.zero_le _) (fun q => hsp q.1))
    suffices H : ∀ e g G2, g + e = S.length → (∀ g', g' < g → gq_ P r t S g' = g' → (∃ a, pA_ S (aG_ P r t S A g') a) → sN_ (eR_ P r S) (ps_t P).length 3 (pA_ S (aG_ P r t S A g'))) → fr_ (f7_ (lv + 1)) G G2 → mV l κ true (d + 4) 0 0 m_X13_inFour 25 [some (.ref 226), some (.int (nI lv)), some (.int (nI t)), some (.int (nI 1)), some (.int (nI g))] [] G2 (rI K) from
      H _ 0 G1 (Nat.zero_add _) (fun g' hg' => absurd hg' (Nat.not_lt_zero g')) f1
    intro e
    induction e with
    | zero =>
      intro g G2 he hall f2
      have g1 := (hg.f7 f2).1
      refine p_X13_inFour_25 _ _ _ _ ⟨fun _ => ⟨fun y => absurd y (by decide), fun _ => h1 G2 (Or.inr ⟨t, ht, hsp, fun a ha => ?_⟩) f2⟩, fun y => absurd (by rw [g1]; exact nI_le (by omega) (by omega)) y⟩
      have hga := gq_le (P := P) (r := r) (t := t) (S := S) (c := a)
      have hal := ha.1
      exact sN_cg (fun b => (aG_mem b).symm) (hall (gq_ P r t S a) (by omega) gq_id ⟨a, (aG_mem a).1 ⟨ha, rfl⟩⟩)
    | succ e ihe =>
      intro g G2 he hall f2
      have hgS : g < S.length := by omega
      have hg2 := hg.f7 f2
      have g1 := hg2.1
      have gg := gq_le (P := P) (r := r) (t := t) (S := S) (c := g)
      refine p_X13_inFour_25 _ _ _ _ ⟨fun y => absurd y (by rw [g1]; exact nI_ge (by omega) (by omega)), fun _ => ⟨fun y => absurd y (by decide), fun _ => ?_⟩⟩
      rw [ki_mul, nI_add, nI_add, nI_add, nI_clamp (by omega), hg2.2.2 t ht g hgS, nI_eq (by omega) (by omega)]
      have hskip : ∀ G3, fr_ (f7_ (lv + 1)) G G3 → (gq_ P r t S g = g → (∃ a, pA_ S (aG_ P r t S A g) a) → sN_ (eR_ P r S) (ps_t P).length 3 (pA_ S (aG_ P r t S A g))) → mV l κ true (d + 4) 0 0 m_X13_inFour 25 [some (.ref 226), some (.int (nI lv)), some (.int (nI t)), some (.int (nI 1)), some (.int (nI (g + 1)))] [] G3 (rI K) := by
        intro G3 f3 hq
        refine ihe (g + 1) G3 (by omega) (fun g' hg' => ?_) f3
        rcases Nat.lt_succ_iff_lt_or_eq.mp hg' with q | q
        · exact hall g' q
        · subst q; exact hq
      refine ⟨(ki_vp (by omega)).2 (by omega), fun y => hskip G2 f2 (fun q => absurd q y), fun y => ?_⟩
      refine t_parts hP hS (by omega) ht (by omega) hg2 (hA.f7 hS f2 (Nat.lt_succ_self lv)) (fun G3 a pa l3 f3 => ⟨fun z => absurd z (by decide), fun _ => ?_⟩) (fun G3 no f3 => ⟨fun _ => hskip G3 (f2.trans f3) (fun _ q => by
        obtain ⟨a, ha⟩ := q
        exact absurd ha (no a)), fun z => absurd (by decide) z⟩)
      have f23 := f2.trans f3
      have hbad : ¬ sN_ (eR_ P r S) (ps_t P).length 3 (pA_ S (aG_ P r t S A g)) → ¬ qT_ P r 3 S A t := by
        intro hb q
        have pa2 := pa.2
        unfold aG_ at pa2
        rw [Bool.and_eq_true, decide_eq_true_eq] at pa2
        refine hb ?_
        rw [← pa2.2]
        exact sN_cg (fun b => aG_mem b) (q.2 a ⟨pa.1, pa2.1⟩)
      refine t_inThree hP hS (by omega) (hg2.f7 f3) l3 (fun G4 q f4 => hskip G4 (f23.trans (f7_up f4 (by omega))) (fun _ _ => q)) (fun G4 q f4 => hflag0 G4 (g + 1) (f23.trans (f7_up f4 (by omega))) (by omega) (hbad q))
theorem fr_.f7w {a : Nat} {G G1 : mm_G} (h : fr_ (f7_ a) G G1) : fr_ fwz_ G G1 := h.mono (fun c k q => by
  unfold fwz_ at q
  simp only [Bool.or_eq_false_iff] at q
  exact f7_F (Or.inl (of_decide_eq_false q.2)))
theorem m_most {l : Launch} {κ : mm_K} {d : Nat} {G : mm_G} {K : Int32 → mm_G → Prop} {P : ps_T} {w : Nat} (a b c : Int32) (hP : ps_ok P) (hM : mB_ G P w) (h : ∀ G' x, fr_ fwz_ G G' → sgm_ P a b c x → K x G') : mC l κ true (d + 7) 0 0 m_X13_most [.ref 226, .int a, .int b, .int c] G (rI K) := by
  unfold sgm_ at h
  refine e_X13_most a b c (t_canSuspect a b c hP hM (fun e => ⟨fun y => absurd (by decide) y, fun _ => ?_⟩) (fun r n k e hr ea hn eb hk ec hs => ⟨fun _ => ?_, fun y => absurd y (by decide)⟩))
  · rw [e] at h; exact h G _ fr_.rfl' rfl
  · rw [e] at h
    subst ea eb ec
    have hw := hM.1
    have ht8 := hP.2.1.1
    refine t_fillSuspects hP hM hr hn hk hs (fun G2 r2 f2 => ?_)
    have hS := sp_le (r := r) (k := k) hP hn
    have hM2 := hM.fV f2
    refine t_fillGroups (d := d + 1) hP hM2 hr hS (fun i hi => sp_mem hi) r2 (fun G3 g3 r3 f3 => ?_)
    have f23 := f2.Vwz.trans f3.grW
    have hM3 := hM.fwz f23
    have hg3 : gw_ G3 P r (sp_ P r n k) := ⟨r3.1, ⟨w, hw, hM3.2.1, hM3.2.2.2.1.1⟩, g3⟩
    have hW : ∀ G4 x, fr_ (f7_ 0) G3 G4 → isW_ (eR_ P r (sp_ P r n k)) (ps_t P).length (pA_ (sp_ P r n k) (fun _ => true)) x → K x G4 := by
      intro G4 x f4 hx
      refine h G4 x (f23.trans f4.f7w) (isW_bi (fun a ha => ⟨_, gd_mem ha.1, fun t _ => rfl⟩) (fun s hsm => ?_) hx)
      obtain ⟨i, i1, i2⟩ := mem_gd hsm
      refine ⟨i, ⟨i1, rfl⟩, fun t _ => ?_⟩
      rw [← i2]
    suffices H : ∀ m s G4, s + m = (sp_ P r n k).length → fr_ (f7_ 0) G3 G4 → (∀ j, j < s → mg_i G4 277 j = nI 1) → mV l κ true (d + 7) 0 0 m_X13_most 27 [some (.ref 226), some (.int (nI r)), some (.int (nI n)), some (.int (nI k)), some (.int (nI s))] [] G4 (rI K) from
      H _ 0 G3 (Nat.zero_add _) fr_.rfl' (fun j hj => absurd hj (Nat.not_lt_zero j))
    intro m
    induction m with
    | succ m ih =>
      intro s G4 hm f4 b4
      have g1 := (hg3.f7 f4).1
      refine p_X13_most_27 _ _ _ _ ⟨fun y => absurd y (by rw [g1]; exact nI_ge (by omega) (by omega)), fun _ => ⟨(ki_vp (by omega)).2 (by omega), ?_⟩⟩
      rw [nI_add, nI_clamp (by omega), show vp_nar .boolean (nI 1) = nI 1 by decide +kernel]
      refine ih (s + 1) _ (by omega) (f4.si (f7_T (by omega))) (fun j hj => ?_)
      simp only [mg_i_i, mg_i_l, mg_i_r, mg_i_b, mg_l_i, mg_l_l, mg_l_r, mg_l_b, mg_r_i, mg_r_l, mg_r_r, mg_r_b, false_and, and_false, true_and, and_true, reduceCtorEq, if_true, if_false, reduceIte, Nat.reduceEqDiff, Nat.reduceAdd, Nat.succ_ne_self, ne_eq, not_false_eq_true, not_true_eq_false]
      split
      · rfl
      · exact b4 j (by omega)
    | zero =>
      intro s G4 hm f4 b4
      have hg4 := hg3.f7 f4
      have hA4 : lv_ G4 (sp_ P r n k) 0 (fun _ => true) := fun j hj => by
        rw [if_pos rfl, Nat.mul_zero, Nat.zero_add]
        exact b4 j (by omega)
      refine p_X13_most_27 _ _ _ _ ⟨fun _ => ?_, fun y => absurd (by rw [hg4.1]; exact nI_le (by omega) (by omega)) y⟩
      refine t_isDone hP hS (by omega) hg4 hA4 (fun q => ⟨fun y => absurd y (by decide), fun _ => hW G4 _ f4 (Or.inl ⟨0, by omega, rfl, q, fun j hj => absurd hj (Nat.not_lt_zero j)⟩)⟩) (fun q0 => ⟨fun _ => ?_, fun y => absurd (by decide) y⟩)
      refine t_inOne (d := d + 5) hP hS (by omega) hg4 hA4 (fun G5 q f5 => ⟨fun y => absurd y (by decide), fun _ => hW G5 _ (f4.trans (f7_up f5 (by omega))) (Or.inl ⟨1, by omega, rfl, q, fun j hj => ?_⟩)⟩) (fun G5 q1 f5 => ⟨fun _ => ?_, fun y => absurd (by decide) y⟩)
      · match j, hj with
        | 0, _ => exact q0
      have hg5 := hg4.f7 f5
      have hA5 := hA4.f7 hS f5 (by omega)
      have e5 := f4.trans (f7_up f5 (Nat.zero_le _))
      refine t_inTwo (d := d + 4) hP hS (by omega) hg5 hA5 (fun G6 q f6 => ⟨fun y => absurd y (by decide), fun _ => hW G6 _ (e5.trans (f7_up f6 (by omega))) (Or.inl ⟨2, by omega, rfl, q, fun j hj => ?_⟩)⟩) (fun G6 q2 f6 => ⟨fun _ => ?_, fun y => absurd (by decide) y⟩)
      · match j, hj with
        | 0, _ => exact q0
        | 1, _ => exact q1
      have hg6 := hg5.f7 f6
      have hA6 := hA5.f7 hS f6 (by omega)
      have e6 := e5.trans (f7_up f6 (Nat.zero_le _))
      refine t_inThree (d := d + 3) hP hS (by omega) hg6 hA6 (fun G7 q f7 => ⟨fun y => absurd y (by decide), fun _ => hW G7 _ (e6.trans (f7_up f7 (by omega))) (Or.inl ⟨3, by omega, rfl, q, fun j hj => ?_⟩)⟩) (fun G7 q3 f7 => ⟨fun _ => ?_, fun y => absurd (by decide) y⟩)
      · match j, hj with
        | 0, _ => exact q0
        | 1, _ => exact q1
        | 2, _ => exact q2
      have hg7 := hg6.f7 f7
      have hA7 := hA6.f7 hS f7 (by omega)
      have e7 := e6.trans (f7_up f7 (Nat.zero_le _))
      refine t_inFour (d := d + 2) hP hS (by omega) hg7 hA7 q0 (fun G8 q f8 => ⟨fun y => absurd y (by decide), fun _ => hW G8 _ (e7.trans (f7_up f8 (by omega))) (Or.inl ⟨4, by omega, rfl, q, fun j hj => ?_⟩)⟩) (fun G8 q4 f8 => ⟨fun _ => hW G8 _ (e7.trans (f7_up f8 (by omega))) (Or.inr ⟨fun j hj => ?_, rfl⟩), fun y => absurd (by decide) y⟩)
      · match j, hj with
        | 0, _ => exact q0
        | 1, _ => exact q1
        | 2, _ => exact q2
        | 3, _ => exact q3
      · match j, hj with
        | 0, _ => exact q0
        | 1, _ => exact q1
        | 2, _ => exact q2
        | 3, _ => exact q3
        | 4, _ => exact q4
