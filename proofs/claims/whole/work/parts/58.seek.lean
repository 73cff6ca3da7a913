/-! rows sought: the order of the candidates -/
def vl_ (L : Nat) (f : Nat → Nat) : Nat → Nat
  | 0 => 0
  | n + 1 => vl_ L f n * L + f n
def po_ (L q : Nat) : Nat → (Nat → Nat) → Bool × (Nat → Nat)
  | 0, f => (false, f)
  | i + 1, f => if i < q ∧ f i + 1 < L then (true, ru_up f i (f i + 1)) else po_ L q i (ru_up f i 0)
theorem vl_cong {L : Nat} {f g : Nat → Nat} : ∀ n, (∀ i, i < n → f i = g i) → vl_ L f n = vl_ L g n
  | 0, _ => rfl
  | n + 1, h => by
    unfold vl_
    rw [vl_cong n (fun i hi => h i (by omega)), h n (by omega)]
theorem vl_inj {L : Nat} {f g : Nat → Nat} : ∀ n, (∀ i, i < n → f i < L) → (∀ i, i < n → g i < L) → vl_ L f n = vl_ L g n → ∀ i, i < n → f i = g i
  | 0, _, _, _, i, hi => absurd hi (Nat.not_lt_zero i)
  | n + 1, hf, hg, h, i, hi => by
    have h : vl_ L f n * L + f n = vl_ L g n * L + g n := h
    have h1 := hf n (by omega)
    have h2 := hg n (by omega)
    have e1 : (vl_ L f n * L + f n) / L = vl_ L f n := by
      rw [Nat.mul_comm, Nat.mul_add_div (by omega), Nat.div_eq_of_lt h1, Nat.add_zero]
    have e2 : (vl_ L g n * L + g n) / L = vl_ L g n := by
      rw [Nat.mul_comm, Nat.mul_add_div (by omega), Nat.div_eq_of_lt h2, Nat.add_zero]
    have e3 : vl_ L f n = vl_ L g n := by rw [← e1, h, e2]
    rcases Nat.lt_succ_iff_lt_or_eq.mp hi with c | c
    · exact vl_inj n (fun i hi => hf i (by omega)) (fun i hi => hg i (by omega)) e3 i c
    · subst c
      rw [e3] at h
      omega
theorem po_keep {L q : Nat} : ∀ n f j, n ≤ j → (po_ L q n f).2 j = f j
  | 0, _, _, _ => rfl
  | n + 1, f, j, h => by
    unfold po_
    split
    · exact ru_up_ne _ _ (by omega)
    · rw [po_keep n _ j (by omega), ru_up_ne _ _ (by omega)]
theorem po_dig {L q : Nat} (hL : 0 < L) : ∀ n f, (∀ i, i < n → f i < L) → ∀ i, i < n → (po_ L q n f).2 i < L
  | 0, _, _, i, hi => absurd hi (Nat.not_lt_zero i)
  | n + 1, f, h, i, hi => by
    unfold po_
    split
    · rename_i c
      show ru_up f n (f n + 1) i < L
      unfold ru_up
      split
      · exact c.2
      · exact h i (by omega)
    · rcases Nat.lt_succ_iff_lt_or_eq.mp hi with c | c
      · refine po_dig hL n _ (fun k hk => ?_) i c
        rw [ru_up_ne _ _ (by omega)]
        exact h k (by omega)
      · subst c
        rw [po_keep _ _ _ (Nat.le_refl _), ru_up_eq]
        exact hL
/-- what lies between is the same up to q -/
theorem po_next {L q : Nat} (hL : 0 < L) : ∀ n f, (∀ i, i < n → f i < L) → ((po_ L q n f).1 = true → vl_ L f n < vl_ L (po_ L q n f).2 n) ∧ ∀ g, (∀ i, i < n → g i < L) → vl_ L f n < vl_ L g n → ((po_ L q n f).1 = true → vl_ L g n < vl_ L (po_ L q n f).2 n) → ∀ i, i < n → i < q → g i = f i
  | 0, f, _ => ⟨fun h => (by cases h), fun g _ _ _ i hi => absurd hi (Nat.not_lt_zero i)⟩
  | n + 1, f, hf => by
    by_cases c : n < q ∧ f n + 1 < L
    · have e : po_ L q (n + 1) f = (true, ru_up f n (f n + 1)) := if_pos c
      rw [e]
      have ev : vl_ L (ru_up f n (f n + 1)) (n + 1) = vl_ L f (n + 1) + 1 := by
        show vl_ L (ru_up f n (f n + 1)) n * L + ru_up f n (f n + 1) n = vl_ L f n * L + f n + 1
        rw [ru_up_eq, vl_cong (g := f) n (fun i hi => ru_up_ne f (f n + 1) (Nat.ne_of_lt hi))]
        omega
      refine ⟨fun _ => by show _ < vl_ L (ru_up f n (f n + 1)) (n + 1); omega, fun g _ h1 h2 => ?_⟩
      have h2 : vl_ L g (n + 1) < vl_ L (ru_up f n (f n + 1)) (n + 1) := h2 rfl
      omega
    · have e : po_ L q (n + 1) f = po_ L q n (ru_up f n 0) := if_neg c
      rw [e]
      have hf1 : ∀ i, i < n → ru_up f n 0 i < L := fun i hi => by rw [ru_up_ne _ _ (by omega)]; exact hf i (by omega)
      obtain ⟨p1, p2⟩ := po_next (q := q) hL n (ru_up f n 0) hf1
      have ev : vl_ L (ru_up f n 0) n = vl_ L f n := vl_cong n (fun i hi => ru_up_ne f 0 (Nat.ne_of_lt hi))
      rw [ev] at p1 p2
      have el : (po_ L q n (ru_up f n 0)).2 n = 0 := by rw [po_keep _ _ _ (Nat.le_refl _), ru_up_eq]
      have hfn := hf n (by omega)
      have ef : vl_ L f (n + 1) = vl_ L f n * L + f n := rfl
      have er : vl_ L (po_ L q n (ru_up f n 0)).2 (n + 1) = vl_ L (po_ L q n (ru_up f n 0)).2 n * L := by
        show vl_ L (po_ L q n (ru_up f n 0)).2 n * L + (po_ L q n (ru_up f n 0)).2 n = _
        rw [el, Nat.add_zero]
      refine ⟨fun ht => ?_, fun g hg h1 h2 i hi hq => ?_⟩
      · have := p1 ht
        rw [ef, er]
        have h3 : (vl_ L f n + 1) * L ≤ vl_ L (po_ L q n (ru_up f n 0)).2 n * L := Nat.mul_le_mul_right L this
        rw [Nat.add_mul, Nat.one_mul] at h3
        omega
      · have hgn := hg n (by omega)
        have eg : vl_ L g (n + 1) = vl_ L g n * L + g n := rfl
        have hge : vl_ L f n ≤ vl_ L g n := by
          rcases Nat.lt_or_ge (vl_ L g n) (vl_ L f n) with z | z
          · exfalso
            have h3 : (vl_ L g n + 1) * L ≤ vl_ L f n * L := Nat.mul_le_mul_right L z
            rw [Nat.add_mul, Nat.one_mul] at h3
            omega
          · exact z
        have hlt : (po_ L q n (ru_up f n 0)).1 = true → vl_ L g n < vl_ L (po_ L q n (ru_up f n 0)).2 n := by
          intro ht
          have h2 := h2 ht
          rw [er, eg] at h2
          rcases Nat.lt_or_ge (vl_ L g n) (vl_ L (po_ L q n (ru_up f n 0)).2 n) with z | z
          · exact z
          · exfalso
            have h3 : vl_ L (po_ L q n (ru_up f n 0)).2 n * L ≤ vl_ L g n * L := Nat.mul_le_mul_right L z
            omega
        rcases Nat.lt_or_ge (vl_ L f n) (vl_ L g n) with z | z
        · have hI := p2 g (fun i hi => hg i (by omega)) z hlt
          rcases Nat.lt_succ_iff_lt_or_eq.mp hi with y | y
          · rw [hI i y hq, ru_up_ne _ _ (by omega)]
          · exfalso
            subst y
            have : vl_ L g i = vl_ L f i := vl_cong i (fun k hk => by rw [hI k hk (by omega), ru_up_ne _ _ (by omega)])
            omega
        · have hv : vl_ L g n = vl_ L f n := by omega
          have hsame := vl_inj n (fun i hi => hg i (by omega)) (fun i hi => hf i (by omega)) hv
          rcases Nat.lt_succ_iff_lt_or_eq.mp hi with y | y
          · exact hsame i y
          · exfalso
            subst y
            rw [ef, eg, hv] at h1
            exact c ⟨hq, by omega⟩
/-! the candidates -/
def cf_ (ls : List ln_T) (n : Nat) (f : Nat → Nat) : List ln_T := (List.range n).map (fun i => ln_at ls (f i))
theorem cf_len (ls : List ln_T) (n : Nat) (f : Nat → Nat) : (cf_ ls n f).length = n := by unfold cf_; simp
theorem cf_at {ls : List ln_T} {n i : Nat} {f : Nat → Nat} (h : i < n) : ln_at (cf_ ls n f) i = ln_at ls (f i) := by
  unfold cf_ ln_at
  rw [List.getD_eq_getElem?_getD, List.getElem?_map, List.getElem?_range h]
  rfl
theorem cf_mem {ls : List ln_T} {n : Nat} {f : Nat → Nat} (hf : ∀ i, i < n → f i < ls.length) {x : ln_T} (h : x ∈ cf_ ls n f) : x ∈ ls := by
  unfold cf_ at h
  rw [List.mem_map] at h
  obtain ⟨i, h1, h2⟩ := h
  rw [List.mem_range] at h1
  rw [← h2]
  exact ln_mem (hf i h1)
theorem cf_cong {ls : List ln_T} {n : Nat} {f g : Nat → Nat} (h : ∀ i, i < n → f i = g i) : cf_ ls n f = cf_ ls n g := by
  unfold cf_
  apply List.map_congr_left
  intro i hi
  rw [List.mem_range] at hi
  rw [h i hi]
/-- which of the runs asked for fails: 0 none lost, i + 1 the i-th line -/
def sl_ (i : Nat) : Nat := if i = 0 then 0 else 2 ^ (i - 1)
def sn_ (m n : Nat) : Nat := if m = 1 then n + 1 else 1
def sf_ (P : ps_T) (ls : List ln_T) (r m n : Nat) : Nat := fa_first (fun i => !dt_ P ls r (sl_ i)) (sn_ m n)
def sk_ok (P : ps_T) (ls : List ln_T) (r m n : Nat) : Bool := decide (sf_ P ls r m n = sn_ m n)
def sq_ (P : ps_T) (ls : List ln_T) (r m n : Nat) : Nat := dq_ P ls r (sl_ (sf_ P ls r m n))
theorem sk_same {P : ps_T} {ls ls' : List ln_T} {r m n : Nat} (hl : ls'.length = ls.length) (h : sk_ok P ls r m n = false) (hq : ∀ i, i < sq_ P ls r m n → ln_at ls' i = ln_at ls i) : sk_ok P ls' r m n = false := by
  have hle : sf_ P ls r m n ≤ sn_ m n := fa_first_le _ _
  have hlt : sf_ P ls r m n < sn_ m n := by
    have := of_decide_eq_false h
    omega
  have hy : (!dt_ P ls r (sl_ (sf_ P ls r m n))) = true := fa_first_yes (fun i => !dt_ P ls r (sl_ i)) (sn_ m n) hlt
  unfold sq_ at hq
  generalize sf_ P ls r m n = f at hlt hy hq
  have hd : dt_ P ls r (sl_ f) = false := by
    cases c : dt_ P ls r (sl_ f) with
    | false => rfl
    | true => rw [c] at hy; cases hy
  have hd2 := dt_same hl hd hq
  refine decide_eq_false (fun z => ?_)
  have := fa_first_no (fun i => !dt_ P ls' r (sl_ i)) (sn_ m n) f (by rw [show fa_first (fun i => !dt_ P ls' r (sl_ i)) (sn_ m n) = sf_ P ls' r m n from rfl, z]; exact hlt)
  rw [hd2] at this
  cases this
/-- the row that is found, none -/
def fnd_ (P : ps_T) (ls : List ln_T) (r m z : Nat) (f : Nat → Nat) : Prop := (∀ i, i < z → f i < ls.length) ∧ sk_ok P (cf_ ls z f) r m z = true ∧ ∀ g, (∀ i, i < z → g i < ls.length) → vl_ ls.length g z < vl_ ls.length f z → sk_ok P (cf_ ls z g) r m z = false
def nof_ (P : ps_T) (ls : List ln_T) (r m z : Nat) : Prop := ∀ g, (∀ i, i < z → g i < ls.length) → sk_ok P (cf_ ls z g) r m z = false
def isA_ (P : ps_T) (r n m : Nat) (a : Int32) (f : Nat → Nat) : Prop :=
  (∃ z, z ≤ n ∧ a = nI z ∧ (∀ y, y < z → (px_at (ps_p P) r).length ^ y ≤ 30000 ∧ nof_ P (px_at (ps_p P) r) r m y) ∧ (px_at (ps_p P) r).length ^ z ≤ 30000 ∧ fnd_ P (px_at (ps_p P) r) r m z f) ∨
  (a = -3 ∧ ∃ z, z ≤ n ∧ (∀ y, y < z → (px_at (ps_p P) r).length ^ y ≤ 30000 ∧ nof_ P (px_at (ps_p P) r) r m y) ∧ 30000 < (px_at (ps_p P) r).length ^ z) ∨
  (a = -2 ∧ ∀ y, y ≤ n → (px_at (ps_p P) r).length ^ y ≤ 30000 ∧ nof_ P (px_at (ps_p P) r) r m y)
theorem fnd_not {P : ps_T} {ls : List ln_T} {r m z : Nat} {f : Nat → Nat} (h : fnd_ P ls r m z f) (h2 : nof_ P ls r m z) : False := by
  have := h2 f h.1
  rw [h.2.1] at this
  cases this
theorem isA_one {P : ps_T} {r n m : Nat} {a b : Int32} {f g : Nat → Nat} (h1 : isA_ P r n m a f) (h2 : isA_ P r n m b g) : a = b ∧ ∀ z, z ≤ n → a = nI z → ∀ i, i < z → f i = g i ∨ 5 < n := by
  have key : ∀ z z', fnd_ P (px_at (ps_p P) r) r m z f → fnd_ P (px_at (ps_p P) r) r m z' g → z = z' → ∀ i, i < z → f i = g i := by
    intro z z' k1 k2 e
    subst e
    have hv : vl_ (px_at (ps_p P) r).length f z = vl_ (px_at (ps_p P) r).length g z := by
      rcases Nat.lt_trichotomy (vl_ (px_at (ps_p P) r).length f z) (vl_ (px_at (ps_p P) r).length g z) with c | c | c
      · have := k2.2.2 f k1.1 c
        rw [k1.2.1] at this
        cases this
      · exact c
      · have := k1.2.2 g k2.1 c
        rw [k2.2.1] at this
        cases this
    exact vl_inj z k1.1 k2.1 hv
  rcases h1 with ⟨z, z1, z2, z3, z4, z5⟩ | ⟨z2, z, z1, z3, z4⟩ | ⟨z2, z3⟩
  · rcases h2 with ⟨y, y1, y2, y3, y4, y5⟩ | ⟨y2, y, y1, y3, y4⟩ | ⟨y2, y3⟩
    · have e : z = y := by
        rcases Nat.lt_trichotomy z y with c | c | c
        · exact (fnd_not z5 (y3 z c).2).elim
        · exact c
        · exact (fnd_not y5 (z3 y c).2).elim
      subst e
      refine ⟨z2.trans y2.symm, fun w hw ew i hi => ?_⟩
      by_cases c5 : 5 < n
      · exact Or.inr c5
      · have : w = z := (nI_eq (by omega) (by omega)).1 (ew.symm.trans z2)
        subst this
        exact Or.inl (key w w z5 y5 rfl i hi)
    · exfalso
      rcases Nat.lt_trichotomy z y with c | c | c
      · exact fnd_not z5 (y3 z c).2
      · subst c; omega
      · have := (z3 y c).1; omega
    · exact (fnd_not z5 (y3 z z1).2).elim
  · rcases h2 with ⟨y, y1, y2, y3, y4, y5⟩ | ⟨y2, -⟩ | ⟨y2, y3⟩
    · exfalso
      rcases Nat.lt_trichotomy z y with c | c | c
      · have := (y3 z c).1; omega
      · subst c; omega
      · exact fnd_not y5 (z3 y c).2
    · refine ⟨z2.trans y2.symm, fun w hw ew i hi => ?_⟩
      by_cases c5 : 5 < n
      · exact Or.inr c5
      · exfalso
        rw [z2] at ew
        have := congrArg Int32.toInt ew
        rw [nI_toInt (by omega)] at this
        have e3 : (-3 : Int32).toInt = -3 := by decide +kernel
        omega
    · exfalso
      have := (y3 z z1).1
      omega
  · rcases h2 with ⟨y, y1, y2, y3, y4, y5⟩ | ⟨y2, y, y1, y3, y4⟩ | ⟨y2, y3⟩
    · exact (fnd_not y5 (z3 y y1).2).elim
    · exfalso
      have := (z3 y y1).1
      omega
    · refine ⟨z2.trans y2.symm, fun w hw ew i hi => ?_⟩
      by_cases c5 : 5 < n
      · exact Or.inr c5
      · exfalso
        rw [z2] at ew
        exact ki_m2 (by omega) ew.symm
