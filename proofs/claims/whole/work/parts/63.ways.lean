/-! ways: sets that grow line by line -/
theorem drop_bit {k u : Nat} : 2 ^ k * (2 * u + 1) &&& (2 ^ k * (2 * u + 1) - 1) = (2 ^ k * (2 * u + 1)) ^^^ 2 ^ k := by
  have hp := Nat.two_pow_pos k
  have e1 : 2 ^ k * (2 * u + 1) - 1 = 2 ^ k * (2 * u) + (2 ^ k - 1) := by rw [Nat.mul_add]; omega
  apply Nat.eq_of_testBit_eq
  intro i
  have eA : (2 ^ k * (2 * u + 1)).testBit i = if i < k then false else (2 * u + 1).testBit (i - k) := by
    have := Nat.testBit_two_pow_mul_add (2 * u + 1) hp i
    rw [Nat.add_zero, Nat.zero_testBit] at this
    exact this
  rw [Nat.testBit_and, Nat.testBit_xor, eA, e1, Nat.testBit_two_pow_mul_add _ (by omega), Nat.testBit_two_pow]
  by_cases c : i < k
  · rw [if_pos c, if_pos c, decide_eq_false (p := k = i) (by omega)]; rfl
  · rw [if_neg c, if_neg c]
    by_cases c2 : k = i
    · subst c2
      rw [decide_eq_true rfl, Nat.sub_self]
      simp [Nat.testBit_zero]
    · rw [decide_eq_false c2]
      obtain ⟨j, hj⟩ : ∃ j, i - k = j + 1 := ⟨i - k - 1, by omega⟩
      rw [hj, Nat.testBit_succ, Nat.testBit_succ, show (2 * u + 1) / 2 = u by omega, show 2 * u / 2 = u by omega]
      cases u.testBit j <;> simp
theorem low_is {s : Nat} (h0 : s ≠ 0) (h : s < 65536) : ∃ k, k < 16 ∧ s.testBit k = true ∧ nI s &&& -(nI s) = nI (2 ^ k) ∧ nI s &&& (nI s - nI 1) = nI (s ^^^ 2 ^ k) := by
  obtain ⟨u, hu, hl⟩ := tz_dec 16 s h0 h
  generalize tz_ 16 s = k at hu hl
  have hp := Nat.two_pow_pos k
  have hk : k < 16 := by
    rcases Nat.lt_or_ge k 16 with c | c
    · exact c
    · have : 2 ^ 16 ≤ 2 ^ k := Nat.pow_le_pow_right (by decide) c
      have : 2 ^ k ≤ 2 ^ k * (2 * u + 1) := Nat.le_mul_of_pos_right _ (by omega)
      omega
  refine ⟨k, hk, ?_, ?_, ?_⟩
  · have := Nat.testBit_two_pow_mul_add (2 * u + 1) hp k
    rw [Nat.add_zero] at this
    rw [hu, this, if_neg (Nat.lt_irrefl k), Nat.sub_self]
    simp [Nat.testBit_zero]
  · rw [ki_neg (by omega), fa_and]
    have := low_bit (k := k) (u := u) (by omega)
    rw [← hu] at this
    rw [this]
  · rw [ki_sub (by omega), fa_and]
    have := drop_bit (k := k) (u := u)
    rw [← hu] at this
    rw [this]
theorem xb_tb (n i j : Nat) : (n ^^^ 2 ^ i).testBit j = if j = i then !n.testBit j else n.testBit j := by
  rw [Nat.testBit_xor, Nat.testBit_two_pow]
  by_cases c : j = i
  · rw [if_pos c, decide_eq_true c.symm, Bool.xor_true]
  · rw [if_neg c, decide_eq_false (fun q => c q.symm), Bool.xor_false]
theorem xb_or {n i : Nat} (h : n.testBit i = true) : (n ^^^ 2 ^ i) ||| 2 ^ i = n := by
  apply Nat.eq_of_testBit_eq
  intro j
  rw [Nat.testBit_or, xb_tb, Nat.testBit_two_pow]
  by_cases c : j = i
  · subst c
    rw [h, decide_eq_true rfl, Bool.or_true]
  · rw [if_neg c, decide_eq_false (fun q => c q.symm), Bool.or_false]
theorem xb_lt {n i : Nat} (h : n.testBit i = true) : n ^^^ 2 ^ i < n := by
  have h1 : n ^^^ 2 ^ i ≤ (n ^^^ 2 ^ i) ||| 2 ^ i := Nat.left_le_or
  rw [xb_or h] at h1
  rcases Nat.lt_or_eq_of_le h1 with c | c
  · exact c
  · exfalso
    have e := congrArg (fun z => Nat.testBit z i) c
    simp only [xb_tb, if_true, h] at e
    cases e
theorem ob_xor {n i : Nat} (h : n.testBit i = false) : (n ||| 2 ^ i) ^^^ 2 ^ i = n := by
  apply Nat.eq_of_testBit_eq
  intro j
  rw [xb_tb, Nat.testBit_or, Nat.testBit_two_pow]
  by_cases c : j = i
  · subst c
    rw [if_pos rfl, h, decide_eq_true rfl]; rfl
  · rw [if_neg c, decide_eq_false (fun q => c q.symm), Bool.or_false]
theorem ob_tb (n i : Nat) : (n ||| 2 ^ i).testBit i = true := by
  rw [Nat.testBit_or, Nat.testBit_two_pow, decide_eq_true rfl, Bool.or_true]
theorem ob_same {n i : Nat} : n ||| 2 ^ i = n ↔ n.testBit i = true := by
  constructor
  · intro e
    rw [← e]
    exact ob_tb n i
  · intro e
    apply Nat.eq_of_testBit_eq
    intro j
    rw [Nat.testBit_or, Nat.testBit_two_pow]
    by_cases c : i = j
    · subst c
      rw [e]; rfl
    · rw [decide_eq_false c, Bool.or_false]
theorem ob_lt {n i L : Nat} (h : n < 2 ^ L) (hi : i < L) : n ||| 2 ^ i < 2 ^ L := Nat.or_lt_two_pow h (Nat.pow_lt_pow_right (by decide) hi)
theorem xb_pc {n i : Nat} (h : n.testBit i = true) (hi : i < 20) : pc_ (n ^^^ 2 ^ i) + 1 = pc_ n := by
  have := pc_or (lost := n ^^^ 2 ^ i) (v := i) (by rw [xb_tb, if_pos rfl, h]; rfl) hi
  rw [xb_or h] at this
  omega
def bs_ (L s : Nat) (h : Nat → Nat) : Nat := fb_sm (fun i => if s.testBit i then h i else 0) L
theorem bs_drop {L s k : Nat} {h : Nat → Nat} (hs : s.testBit k = true) (hk : k < L) : bs_ L s h = h k + bs_ L (s ^^^ 2 ^ k) h := by
  have := fb_sm_upd (fun i => if s.testBit i then h i else 0) 0 (i := k) (n := L) hk
  simp only [hs, if_true] at this
  have e : bs_ L (s ^^^ 2 ^ k) h = fb_sm (fun j => if j = k then 0 else if s.testBit j then h j else 0) L := fb_sm_cong (fun j _ => by
    rw [xb_tb]
    by_cases c : j = k
    · rw [if_pos c, if_pos c, c, hs]; rfl
    · rw [if_neg c, if_neg c])
  rw [e]
  unfold bs_
  omega
theorem bs_0 {L : Nat} {h : Nat → Nat} : bs_ L 0 h = 0 := by
  unfold bs_
  rw [fb_sm_cong (g := fun _ => 0) (fun k _ => by rw [Nat.zero_testBit]; rfl), fb_sm_const, Nat.mul_zero]
theorem bs_le {s c : Nat} {h : Nat → Nat} : ∀ L, (∀ i, i < L → s.testBit i = true → h i ≤ c) → bs_ L s h ≤ fb_ct (fun i => s.testBit i) L * c
  | 0, _ => by show 0 ≤ _; omega
  | L + 1, hh => by
    have h1 := bs_le L (fun i hi => hh i (by omega))
    show bs_ L s h + (if s.testBit L then h L else 0) ≤ (fb_ct (fun i => s.testBit i) L + (if s.testBit L then 1 else 0)) * c
    rw [Nat.add_mul]
    have h2 := hh L (by omega)
    cases e : s.testBit L with
    | true => have := h2 e; simp only [if_true]; omega
    | false => simp only [Bool.false_eq_true, if_false]; omega
theorem bs_cong {L s : Nat} {h g : Nat → Nat} (hh : ∀ i, i < L → s.testBit i = true → h i = g i) : bs_ L s h = bs_ L s g := fb_sm_cong (fun i hi => by
  cases e : s.testBit i with
  | true => simp only [if_true]; exact hh i hi e
  | false => rfl)
def fxx_ : Nat → Nat
  | 0 => 1
  | n + 1 => (n + 1) * fxx_ n
theorem fxx_pos : ∀ n, 0 < fxx_ n
  | 0 => by decide
  | n + 1 => Nat.mul_pos (by omega) (fxx_pos n)
theorem fxx_step (n : Nat) : ∀ m, fxx_ n ≤ fxx_ (n + m)
  | 0 => Nat.le_refl _
  | m + 1 => Nat.le_trans (fxx_step n m) (by show fxx_ (n + m) ≤ (n + m + 1) * fxx_ (n + m); exact Nat.le_mul_of_pos_left _ (by omega))
theorem fxx_le {n : Nat} (h : n ≤ 12) : fxx_ n ≤ 479001600 := by
  have := fxx_step n (12 - n)
  rw [show n + (12 - n) = 12 by omega] at this
  exact Nat.le_trans this (by decide)
def wv_ (S : Nat → Bool) (L n : Nat) (f : Nat → Nat) : Nat := if n = 0 then 1 else if S n then bs_ L n (fun i => f (n ^^^ 2 ^ i)) else 0
def wf_ (S : Nat → Bool) (L : Nat) : Nat → Nat → Nat
  | 0 => fun _ => 0
  | n + 1 => ru_up (wf_ S L n) n (wv_ S L n (wf_ S L n))
def wy_ (S : Nat → Bool) (L s : Nat) : Nat := wf_ S L (s + 1) s
theorem wf_lt {S : Nat → Bool} {L s : Nat} : ∀ n, s < n → wf_ S L n s = wy_ S L s
  | 0, h => absurd h (Nat.not_lt_zero s)
  | n + 1, h => by
    rcases Nat.lt_succ_iff_lt_or_eq.mp h with c | c
    · show ru_up (wf_ S L n) n _ s = _
      rw [ru_up_ne _ _ (by omega)]
      exact wf_lt n c
    · subst c; rfl
theorem wy_eq (S : Nat → Bool) (L n : Nat) : wy_ S L n = wv_ S L n (wy_ S L) := by
  show ru_up (wf_ S L n) n (wv_ S L n (wf_ S L n)) n = _
  rw [ru_up_eq]
  unfold wv_
  rw [bs_cong (g := fun i => wy_ S L (n ^^^ 2 ^ i)) (fun i _ hi => wf_lt n (xb_lt hi))]
theorem wy_le {S : Nat → Bool} {L : Nat} (hL : L ≤ 12) : ∀ m n, n < m → n < 2 ^ L → wy_ S L n ≤ fxx_ (pc_ n)
  | 0, n, h, _ => absurd h (Nat.not_lt_zero n)
  | m + 1, n, h, hn => by
    rw [wy_eq]
    unfold wv_
    split
    · exact fxx_pos _
    · rename_i c0
      split
      · have hp := pc_pos hn (by omega) c0
        have := bs_le (s := n) (c := fxx_ (pc_ n - 1)) (h := fun i => wy_ S L (n ^^^ 2 ^ i)) L (fun i hi hb => by
          have h1 := xb_lt hb
          have h2 := wy_le (S := S) hL m (n ^^^ 2 ^ i) (by omega) (by omega)
          rw [show pc_ (n ^^^ 2 ^ i) = pc_ n - 1 by have := xb_pc hb (by omega); omega] at h2
          exact h2)
        rw [← pc_of hn (by omega)] at this
        obtain ⟨p, hp2⟩ : ∃ p, pc_ n = p + 1 := ⟨pc_ n - 1, by omega⟩
        rw [hp2] at this ⊢
        exact this
      · omega
theorem wy_lt {S : Nat → Bool} {L n : Nat} (hL : L ≤ 12) (hn : n < 2 ^ L) : wy_ S L n ≤ 479001600 := Nat.le_trans (wy_le hL (n + 1) n (by omega) hn) (fxx_le (by have := pc_le hn (by omega); omega))
/-- the sum before it is asked whether the set is the same -/
def wb_s (S : Nat → Bool) (L n : Nat) : Nat := bs_ L n (fun i => wy_ S L (n ^^^ 2 ^ i))
theorem wb_le {S : Nat → Bool} {L n : Nat} (hL : L ≤ 12) (hn : n < 2 ^ L) (h0 : n ≠ 0) : wb_s S L n ≤ 479001600 := by
  have hp := pc_pos hn (by omega) h0
  have h12 := pc_le hn (by omega)
  have := bs_le (s := n) (c := fxx_ (pc_ n - 1)) (h := fun i => wy_ S L (n ^^^ 2 ^ i)) L (fun i hi hb => by
    have h1 := xb_lt hb
    have h2 := wy_le (S := S) hL n (n ^^^ 2 ^ i) (by omega) (by omega)
    rw [show pc_ (n ^^^ 2 ^ i) = pc_ n - 1 by have := xb_pc hb (by omega); omega] at h2
    exact h2)
  rw [← pc_of hn (by omega)] at this
  refine Nat.le_trans this ?_
  obtain ⟨p, hp2⟩ : ∃ p, pc_ n = p + 1 := ⟨pc_ n - 1, by omega⟩
  have := fxx_le (n := pc_ n) (by omega)
  rw [hp2] at this ⊢
  exact this
theorem wy_of {S : Nat → Bool} {L n : Nat} (h0 : n ≠ 0) : wy_ S L n = if 0 < wb_s S L n ∧ S n = true then wb_s S L n else 0 := by
  rw [wy_eq]
  unfold wv_
  rw [if_neg h0]
  show (if S n then wb_s S L n else 0) = _
  cases S n with
  | false => simp
  | true =>
    rcases Nat.eq_zero_or_pos (wb_s S L n) with c | c
    · rw [c]; simp
    · simp [c]
