/-! the tokens of a text -/
def bq_ (b : List Nat) (i : Nat) : Nat := b.getD i 0
def isL_ (c : Nat) : Bool := decide (97 ≤ c ∧ c ≤ 122)
def isD_ (c : Nat) : Bool := decide (48 ≤ c ∧ c ≤ 57)
def isB_ (c : Nat) : Bool := decide (c = 9 ∨ c = 10 ∨ c = 13 ∨ c = 32)
def rlen_ (f : Nat → Bool) (b : List Nat) (i : Nat) : Nat := fa_first (fun k => !f (bq_ b (i + k))) (b.length - i)
def nmc_ (b : List Nat) (i : Nat) : Nat → Nat
  | 0 => 0
  | m + 1 => 27 * nmc_ b i m + (bq_ b (i + m) - 96)
def dgc_ (b : List Nat) (i : Nat) : Nat → Nat
  | 0 => 0
  | m + 1 => 10 * dgc_ b i m + (bq_ b (i + m) - 48)
def wix_ (v : Nat) : Nat := fa_first (fun w => decide (wd_.getD w 0 = v)) 20
def wkd_ (v : Nat) : Nat := if wix_ v < 20 then 20 + wix_ v else 2
def sgk_ (c : Nat) (e : Bool) : Nat := if c = 59 then 4 else if c = 58 then 5 else if c = 123 then 6 else if c = 125 then 7 else if c = 45 then 8 else if c = 60 then (if e then 13 else 12) else if c = 61 then (if e then 10 else 1) else if c = 33 then (if e then 11 else 1) else 1
def sgn2_ (c : Nat) (e : Bool) : Nat := if e = true ∧ (c = 60 ∨ c = 61 ∨ c = 33) then 2 else 1
def eqs_ (b : List Nat) (i : Nat) : Bool := decide (i + 1 < b.length ∧ bq_ b (i + 1) = 61)
def tk3_ (b : List Nat) (i : Nat) : Nat × Nat × Nat := if i < b.length then (if isL_ (bq_ b i) = true then (if rlen_ isL_ b i ≤ 8 then wkd_ (nmc_ b i (rlen_ isL_ b i)) else 1, nmc_ b i (rlen_ isL_ b i), i + rlen_ isL_ b i) else if isD_ (bq_ b i) = true then (if rlen_ isD_ b i ≤ 4 then 3 else 1, dgc_ b i (rlen_ isD_ b i), i + rlen_ isD_ b i) else (sgk_ (bq_ b i) (eqs_ b i), 0, i + sgn2_ (bq_ b i) (eqs_ b i))) else (0, 0, i)
def bl_ (b : List Nat) (i : Nat) : Nat := i + rlen_ isB_ b i
def nxp_ (b : List Nat) : Nat → Nat
  | 0 => 0
  | j + 1 => (tk3_ b (bl_ b (nxp_ b j))).2.2
def tbb_ (b : List Nat) : tb_T := fun j => ((tk3_ b (bl_ b (nxp_ b j))).1, bl_ b (nxp_ b j), (tk3_ b (bl_ b (nxp_ b j))).2.1)
theorem rlen_le {f : Nat → Bool} {b : List Nat} {i : Nat} : rlen_ f b i ≤ b.length - i := fa_first_le _ _
theorem rlen_in {f : Nat → Bool} {b : List Nat} {i k : Nat} (h : k < rlen_ f b i) : f (bq_ b (i + k)) = true := by
  have := fa_first_no (fun k => !f (bq_ b (i + k))) (b.length - i) k h
  simpa using this
theorem rlen_at {f : Nat → Bool} {b : List Nat} {i m : Nat} (h : ∀ k, k < m → f (bq_ b (i + k)) = true) (he : b.length ≤ i + m ∨ f (bq_ b (i + m)) = false) (hm : i + m ≤ b.length) : rlen_ f b i = m := by
  by_cases c : i + m < b.length
  · refine ff_at (fun k hk => by rw [h k hk]; rfl) ?_ (by omega)
    rcases he with z | z
    · omega
    · rw [z]; rfl
  · have e : m = b.length - i := by omega
    unfold rlen_
    rw [← e]
    exact ff_no (fun k hk => by rw [h k hk]; rfl)
theorem rlen_pos {f : Nat → Bool} {b : List Nat} {i : Nat} (hi : i < b.length) (h : f (bq_ b i) = true) : 1 ≤ rlen_ f b i := by
  rcases Nat.eq_zero_or_pos (rlen_ f b i) with z | z
  · exfalso
    have hy := fa_first_yes (fun k => !f (bq_ b (i + k))) (b.length - i) (by show rlen_ f b i < _; omega)
    have z : fa_first (fun k => !f (bq_ b (i + k))) (b.length - i) = 0 := z
    rw [z, Nat.add_zero, h] at hy
    cases hy
  · exact z
theorem nmc_lt {b : List Nat} {i : Nat} : ∀ m, m ≤ rlen_ isL_ b i → nmc_ b i m < 27 ^ m
  | 0, _ => Nat.one_pos
  | m + 1, h => by
    have ih := nmc_lt (b := b) (i := i) m (by omega)
    have hL := of_decide_eq_true (rlen_in (show m < rlen_ isL_ b i by omega))
    show 27 * nmc_ b i m + (bq_ b (i + m) - 96) < 27 ^ (m + 1)
    rw [Nat.pow_succ]
    omega
theorem nmc_ge {b : List Nat} {i : Nat} : ∀ m, m + 1 ≤ rlen_ isL_ b i → 27 ^ m ≤ nmc_ b i (m + 1)
  | 0, h => by
    have hL := of_decide_eq_true (rlen_in (show 0 < rlen_ isL_ b i by omega))
    show 1 ≤ 27 * 0 + (bq_ b (i + 0) - 96)
    omega
  | m + 1, h => by
    have ih := nmc_ge (b := b) (i := i) m (by omega)
    show 27 ^ (m + 1) ≤ 27 * nmc_ b i (m + 1) + (bq_ b (i + (m + 1)) - 96)
    rw [Nat.pow_succ]
    omega
theorem dgc_lt {b : List Nat} {i : Nat} : ∀ m, m ≤ rlen_ isD_ b i → dgc_ b i m < 10 ^ m
  | 0, _ => Nat.one_pos
  | m + 1, h => by
    have ih := dgc_lt (b := b) (i := i) m (by omega)
    have hL := of_decide_eq_true (rlen_in (show m < rlen_ isD_ b i by omega))
    show 10 * dgc_ b i m + (bq_ b (i + m) - 48) < 10 ^ (m + 1)
    rw [Nat.pow_succ]
    omega
theorem p27_le {m : Nat} (h : m ≤ 8) : 27 ^ m ≤ 282429536481 := Nat.pow_le_pow_right (n := 27) (by decide) h
theorem sgk_le {c : Nat} {e : Bool} : 1 ≤ sgk_ c e ∧ sgk_ c e ≤ 13 ∧ sgk_ c e ≠ 2 ∧ sgk_ c e ≠ 3 := by
  unfold sgk_
  repeat' split
  all_goals omega
theorem bl_le {b : List Nat} {i : Nat} (h : i ≤ b.length) : i ≤ bl_ b i ∧ bl_ b i ≤ b.length := by
  have := rlen_le (f := isB_) (b := b) (i := i)
  unfold bl_
  omega
theorem tk3_next {b : List Nat} {i : Nat} (h : i ≤ b.length) : i ≤ (tk3_ b i).2.2 ∧ (tk3_ b i).2.2 ≤ b.length ∧ (1 ≤ (tk3_ b i).1 → i < (tk3_ b i).2.2) := by
  unfold tk3_
  by_cases c1 : i < b.length
  · rw [if_pos c1]
    by_cases c2 : isL_ (bq_ b i) = true
    · rw [if_pos c2]
      have h1 := rlen_le (f := isL_) (b := b) (i := i)
      have h2 := rlen_pos c1 c2
      exact ⟨by show i ≤ i + _; omega, by show i + _ ≤ _; omega, fun _ => by show i < i + _; omega⟩
    · rw [if_neg c2]
      by_cases c3 : isD_ (bq_ b i) = true
      · rw [if_pos c3]
        have h1 := rlen_le (f := isD_) (b := b) (i := i)
        have h2 := rlen_pos c1 c3
        exact ⟨by show i ≤ i + _; omega, by show i + _ ≤ _; omega, fun _ => by show i < i + _; omega⟩
      · rw [if_neg c3]
        have h3 : 1 ≤ sgn2_ (bq_ b i) (eqs_ b i) ∧ i + sgn2_ (bq_ b i) (eqs_ b i) ≤ b.length := by
          unfold sgn2_
          split
          · rename_i q
            have := of_decide_eq_true q.1
            omega
          · omega
        exact ⟨by show i ≤ i + _; omega, h3.2, fun _ => by show i < i + _; omega⟩
  · rw [if_neg c1]
    exact ⟨Nat.le_refl _, h, fun q => absurd (show 1 ≤ 0 from q) (by decide)⟩
theorem nxp_le (b : List Nat) : ∀ j, nxp_ b j ≤ b.length
  | 0 => Nat.zero_le _
  | j + 1 => (tk3_next (bl_le (nxp_le b j)).2).2.1
theorem wkd_le {v : Nat} : (wkd_ v = 2 ∨ (20 ≤ wkd_ v ∧ wkd_ v < 40)) := by
  unfold wkd_
  split
  · exact Or.inr (by omega)
  · exact Or.inl rfl
theorem tbb_ok {b : List Nat} (hb : b.length ≤ 2000) : tg_ (tbb_ b) := by
  constructor
  · intro j _ _
    have h1 := bl_le (nxp_le b j)
    have key : ∀ i, i ≤ b.length → (tk3_ b i).1 < 40 ∧ ((tk3_ b i).1 = 3 → (tk3_ b i).2.1 < 10000) ∧ ((tk3_ b i).1 = 2 → 0 < (tk3_ b i).2.1 ∧ (tk3_ b i).2.1 < 2 ^ 62) := by
      intro i _
      unfold tk3_
      by_cases c1 : i < b.length
      · rw [if_pos c1]
        by_cases c2 : isL_ (bq_ b i) = true
        · rw [if_pos c2]
          have h2 := rlen_pos c1 c2
          by_cases c4 : rlen_ isL_ b i ≤ 8
          · simp only [if_pos c4]
            have h5 := nmc_lt (b := b) (i := i) (rlen_ isL_ b i) (Nat.le_refl _)
            have h6 := p27_le c4
            have h7 := nmc_ge (b := b) (i := i) (rlen_ isL_ b i - 1) (by omega)
            have h8 : 0 < 27 ^ (rlen_ isL_ b i - 1) := Nat.pow_pos (by decide)
            rw [Nat.sub_add_cancel h2] at h7
            have := wkd_le (v := nmc_ b i (rlen_ isL_ b i))
            exact ⟨by omega, fun q => by omega, fun _ => ⟨by omega, by omega⟩⟩
          · simp only [if_neg c4]
            exact ⟨by omega, fun q => by omega, fun q => by omega⟩
        · rw [if_neg c2]
          by_cases c3 : isD_ (bq_ b i) = true
          · rw [if_pos c3]
            by_cases c4 : rlen_ isD_ b i ≤ 4
            · simp only [if_pos c4]
              have h5 := dgc_lt (b := b) (i := i) (rlen_ isD_ b i) (Nat.le_refl _)
              have h6 : 10 ^ rlen_ isD_ b i ≤ 10 ^ 4 := Nat.pow_le_pow_right (n := 10) (by decide) c4
              exact ⟨by omega, fun _ => by omega, fun q => by omega⟩
            · simp only [if_neg c4]
              exact ⟨by omega, fun q => by omega, fun q => by omega⟩
          · rw [if_neg c3]
            have := sgk_le (c := bq_ b i) (e := eqs_ b i)
            exact ⟨by show sgk_ _ _ < 40; omega, fun q => absurd q this.2.2.2, fun q => absurd q this.2.2.1⟩
      · rw [if_neg c1]
        exact ⟨(show 0 < 40 by decide), fun q => absurd (show 0 = 3 from q) (by decide), fun q => absurd (show 0 = 2 from q) (by decide)⟩
    obtain ⟨k1, k2, k3⟩ := key _ h1.2
    exact ⟨k1, by show bl_ b (nxp_ b j) ≤ 2000; omega, k2, k3⟩
  · intro i j hij _ ho
    have step : ∀ u, 2 ≤ tkk_ (tbb_ b) u → tkp_ (tbb_ b) u < tkp_ (tbb_ b) (u + 1) := by
      intro u hu
      have h1 := bl_le (nxp_le b u)
      have h2 := (tk3_next h1.2).2.2 (by have hu : 2 ≤ (tk3_ b (bl_ b (nxp_ b u))).1 := hu; omega)
      have h3 := bl_le (nxp_le b (u + 1))
      show bl_ b (nxp_ b u) < bl_ b (nxp_ b (u + 1))
      have e : nxp_ b (u + 1) = (tk3_ b (bl_ b (nxp_ b u))).2.2 := rfl
      omega
    have H : ∀ n, i + n < j → tkp_ (tbb_ b) i < tkp_ (tbb_ b) (i + n + 1) := by
      intro n
      induction n with
      | zero => intro hn; exact step i (ho i (by omega))
      | succ n ih =>
        intro hn
        have a1 := ih (by omega)
        have a2 := step (i + n + 1) (ho _ (by omega))
        exact Nat.lt_trans a1 a2
    have := H (j - i - 1) (by omega)
    rw [show i + (j - i - 1) + 1 = j by omega] at this
    exact this
/-! the component scans them -/
def bW_ (G : mm_G) (b : List Nat) : Prop := mg_i G 1 4 = nI b.length ∧ b.length ≤ 2000 ∧ (∀ j, j < b.length → mg_i G 2 j = nI (bq_ b j) ∧ bq_ b j < 256) ∧ ∀ w, w < 20 → mg_l G 6 w = lN (wd_.getD w 0)
def fsj_ (j c k : Nat) : Bool := (decide (c = 3) || decide (c = 4) || decide (c = 5)) && decide (k = j)
theorem fsj_iff {j c k : Nat} : fsj_ j c k = false ↔ ((c ≠ 3 ∧ c ≠ 4 ∧ c ≠ 5) ∨ k ≠ j) := by
  unfold fsj_
  simp only [Bool.or_eq_false_iff, Bool.and_eq_false_iff, decide_eq_false_iff_not]
  omega
theorem bW_.fr {j : Nat} {G G1 : mm_G} {b : List Nat} (h : bW_ G b) (hf : fr_ (fsj_ j) G G1) : bW_ G1 b := by
  obtain ⟨a1, a2, a3, a4⟩ := h
  exact ⟨by rw [hf.i _ _ (fsj_iff.2 (by omega))]; exact a1, a2, fun j hj => ⟨by rw [hf.i _ _ (fsj_iff.2 (by omega))]; exact (a3 j hj).1, (a3 j hj).2⟩, fun w hw => by rw [hf.l _ _ (fsj_iff.2 (by omega))]; exact a4 w hw⟩
theorem s_isL {l : Launch} {κ : mm_K} {d : Nat} {G : mm_G} {K : Int32 → mm_G → Prop} {b : List Nat} {i : Nat} (hW : bW_ G b) (hi : i < b.length) (h : K (if isL_ (bq_ b i) = true then nI 1 else nI 0) G) : mC l κ true d 0 0 m_X10_isLetter [.ref 1, .int (nI i)] G (rI K) := by
  obtain ⟨a1, a2, a3, a4⟩ := hW
  obtain ⟨b1, b2⟩ := a3 i hi
  refine e_X10_isLetter _ ?_
  rw [nI_clamp (by omega), b1, nI_ltI (by omega) (by omega), nI_ltI (by omega) (by omega)]
  have hv : vp_in (nI i) 2000 := (ki_vp (by omega)).2 (by omega)
  unfold isL_ at h
  refine ⟨hv, fun y => ?_, fun y => ⟨hv, fun z => ?_, fun z => ?_⟩⟩
  · rw [decide_eq_false (by omega), if_neg (by decide)] at h; exact h
  · rw [decide_eq_false (by omega), if_neg (by decide)] at h; exact h
  · rw [decide_eq_true (by omega), if_pos rfl] at h; exact h
theorem s_isD {l : Launch} {κ : mm_K} {d : Nat} {G : mm_G} {K : Int32 → mm_G → Prop} {b : List Nat} {i : Nat} (hW : bW_ G b) (hi : i < b.length) (h : K (if isD_ (bq_ b i) = true then nI 1 else nI 0) G) : mC l κ true d 0 0 m_X10_isDigit [.ref 1, .int (nI i)] G (rI K) := by
  obtain ⟨a1, a2, a3, a4⟩ := hW
  obtain ⟨b1, b2⟩ := a3 i hi
  refine e_X10_isDigit _ ?_
  rw [nI_clamp (by omega), b1, nI_ltI (by omega) (by omega), nI_ltI (by omega) (by omega)]
  have hv : vp_in (nI i) 2000 := (ki_vp (by omega)).2 (by omega)
  unfold isD_ at h
  refine ⟨hv, fun y => ?_, fun y => ⟨hv, fun z => ?_, fun z => ?_⟩⟩
  · rw [decide_eq_false (by omega), if_neg (by decide)] at h; exact h
  · rw [decide_eq_false (by omega), if_neg (by decide)] at h; exact h
  · rw [decide_eq_true (by omega), if_pos rfl] at h; exact h
theorem s_past {l : Launch} {κ : mm_K} {d : Nat} {G : mm_G} {K : Int32 → mm_G → Prop} {b : List Nat} {i : Nat} (hW : bW_ G b) (hi : i ≤ b.length) (h : K (nI (bl_ b i)) G) : mC l κ true (d + 1) 0 0 m_X10_pastBlanks [.ref 1, .int (nI i)] G (rI K) := by
  obtain ⟨a1, a2, a3, a4⟩ := hW
  refine e_X10_pastBlanks _ ?_
  suffices H : ∀ n m, i + m + n = b.length → (∀ k, k < m → isB_ (bq_ b (i + k)) = true) → mV l κ true (d + 1) 0 0 m_X10_pastBlanks 2 [some (.ref 1), some (.int (nI i)), some (.int (nI (i + m)))] [] G (rI K) from H (b.length - i) 0 (by omega) (fun k hk => absurd hk (Nat.not_lt_zero k))
  intro n
  induction n with
  | zero =>
    intro m hm hk
    refine p_X10_pastBlanks_2 _ _ ⟨fun _ => ?_, fun y => absurd (by rw [a1]; exact nI_le (by omega) (by omega)) y⟩
    unfold bl_ at h
    rw [rlen_at hk (Or.inl (by omega)) (by omega)] at h
    exact h
  | succ n ih =>
    intro m hm hk
    obtain ⟨b1, b2⟩ := a3 (i + m) (by omega)
    have hdone : isB_ (bq_ b (i + m)) = false → K (nI (i + m)) G := fun hf => by
      unfold bl_ at h
      rw [rlen_at hk (Or.inr hf) (by omega)] at h
      exact h
    have hmore : isB_ (bq_ b (i + m)) = true → mV l κ true (d + 1) 0 0 m_X10_pastBlanks 2 [some (.ref 1), some (.int (nI i)), some (.int (nI (i + m) + nI 1))] [] G (rI K) := fun ht => by
      rw [nI_add]
      refine ih (m + 1) (by omega) (fun k hk2 => ?_)
      rcases Nat.lt_succ_iff_lt_or_eq.mp hk2 with q | q
      · exact hk k q
      · subst q; exact ht
    refine p_X10_pastBlanks_2 _ _ ⟨fun y => absurd y (by rw [a1]; exact nI_ge (by omega) (by omega)), fun _ => ⟨(ki_vp (by omega)).2 (by omega), ?_⟩⟩
    rw [nI_clamp (by omega), b1]
    refine e_X10_isBlank _ ?_
    rw [nI_eq (b := 9) (by omega) (by omega), nI_eq (b := 10) (by omega) (by omega), nI_eq (b := 13) (by omega) (by omega), nI_eq (b := 32) (by omega) (by omega)]
    refine ⟨fun y => ⟨fun z => absurd z (by decide), fun _ => hmore (decide_eq_true (by omega))⟩, fun y => ⟨fun y2 => ⟨fun z => absurd z (by decide), fun _ => hmore (decide_eq_true (by omega))⟩, fun y2 => ⟨fun y3 => ⟨fun z => absurd z (by decide), fun _ => hmore (decide_eq_true (by omega))⟩, fun y3 => ⟨fun y4 => ⟨fun _ => hdone (decide_eq_false (by omega)), fun z => absurd (by decide) z⟩, fun y4 => ⟨fun z => absurd z (by decide), fun _ => hmore (decide_eq_true (by omega))⟩⟩⟩⟩⟩
