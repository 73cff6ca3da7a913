/-! how many lines a set has; the next set of as many -/
def pc_ (n : Nat) : Nat := fb_ct (fun i => n.testBit i) 20
theorem ct_0 : ∀ n, fb_ct (fun _ => false) n = 0
  | 0 => rfl
  | n + 1 => by rw [fb_ct_succ, ct_0 n]; rfl
theorem ct_1 : ∀ n, fb_ct (fun _ => true) n = n
  | 0 => rfl
  | n + 1 => by rw [fb_ct_succ, ct_1 n]; rfl
theorem tb_hi {n m i : Nat} (h : n < 2 ^ m) (hi : m ≤ i) : n.testBit i = false := Nat.testBit_lt_two_pow (Nat.lt_of_lt_of_le h (Nat.pow_le_pow_right (by decide) hi))
theorem pc_of {n m : Nat} (h : n < 2 ^ m) (hm : m ≤ 20) : pc_ n = fb_ct (fun i => n.testBit i) m := by
  unfold pc_
  rw [show 20 = m + (20 - m) by omega, fb_ct_split]
  have e : fb_ct (fun k => n.testBit (m + k)) (20 - m) = 0 := by
    rw [fb_ct_cong (q := fun _ => false) (fun k _ => tb_hi h (by omega)), ct_0]
  rw [e]
  rfl
theorem pc_add {a b m : Nat} (ha : a < 2 ^ m) (hm : m ≤ 20) (hb : b < 2 ^ (20 - m)) : pc_ (2 ^ m * b + a) = pc_ a + pc_ b := by
  rw [pc_of ha hm, pc_of hb (by omega)]
  unfold pc_
  rw [show 20 = m + (20 - m) by omega, fb_ct_split]
  have e : m + (20 - m) - m = 20 - m := by omega
  congr 1
  · exact fb_ct_cong (fun k hk => by rw [Nat.testBit_two_pow_mul_add _ ha, if_pos hk])
  · rw [e]
    exact fb_ct_cong (fun k hk => by rw [Nat.testBit_two_pow_mul_add _ ha, if_neg (by omega), Nat.add_sub_cancel_left])
theorem pc_le {n m : Nat} (h : n < 2 ^ m) (hm : m ≤ 20) : pc_ n ≤ m := by
  rw [pc_of h hm]
  exact fb_ct_le _ _
theorem pc_ones {m : Nat} (hm : m ≤ 20) : pc_ (2 ^ m - 1) = m := by
  have h : 2 ^ m - 1 < 2 ^ m := by have := Nat.two_pow_pos m; omega
  rw [pc_of h hm, fb_ct_cong (q := fun _ => true) (fun k hk => by rw [Nat.testBit_two_pow_sub_one, decide_eq_true hk]), ct_1]
theorem pc_0 : pc_ 0 = 0 := by decide +kernel
theorem pc_pos {n m : Nat} (h : n < 2 ^ m) (hm : m ≤ 20) (h0 : n ≠ 0) : 0 < pc_ n := by
  rw [pc_of h hm, fb_ct_pos]
  by_cases hc : ∃ k, k < m ∧ n.testBit k = true
  · exact hc
  · exfalso
    apply h0
    apply Nat.eq_of_testBit_eq
    intro i
    rw [Nat.zero_testBit]
    rcases Nat.lt_or_ge i m with c | c
    · cases hb : n.testBit i with
      | false => rfl
      | true => exact absurd ⟨i, c, hb⟩ hc
    · exact tb_hi h c
theorem pc_lt {n m : Nat} (h : n < 2 ^ m - 1) (hm : m ≤ 20) : pc_ n < m := by
  have h1 : n < 2 ^ m := by omega
  rcases Nat.lt_or_ge (pc_ n) m with c | c
  · exact c
  · exfalso
    have e : fb_ct (fun i => n.testBit i) m = m := by
      have := pc_le h1 hm
      rw [← pc_of h1 hm]
      omega
    have hall := fb_ct_all.1 e
    have : n = 2 ^ m - 1 := by
      apply Nat.eq_of_testBit_eq
      intro i
      rw [Nat.testBit_two_pow_sub_one]
      rcases Nat.lt_or_ge i m with c | c
      · rw [hall i c, decide_eq_true c]
      · rw [tb_hi h1 c, decide_eq_false (by omega)]
    omega
theorem tb_div (n k : Nat) : n / 2 ^ k % 2 = if n.testBit k then 1 else 0 := by
  rw [Nat.testBit_eq_decide_div_mod_eq]
  split
  · rename_i h; exact of_decide_eq_true h
  · rename_i h
    have : ¬ n / 2 ^ k % 2 = 1 := fun q => h (decide_eq_true q)
    omega
theorem pc_pe {n : Nat} (h : n < 65536) : pe_ n = pc_ n := by
  rw [pc_of (m := 16) h (by decide)]
  simp only [fb_ct_succ, show fb_ct (fun i => n.testBit i) 0 = 0 from rfl]
  rw [← tb_div n 0, ← tb_div n 1, ← tb_div n 2, ← tb_div n 3, ← tb_div n 4, ← tb_div n 5, ← tb_div n 6, ← tb_div n 7, ← tb_div n 8, ← tb_div n 9, ← tb_div n 10, ← tb_div n 11, ← tb_div n 12, ← tb_div n 13, ← tb_div n 14, ← tb_div n 15]
  unfold pe_
  simp
/-! Integer.bitCount -/
theorem ki_ush {k j : Nat} (hk : k < 2 ^ 32) (hj : j < 32) : ((nI k).toUInt32 >>> ((nI j).toUInt32 &&& Int32.toUInt32 31)).toInt32 = nI (k >>> j) := by
  have hs : k >>> j ≤ k := by
    rw [Nat.shiftRight_eq_div_pow]
    exact Nat.div_le_self _ _
  have e2 : UInt32.ofNat k >>> (UInt32.ofNat j &&& Int32.toUInt32 31) = UInt32.ofNat (k >>> j) := by
    apply UInt32.toNat_inj.1
    have h1 : (UInt32.ofNat k).toNat = k := Nat.mod_eq_of_lt (by omega)
    have h2 : (UInt32.ofNat (k >>> j)).toNat = k >>> j := Nat.mod_eq_of_lt (by omega)
    rw [UInt32.toNat_shiftRight, nx_cnt ⟨j, hj⟩, h1, h2]
  show (UInt32.ofNat k >>> (UInt32.ofNat j &&& Int32.toUInt32 31)).toInt32 = _
  rw [e2]
  rfl
theorem sr_le (a k : Nat) : a >>> k ≤ a := by
  rw [Nat.shiftRight_eq_div_pow]
  exact Nat.div_le_self _ _
theorem bc_uN {x k : Nat} (hx : x < 2 ^ 32) (hk : k < 32) : bc_u (nI x) (nI k) = nI (x >>> k) := ki_ush hx hk
theorem bc_1N {a : Nat} (h : a < 65536) : bc_1 (nI a) = nI (a - ((a >>> 1) &&& 1431655765)) := by
  show nI a - (bc_u (nI a) (nI 1) &&& nI 1431655765) = _
  rw [bc_uN (by omega) (by omega), fa_and, ki_sub (Nat.le_trans Nat.and_le_left (sr_le a 1))]
theorem bc_2N {a : Nat} (h : a < 2 ^ 20) : bc_2 (nI a) = nI ((a &&& 858993459) + ((a >>> 2) &&& 858993459)) := by
  show (nI a &&& nI 858993459) + (bc_u (nI a) (nI 2) &&& nI 858993459) = _
  rw [bc_uN (by omega) (by omega), fa_and, fa_and, nI_add]
theorem bc_3N {a : Nat} (h : a < 2 ^ 20) : bc_3 (nI a) = nI ((a + (a >>> 4)) &&& 252645135) := by
  show (nI a + bc_u (nI a) (nI 4)) &&& nI 252645135 = _
  rw [bc_uN (by omega) (by omega), nI_add, fa_and]
theorem bc_4N {a : Nat} (h : a < 2 ^ 22) : bc_4 (nI a) = nI (a + (a >>> 8)) := by
  show nI a + bc_u (nI a) (nI 8) = _
  rw [bc_uN (by omega) (by omega), nI_add]
theorem bc_5N {a : Nat} (h : a < 2 ^ 24) : bc_5 (nI a) = nI (a + (a >>> 16)) := by
  show nI a + bc_u (nI a) (nI 16) = _
  rw [bc_uN (by omega) (by omega), nI_add]
theorem bc_nN {a : Nat} (h : a < 65536) : bc_n (nI a) = nI (bn_ a) := by
  unfold bc_n
  rw [bc_1N h]
  have h1 : a - ((a >>> 1) &&& 1431655765) < 65536 := by omega
  show bc_5 (bc_4 (bc_3 (bc_2 (nI (a - ((a >>> 1) &&& 1431655765)))))) &&& (63 : Int32) = nI (bn_2 (a - ((a >>> 1) &&& 1431655765)))
  generalize a - ((a >>> 1) &&& 1431655765) = b at h1
  rw [bc_2N (by omega)]
  have h2 : (b &&& 858993459) + ((b >>> 2) &&& 858993459) < 2 ^ 18 := by
    have i1 : b &&& 858993459 ≤ b := Nat.and_le_left
    have i2 : (b >>> 2) &&& 858993459 ≤ b := Nat.le_trans Nat.and_le_left (sr_le b 2)
    omega
  show bc_5 (bc_4 (bc_3 (nI ((b &&& 858993459) + ((b >>> 2) &&& 858993459))))) &&& (63 : Int32) = nI (bn_3 ((b &&& 858993459) + ((b >>> 2) &&& 858993459)))
  generalize (b &&& 858993459) + ((b >>> 2) &&& 858993459) = c at h2
  rw [bc_3N (by omega)]
  have h3 : (c + (c >>> 4)) &&& 252645135 < 2 ^ 20 := by
    have i1 : (c + (c >>> 4)) &&& 252645135 ≤ c + (c >>> 4) := Nat.and_le_left
    have i2 := sr_le c 4
    omega
  show bc_5 (bc_4 (nI ((c + (c >>> 4)) &&& 252645135))) &&& (63 : Int32) = nI (bn_4 ((c + (c >>> 4)) &&& 252645135))
  generalize (c + (c >>> 4)) &&& 252645135 = e at h3
  rw [bc_4N (by omega)]
  have h4 : e + (e >>> 8) < 2 ^ 22 := by
    have i2 := sr_le e 8
    omega
  show bc_5 (nI (e + (e >>> 8))) &&& (63 : Int32) = nI (bn_5 (e + (e >>> 8)))
  generalize e + (e >>> 8) = f at h4
  rw [bc_5N (by omega)]
  show nI (f + (f >>> 16)) &&& nI 63 = nI ((f + (f >>> 16)) &&& 63)
  rw [fa_and]
theorem s_bits {l : Launch} {κ : mm_K} {ph : Bool} {d : Nat} {G : mm_G} {K : Int32 → mm_G → Prop} {a : Nat} (ha : a < 65536) (h : K (nI (pc_ a)) G) : mC l κ ph (d + 1) 0 0 m_J6_bitCount_0f7a4 [.int (nI a)] G (rI K) := by
  refine s_bitCount _ ?_
  rw [bc_nN ha, bn_pe ha, pc_pe ha]
  exact h
theorem ki_sbit {k j : Nat} (hk : k < 65536) (hj : j < 16) : ((nI k >>> (nI j &&& 31)) &&& nI 1) = nI (if k.testBit j then 1 else 0) := by
  rw [ki_sshr hk hj, nx_ush hk (by omega), fa_and, Nat.and_one_is_mod, Nat.shiftRight_eq_div_pow, tb_div]
theorem t_bits {l : Launch} {κ : mm_K} {d : Nat} {G : mm_G} {K : Int32 → mm_G → Prop} {a : Nat} (ha : a < 65536) (h : K (nI (pc_ a)) G) : mC l κ true d 0 0 m_X13_bits [.int (nI a)] G (rI K) := by
  refine e_X13_bits _ ?_
  suffices H : ∀ n i, i + n = 16 → mV l κ true d 0 0 m_X13_bits 4 [some (.int (nI a)), some (.int (nI (fb_ct (fun i => a.testBit i) i))), some (.int (nI i))] [] G (rI K) from H 16 0 rfl
  intro n
  induction n with
  | zero =>
    intro i hi
    obtain rfl : i = 16 := by omega
    refine p_X13_bits_4 _ _ _ ⟨fun _ => ?_, fun z => absurd (nI_le (by omega) (by omega)) z⟩
    rw [← pc_of (m := 16) ha (by decide)]
    exact h
  | succ n ih =>
    intro i hi
    refine p_X13_bits_4 _ _ _ ⟨fun z => absurd z (nI_ge (by omega) (by omega)), fun _ => ?_⟩
    rw [ki_sbit ha (by omega), nI_add, nI_add, ← fb_ct_succ (fun i => a.testBit i) i]
    exact ih (i + 1) (by omega)
/-! the next set of as many -/
def tz_ : Nat → Nat → Nat
  | 0, _ => 0
  | f + 1, s => if s % 2 = 1 then 0 else 1 + tz_ f (s / 2)
def to_ : Nat → Nat → Nat
  | 0, _ => 0
  | f + 1, s => if s % 2 = 1 then 1 + to_ f (s / 2) else 0
theorem tz_dec : ∀ f s, s ≠ 0 → s < 2 ^ f → ∃ u, s = 2 ^ tz_ f s * (2 * u + 1) ∧ tz_ f s < f
  | 0, s, h0, h => by have : s < 1 := h; omega
  | f + 1, s, h0, h => by
    unfold tz_
    split
    · exact ⟨s / 2, by omega, by omega⟩
    · obtain ⟨u, hu, hl⟩ := tz_dec f (s / 2) (by omega) (by rw [Nat.pow_succ] at h; omega)
      refine ⟨u, ?_, by omega⟩
      rw [Nat.add_comm 1, Nat.pow_succ, Nat.mul_comm (2 ^ _) 2, Nat.mul_assoc, ← hu]
      omega
theorem to_dec : ∀ f s, s < 2 ^ f → ∃ h, s = (2 ^ to_ (f + 1) s - 1) + 2 ^ (to_ (f + 1) s + 1) * h ∧ to_ (f + 1) s ≤ f
  | 0, s, h => by
    have : s < 1 := h
    have : s = 0 := by omega
    subst this
    exact ⟨0, by decide, by decide⟩
  | f + 1, s, h => by
    by_cases c : s % 2 = 1
    · obtain ⟨g, hg, hl⟩ := to_dec f (s / 2) (by rw [Nat.pow_succ] at h; omega)
      have e : to_ (f + 1 + 1) s = to_ (f + 1) (s / 2) + 1 := by
        show (if s % 2 = 1 then 1 + to_ (f + 1) (s / 2) else 0) = _
        rw [if_pos c, Nat.add_comm]
      rw [e]
      have hp := Nat.two_pow_pos (to_ (f + 1) (s / 2))
      refine ⟨g, ?_, by omega⟩
      rw [Nat.pow_succ 2 (to_ (f + 1) (s / 2) + 1), Nat.mul_comm (2 ^ (to_ (f + 1) (s / 2) + 1)) 2, Nat.mul_assoc, Nat.pow_succ]
      rw [Nat.pow_succ] at hg
      generalize 2 ^ to_ (f + 1) (s / 2) * 2 * g = z at hg ⊢
      omega
    · have e : to_ (f + 1 + 1) s = 0 := by
        show (if s % 2 = 1 then 1 + to_ (f + 1) (s / 2) else 0) = _
        rw [if_neg c]
      rw [e]
      exact ⟨s / 2, by simp; omega, by omega⟩
/-- a set but the empty one: zeros, ones, a zero, the rest -/
theorem gs_dec {s : Nat} (h0 : s ≠ 0) (h : s < 65536) : ∃ k c g, 0 < c ∧ k + c ≤ 16 ∧ s = 2 ^ k * (2 ^ c - 1) + 2 ^ (k + c + 1) * g ∧ g < 2 ^ 16 := by
  obtain ⟨u, hu, hl⟩ := tz_dec 16 s h0 h
  generalize tz_ 16 s = k at hu hl
  have hu2 : 2 * u + 1 < 2 ^ (16 - k) := by
    have : 2 ^ k * (2 * u + 1) < 2 ^ k * 2 ^ (16 - k) := by
      rw [← hu, ← Nat.pow_add, show k + (16 - k) = 16 by omega]
      exact h
    exact Nat.lt_of_mul_lt_mul_left this
  obtain ⟨g, hg, hc⟩ := to_dec (16 - k) (2 * u + 1) hu2
  have hpos : 0 < to_ (16 - k + 1) (2 * u + 1) := by
    show 0 < (if (2 * u + 1) % 2 = 1 then 1 + to_ (16 - k) ((2 * u + 1) / 2) else 0)
    rw [if_pos (by omega)]
    omega
  generalize to_ (16 - k + 1) (2 * u + 1) = c at hg hc hpos
  refine ⟨k, c, g, hpos, by omega, ?_, ?_⟩
  · rw [hu, hg, Nat.mul_add, Nat.add_assoc k c 1, Nat.pow_add 2 k (c + 1), Nat.mul_assoc]
  · have h2 := Nat.two_pow_pos (c + 1)
    have h3 : g ≤ 2 ^ (c + 1) * g := Nat.le_mul_of_pos_left g h2
    have h4 : 2 ^ (16 - k) ≤ 2 ^ 16 := Nat.pow_le_pow_right (by decide) (by omega)
    omega
def gb_ (s : Int32) : Int32 := if (s &&& (-s)) = 0 then nI 65536 else (s + (s &&& (-s))) ||| ((((s ^^^ (s + (s &&& (-s)))).toUInt32 >>> ((nI 2).toUInt32 &&& Int32.toUInt32 31)).toInt32) / (s &&& (-s)))
theorem ki_neg {a : Nat} (h : a ≤ 2 ^ 32) : -(nI a) = nI (2 ^ 32 - a) := by
  have e : nI a + nI (2 ^ 32 - a) = 0 := by
    rw [nI_add, show a + (2 ^ 32 - a) = 2 ^ 32 by omega]
    decide +kernel
  have : -(nI a) + (nI a + nI (2 ^ 32 - a)) = -(nI a) + 0 := by rw [e]
  rw [← Int32.add_assoc, Int32.add_left_neg, Int32.zero_add, Int32.add_zero] at this
  exact this.symm
theorem low_bit {k u : Nat} (h : 2 ^ k * (2 * u + 1) < 2 ^ 32) : 2 ^ k * (2 * u + 1) &&& (2 ^ 32 - 2 ^ k * (2 * u + 1)) = 2 ^ k := by
  have hp := Nat.two_pow_pos k
  have e1 : 2 ^ k * (2 * u + 1) = 2 ^ k * (2 * u) + (2 ^ k - 1) + 1 := by rw [Nat.mul_add]; omega
  apply Nat.eq_of_testBit_eq
  intro i
  rw [Nat.testBit_and]
  have eA : (2 ^ k * (2 * u + 1)).testBit i = if i < k then false else (2 * u + 1).testBit (i - k) := by
    have := Nat.testBit_two_pow_mul_add (2 * u + 1) hp i
    rw [Nat.add_zero, Nat.zero_testBit] at this
    exact this
  have eB : (2 ^ 32 - 2 ^ k * (2 * u + 1)).testBit i = (decide (i < 32) && !(if i < k then true else (2 * u).testBit (i - k))) := by
    rw [e1, Nat.testBit_two_pow_sub_succ (by omega), Nat.testBit_two_pow_mul_add _ (by omega)]
    congr 2
    split
    · rename_i c; rw [Nat.testBit_two_pow_sub_one, decide_eq_true c]
    · rfl
  rw [eA, eB, Nat.testBit_two_pow]
  have hk : k < 32 := by
    rcases Nat.lt_or_ge k 32 with c | c
    · exact c
    · have : 2 ^ 32 ≤ 2 ^ k := Nat.pow_le_pow_right (by decide) c
      have : 2 ^ k ≤ 2 ^ k * (2 * u + 1) := Nat.le_mul_of_pos_right _ (by omega)
      omega
  by_cases c : i < k
  · rw [if_pos c, if_pos c, decide_eq_false (p := k = i) (by omega)]; rfl
  · rw [if_neg c, if_neg c]
    by_cases c2 : k = i
    · subst c2
      rw [decide_eq_true rfl, Nat.sub_self, decide_eq_true hk]
      simp [Nat.testBit_zero]
    · rw [decide_eq_false c2]
      obtain ⟨j, hj⟩ : ∃ j, i - k = j + 1 := ⟨i - k - 1, by omega⟩
      rw [hj, Nat.testBit_succ, Nat.testBit_succ, show (2 * u + 1) / 2 = u by omega, show 2 * u / 2 = u by omega]
      cases u.testBit j <;> simp
theorem up_xor {k c g : Nat} : (2 ^ k * (2 ^ c - 1) + 2 ^ (k + c + 1) * g) ^^^ (2 ^ (k + c) + 2 ^ (k + c + 1) * g) = 2 ^ k * (2 ^ (c + 1) - 1) := by
  have hp := Nat.two_pow_pos k
  have hc := Nat.two_pow_pos c
  have hlt : 2 ^ k * (2 ^ c - 1) < 2 ^ (k + c + 1) := by
    have e1 : 2 ^ (k + c + 1) = 2 ^ k * (2 ^ c * 2) := by rw [Nat.add_assoc, Nat.pow_add, Nat.pow_succ]
    rw [e1]
    exact Nat.mul_lt_mul_of_pos_left (by omega) hp
  have hlt2 : 2 ^ (k + c) < 2 ^ (k + c + 1) := Nat.pow_lt_pow_right (by decide) (by omega)
  apply Nat.eq_of_testBit_eq
  intro i
  rw [Nat.testBit_xor, Nat.add_comm (2 ^ k * (2 ^ c - 1)), Nat.add_comm (2 ^ (k + c)), Nat.testBit_two_pow_mul_add _ hlt, Nat.testBit_two_pow_mul_add _ hlt2]
  have e0 : ∀ w, (2 ^ k * w).testBit i = if i < k then false else w.testBit (i - k) := by
    intro w
    have := Nat.testBit_two_pow_mul_add w hp i
    rw [Nat.add_zero, Nat.zero_testBit] at this
    exact this
  rw [e0, e0, Nat.testBit_two_pow_sub_one, Nat.testBit_two_pow_sub_one, Nat.testBit_two_pow]
  by_cases c1 : i < k
  · rw [if_pos (by omega), if_pos c1, if_pos (by omega), decide_eq_false (by omega), if_pos c1]; rfl
  · rw [if_neg c1, if_neg c1]
    by_cases c2 : i < k + c
    · rw [if_pos (by omega), if_pos (by omega), decide_eq_true (by omega), decide_eq_false (by omega), decide_eq_true (by omega)]; rfl
    · by_cases c3 : i = k + c
      · rw [if_pos (by omega), if_pos (by omega), decide_eq_false (by omega), decide_eq_true (by omega), decide_eq_true (by omega)]; rfl
      · rw [if_neg (by omega), if_neg (by omega), decide_eq_false (by omega), Bool.xor_self]
/-- what setBehind gives -/
theorem gb_next {s : Nat} (h0 : s ≠ 0) (h : s < 65536) : ∃ nx, gb_ (nI s) = nI nx ∧ s < nx ∧ nx < 2 ^ 20 ∧ pc_ nx = pc_ s ∧ ∀ x, s < x → x < nx → pc_ x ≠ pc_ s := by
  obtain ⟨k, c, g, hc, hkc, hs, hg⟩ := gs_dec h0 h
  obtain ⟨c', rfl⟩ : ∃ c', c = c' + 1 := ⟨c - 1, by omega⟩
  have hp := Nat.two_pow_pos k
  have hpc := Nat.two_pow_pos c'
  have hpk : 2 ^ (k + c' + 1) ≤ 65536 := px_len_lt (by omega)
  have hpk2 : 2 ^ k ≤ 65536 := px_len_lt (by omega)
  have hE : 2 ^ (k + (c' + 1) + 1) = 2 * 2 ^ (k + (c' + 1)) := by rw [Nat.pow_succ, Nat.mul_comm]
  have hE2 : 2 ^ (k + (c' + 1)) = 2 ^ k * (2 * 2 ^ c') := by rw [Nat.pow_add, Nat.pow_succ, Nat.mul_comm (2 ^ c') 2]
  have hm1 : 2 ^ k * (2 ^ (c' + 1) - 1) + 2 ^ k = 2 ^ (k + (c' + 1)) := by
    rw [Nat.pow_add 2 k (c' + 1), Nat.mul_sub, Nat.mul_one]
    have : 2 ^ k ≤ 2 ^ k * 2 ^ (c' + 1) := Nat.le_mul_of_pos_right _ (Nat.two_pow_pos _)
    omega
  have hlow : nI s &&& -(nI s) = nI (2 ^ k) := by
    rw [ki_neg (by omega), fa_and]
    congr 1
    obtain ⟨u, hu⟩ : ∃ u, s = 2 ^ k * (2 * u + 1) := by
      refine ⟨2 ^ c' - 1 + 2 * 2 ^ c' * g, ?_⟩
      rw [hs, hE, hE2, Nat.mul_assoc 2, Nat.mul_assoc (2 ^ k), ← Nat.mul_assoc 2 (2 ^ k), Nat.mul_comm 2 (2 ^ k), Nat.mul_assoc (2 ^ k) 2, ← Nat.mul_add, Nat.pow_succ]
      congr 1
      have e3 : 2 * (2 * 2 ^ c' * g) = 2 * (2 * 2 ^ c' * g) := rfl
      rw [Nat.mul_add]
      omega
    rw [hu]
    exact low_bit (by rw [← hu]; omega)
  have hup : s + 2 ^ k = 2 ^ (k + (c' + 1)) + 2 ^ (k + (c' + 1) + 1) * g := by
    rw [← hm1]
    omega
  have hglt : 2 ^ (k + (c' + 1) + 1) * g < 65536 := by omega
  have hgx : g < 2 ^ (20 - (k + (c' + 1) + 1)) := by
    rcases Nat.eq_zero_or_pos g with z | z
    · rw [z]; exact Nat.two_pow_pos _
    · have h1 : 2 ^ (k + (c' + 1) + 1) * g < 2 ^ (k + (c' + 1) + 1) * 2 ^ (20 - (k + (c' + 1) + 1)) := by
        rw [← Nat.pow_add, show k + (c' + 1) + 1 + (20 - (k + (c' + 1) + 1)) = 20 by omega]
        omega
      exact Nat.lt_of_mul_lt_mul_left h1
  refine ⟨2 ^ (k + (c' + 1)) + (2 ^ c' - 1) + 2 ^ (k + (c' + 1) + 1) * g, ?_, ?_, ?_, ?_, ?_⟩
  · unfold gb_
    rw [hlow, if_neg (by rw [ki_0, nI_eq (by omega) (by omega)]; omega), nI_add, fb_xorI, hup]
    rw [hs, up_xor]
    have hX : 2 ^ k * (2 ^ (c' + 1 + 1) - 1) < 2 ^ 20 := by
      have h1 : 2 ^ k * (2 ^ (c' + 1 + 1) - 1) ≤ 2 ^ k * 2 ^ (c' + 1 + 1) := Nat.mul_le_mul_left _ (by omega)
      rw [← Nat.pow_add] at h1
      have h2 : 2 ^ (k + (c' + 1 + 1)) ≤ 2 ^ 17 := Nat.pow_le_pow_right (by decide) (by omega)
      omega
    rw [ki_ush (by omega) (by omega), pk_div (by have := sr_le (2 ^ k * (2 ^ (c' + 1 + 1) - 1)) 2; omega) hp (by omega)]
    have hdv : (2 ^ k * (2 ^ (c' + 1 + 1) - 1)) >>> 2 / 2 ^ k = 2 ^ c' - 1 := by
      rw [Nat.shiftRight_eq_div_pow, Nat.div_div_eq_div_mul, Nat.mul_comm (2 ^ 2), ← Nat.div_div_eq_div_mul, Nat.mul_div_cancel_left _ hp, Nat.pow_succ, Nat.pow_succ]
      omega
    rw [hdv]
    have e2 : 2 ^ (k + (c' + 1)) + 2 ^ (k + (c' + 1) + 1) * g = 2 ^ (k + (c' + 1)) * (1 + 2 * g) := by
      rw [hE, Nat.mul_add, Nat.mul_one, Nat.mul_comm 2, Nat.mul_assoc]
    have hlt : 2 ^ c' - 1 < 2 ^ (k + (c' + 1)) := by
      have : 2 ^ c' ≤ 2 ^ (k + (c' + 1)) := Nat.pow_le_pow_right (by decide) (by omega)
      omega
    rw [e2, fa_or_sum _ hlt, ← e2]
    congr 1
    omega
  · omega
  · have : 2 ^ c' ≤ 65536 := px_len_lt (by omega)
    have : 2 ^ (k + (c' + 1)) ≤ 65536 := px_len_lt (by omega)
    omega
  · have hlt : 2 ^ c' - 1 < 2 ^ (k + (c' + 1)) := by
      have : 2 ^ c' ≤ 2 ^ (k + (c' + 1)) := Nat.pow_le_pow_right (by decide) (by omega)
      omega
    have e1 : pc_ (2 ^ (k + (c' + 1)) + (2 ^ c' - 1) + 2 ^ (k + (c' + 1) + 1) * g) = (c' + 1) + pc_ g := by
      rw [Nat.add_comm _ (2 ^ (k + (c' + 1) + 1) * g), pc_add (by rw [hE]; omega) (by omega) hgx]
      congr 1
      have := pc_add (a := 2 ^ c' - 1) (b := 1) (m := k + (c' + 1)) hlt (by omega) (Nat.one_lt_two_pow (by omega))
      rw [Nat.mul_one] at this
      rw [this, pc_ones (by omega), show pc_ 1 = 1 by decide +kernel]
    have e2 : pc_ s = (c' + 1) + pc_ g := by
      rw [hs, Nat.add_comm _ (2 ^ (k + (c' + 1) + 1) * g), pc_add (by rw [hE]; omega) (by omega) hgx]
      congr 1
      have := pc_add (a := 0) (b := 2 ^ (c' + 1) - 1) (m := k) hp (by omega) (by
        have : 2 ^ (c' + 1) ≤ 2 ^ (20 - k) := Nat.pow_le_pow_right (by decide) (by omega)
        have := Nat.two_pow_pos (c' + 1)
        omega)
      rw [Nat.add_zero] at this
      rw [this, pc_0, pc_ones (by omega), Nat.zero_add]
    rw [e1, e2]
  · intro x hx1 hx2
    have e2 : pc_ s = (c' + 1) + pc_ g := by
      rw [hs, Nat.add_comm _ (2 ^ (k + (c' + 1) + 1) * g), pc_add (by rw [hE]; omega) (by omega) hgx]
      congr 1
      have := pc_add (a := 0) (b := 2 ^ (c' + 1) - 1) (m := k) hp (by omega) (by
        have : 2 ^ (c' + 1) ≤ 2 ^ (20 - k) := Nat.pow_le_pow_right (by decide) (by omega)
        have := Nat.two_pow_pos (c' + 1)
        omega)
      rw [Nat.add_zero] at this
      rw [this, pc_0, pc_ones (by omega), Nat.zero_add]
    have hle : 2 ^ c' ≤ 2 ^ (k + (c' + 1)) := Nat.pow_le_pow_right (by decide) (by omega)
    obtain ⟨y, hy⟩ : ∃ y, x = 2 ^ (k + (c' + 1) + 1) * g + y := ⟨x - 2 ^ (k + (c' + 1) + 1) * g, by omega⟩
    have hy1 : 2 ^ k * (2 ^ (c' + 1) - 1) < y := by omega
    have hy2 : y < 2 ^ (k + (c' + 1)) + (2 ^ c' - 1) := by omega
    rw [hy, pc_add (by rw [hE]; omega) (by omega) hgx, e2]
    rcases Nat.lt_or_ge y (2 ^ (k + (c' + 1))) with cy | cy
    · obtain ⟨z, hz⟩ : ∃ z, y = 2 ^ k * (2 ^ (c' + 1) - 1) + z := ⟨y - 2 ^ k * (2 ^ (c' + 1) - 1), by omega⟩
      have hz2 : z < 2 ^ k := by omega
      rw [hz, pc_add hz2 (by omega) (by
        have : 2 ^ (c' + 1) ≤ 2 ^ (20 - k) := Nat.pow_le_pow_right (by decide) (by omega)
        have := Nat.two_pow_pos (c' + 1)
        omega), pc_ones (by omega)]
      have := pc_pos hz2 (by omega) (by omega)
      omega
    · obtain ⟨z, hz⟩ : ∃ z, y = 2 ^ (k + (c' + 1)) * 1 + z := ⟨y - 2 ^ (k + (c' + 1)), by omega⟩
      have hz2 : z < 2 ^ c' - 1 := by omega
      rw [hz, pc_add (by omega) (by omega) (Nat.one_lt_two_pow (by omega)), show pc_ 1 = 1 by decide +kernel]
      have := pc_lt hz2 (by omega)
      omega
