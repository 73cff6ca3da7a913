/-! small numbers as Nat -/
theorem ki_0 : (0 : Int32) = nI 0 := by decide +kernel
theorem ki_vp {n N : Nat} (h : n < 2 ^ 31) : vp_in (nI n) N ↔ n < N := by
  rw [vp_in_iff, nI_toInt h]
  omega
theorem ki_sub {a b : Nat} (h : b ≤ a) : nI a - nI b = nI (a - b) := (Int32.ofNat_sub a b h).symm
theorem ki_mul (a b : Nat) : nI a * nI b = nI (a * b) := (Int32.ofNat_mul a b).symm
theorem ki_m1 {a : Nat} (h : a < 2 ^ 31) : (nI a = -1) = False := by
  refine eq_false (fun e => ?_)
  have := congrArg Int32.toInt e
  rw [nI_toInt h] at this
  have e2 : (-1 : Int32).toInt = -1 := by decide +kernel
  omega
theorem ki_m1' {a : Nat} (h : a < 2 ^ 31) : (-1 = nI a) = False := by
  refine eq_false (fun e => ?_)
  have := ki_m1 h
  rw [← e] at this
  simp at this
theorem ki_lt0 {a : Nat} (h : a < 2 ^ 31) : (nI a < 0) = False := eq_false (nI_pos h)
theorem ki_le0 {a : Nat} (h : a < 2 ^ 31) : (0 ≤ nI a) = True := eq_true (nI_pos' h)
theorem ki_shl : ∀ k, k < 31 → nI 1 <<< (nI k &&& 31) = nI (2 ^ k) := by decide +kernel
theorem ki_bit {k j : Nat} (hk : k < 65536) (hj : j < 16) : ((((nI k).toUInt32 >>> ((nI j).toUInt32 &&& Int32.toUInt32 31)).toInt32) &&& nI 1) = nI 0 ↔ k.testBit j = false := nx_bit hk hj
theorem ki_sshr {k j : Nat} (hk : k < 65536) (hj : j < 16) : nI k >>> (nI j &&& 31) = ((nI k).toUInt32 >>> ((nI j).toUInt32 &&& Int32.toUInt32 31)).toInt32 := by
  apply b_ext
  intro i hi
  rw [b_sshr j (by omega) _ hi, b_ushr j (by omega)]
  split
  · rfl
  · rename_i h
    have e1 : bt (nI k) 31 = false := by
      show (BitVec.ofNat 32 k).getLsbD 31 = false
      rw [BitVec.getLsbD_ofNat, Nat.testBit_lt_two_pow (by omega)]
      rfl
    rw [e1, b_big (by omega)]
theorem ki_bits {k j : Nat} (hk : k < 65536) (hj : j < 16) : ((nI k >>> (nI j &&& 31)) &&& nI 1) = nI 0 ↔ k.testBit j = false := by
  rw [ki_sshr hk hj]
  exact nx_bit hk hj
theorem ki_cmp (a b : Int64) : lg_cmp a b = nI 0 ↔ a = b := by
  rw [nI_0]
  unfold lg_cmp
  constructor
  · intro h
    split at h
    · exact absurd h (by decide)
    · split at h
      · assumption
      · exact absurd h (by decide)
  · intro h
    subst h
    rw [if_neg (by exact Int64.lt_irrefl), if_pos rfl]
theorem ki_toInt {a : Nat} (h : a < 2 ^ 31) : (nI a).toInt = (a : Int) := nI_toInt h
/-! the first index -/
theorem ff_at {p : Nat → Bool} {n i : Nat} (h : ∀ k, k < i → p k = false) (hp : p i = true) (hi : i < n) : fa_first p n = i := by
  rcases Nat.lt_trichotomy (fa_first p n) i with c | c | c
  · have := fa_first_yes p n (by omega)
    rw [h _ c] at this
    cases this
  · exact c
  · have := fa_first_no p n i c
    rw [hp] at this
    cases this
theorem ff_no {p : Nat → Bool} {n : Nat} (h : ∀ k, k < n → p k = false) : fa_first p n = n := by
  have h1 := fa_first_le p n
  rcases Nat.lt_or_ge (fa_first p n) n with c | c
  · have := fa_first_yes p n c
    rw [h _ c] at this
    cases this
  · omega
theorem ff_lt {p : Nat → Bool} {n i : Nat} (hi : i < n) (hp : p i = true) : fa_first p n < n := by
  have h1 := fa_first_no p n i
  rcases Nat.lt_or_ge (fa_first p n) n with c | c
  · exact c
  · rw [h1 (by omega)] at hp
    cases hp
/-! frames -/
def fr_ (S : Nat → Nat → Bool) (G G' : mm_G) : Prop := mg_n G' = mg_n G ∧ ∀ c k, S c k = false → mg_i G' c k = mg_i G c k ∧ mg_l G' c k = mg_l G c k ∧ mg_r G' c k = mg_r G c k
theorem fr_.rfl' {S : Nat → Nat → Bool} {G : mm_G} : fr_ S G G := ⟨rfl, fun _ _ _ => ⟨rfl, rfl, rfl⟩⟩
theorem fr_.trans {S : Nat → Nat → Bool} {G G1 G2 : mm_G} (h : fr_ S G G1) (h2 : fr_ S G1 G2) : fr_ S G G2 := by
  refine ⟨h2.1.trans h.1, fun c k hs => ?_⟩
  obtain ⟨a1, a2, a3⟩ := h.2 c k hs
  obtain ⟨b1, b2, b3⟩ := h2.2 c k hs
  exact ⟨b1.trans a1, b2.trans a2, b3.trans a3⟩
theorem fr_.mono {S T : Nat → Nat → Bool} {G G1 : mm_G} (h : fr_ S G G1) (hm : ∀ c k, T c k = false → S c k = false) : fr_ T G G1 := ⟨h.1, fun c k hs => h.2 c k (hm c k hs)⟩
theorem fr_.i {S : Nat → Nat → Bool} {G G1 : mm_G} (h : fr_ S G G1) (c k : Nat) (hs : S c k = false) : mg_i G1 c k = mg_i G c k := (h.2 c k hs).1
theorem fr_.l {S : Nat → Nat → Bool} {G G1 : mm_G} (h : fr_ S G G1) (c k : Nat) (hs : S c k = false) : mg_l G1 c k = mg_l G c k := (h.2 c k hs).2.1
theorem fr_.r {S : Nat → Nat → Bool} {G G1 : mm_G} (h : fr_ S G G1) (c k : Nat) (hs : S c k = false) : mg_r G1 c k = mg_r G c k := (h.2 c k hs).2.2
theorem fr_.si {S : Nat → Nat → Bool} {G G1 : mm_G} {o k : Nat} {v : Int32} (h : fr_ S G G1) (hs : S o k = true) : fr_ S G (ms_i G1 o k v) := by
  refine h.trans ⟨rfl, fun c j hc => ⟨?_, rfl, rfl⟩⟩
  rw [mg_i_i, if_neg]
  rintro ⟨rfl, rfl⟩
  rw [hs] at hc
  cases hc
theorem fr_.sl {S : Nat → Nat → Bool} {G G1 : mm_G} {o k : Nat} {v : Int64} (h : fr_ S G G1) (hs : S o k = true) : fr_ S G (ms_l G1 o k v) := by
  refine h.trans ⟨rfl, fun c j hc => ⟨rfl, ?_, rfl⟩⟩
  rw [mg_l_l, if_neg]
  rintro ⟨rfl, rfl⟩
  rw [hs] at hc
  cases hc
theorem fr_.sr {S : Nat → Nat → Bool} {G G1 : mm_G} {o k : Nat} {v : Option Nat} (h : fr_ S G G1) (hs : S o k = true) : fr_ S G (ms_r G1 o k v) := by
  refine h.trans ⟨rfl, fun c j hc => ⟨rfl, rfl, ?_⟩⟩
  rw [mg_r_r, if_neg]
  rintro ⟨rfl, rfl⟩
  rw [hs] at hc
  cases hc
