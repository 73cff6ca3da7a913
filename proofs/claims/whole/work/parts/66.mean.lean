/-! ways, mean: the answers -/
theorem lN_big {a : Nat} (h : a < 2 ^ 63) : (lN a).toInt = a := Int64.toInt_ofNat_of_lt h
theorem lN_eqI {x : Int64} {k : Nat} (h : x.toInt = (k : Int)) (hk : k < 2 ^ 63) : x = lN k := by
  apply Int64.toInt_inj.mp
  rw [h, lN_big hk]
theorem lN_div {a b : Nat} (ha : a < 2 ^ 63) (hb : b < 2 ^ 63) : lN a / lN b = lN (a / b) := by
  have hle : a / b ≤ a := Nat.div_le_self a b
  refine lN_eqI ?_ (by omega)
  rw [Int64.toInt_div, lN_big ha, lN_big hb, ← Int.ofNat_tdiv]
  generalize a / b = q at hle ⊢
  exact Int.bmod_eq_of_le (by omega) (by omega)
theorem lN_rem {a b : Nat} (ha : a < 2 ^ 63) (hb : b < 2 ^ 63) : lN a - lN a / lN b * lN b = lN (a % b) := by
  rw [lN_div ha hb, lN_mul, lN_sub (by rw [Nat.mul_comm]; exact Nat.mul_div_le a b)]
  congr 1
  have := Nat.div_add_mod a b
  rw [Nat.mul_comm] at this
  omega
theorem lN_z {a : Nat} (ha : a < 2 ^ 63) : lg_cmp (lN a) (lN 0) = 0 ↔ a = 0 := by
  rw [ki_0, ki_cmp]
  constructor
  · intro e
    have := congrArg Int64.toInt e
    rw [lN_big ha, lN_big (by omega)] at this
    omega
  · intro e; rw [e]
theorem lN_z' {a : Nat} (ha : a < 2 ^ 63) (h : a ≠ 0) : ¬ lN a = 0 := by
  intro e
  have := congrArg Int64.toInt e
  rw [lN_big ha] at this
  have e0 : (0 : Int64).toInt = 0 := by decide
  omega
/-! the common divisor -/
theorem eu_half {b r : Nat} (h0 : 0 < r) (h : r < b) : 2 * (b % r) < b := by
  have h1 := Nat.mod_lt b h0
  by_cases c : 2 * r ≤ b
  · omega
  · have : b % r = b - r := by
      rw [Nat.mod_eq_sub_mod (by omega), Nat.mod_eq_of_lt (by omega)]
    omega
theorem s_common {l : Launch} {κ : mm_K} {d : Nat} {G : mm_G} {K : Int64 → mm_G → Prop} {a b : Nat} (ha : a < 2 ^ 63) (hb : b < 2 ^ 40) (h : K (lN (Nat.gcd a b)) G) : mC l κ true d 0 0 m_X4_commonDivisor [.long (lN a), .long (lN b)] G (rL K) := by
  refine e_X4_commonDivisor _ _ ?_
  suffices H : ∀ n x y i, y < 2 ^ n → y < 2 ^ 40 → x < 2 ^ 63 → Nat.gcd x y = Nat.gcd a b → i + 2 * n < 199 → mV l κ true d 0 0 m_X4_commonDivisor 9 [some (.long (lN a)), none, some (.long (lN b)), none, some (.long (lN x)), none, some (.long (lN y)), none, some (.int (nI i)), none, none] [] G (rL K) from
    H 40 a b 0 hb hb ha rfl (by omega)
  have hz : ∀ x i, i < 200 → Nat.gcd x 0 = Nat.gcd a b → mV l κ true d 0 0 m_X4_commonDivisor 9 [some (.long (lN a)), none, some (.long (lN b)), none, some (.long (lN x)), none, some (.long (lN 0)), none, some (.int (nI i)), none, none] [] G (rL K) := by
    intro x i hi hg
    refine p_X4_commonDivisor_9 _ _ _ _ _ ⟨fun z => absurd z (nI_ge (by omega) (by omega)), fun _ => ⟨fun _ => ?_, fun z => absurd ((lN_z (by omega)).2 rfl) z⟩⟩
    rw [Nat.gcd_zero_right] at hg
    rw [hg]
    exact h
  have hstep : ∀ x y i, i < 199 → y ≠ 0 → y < 2 ^ 40 → x < 2 ^ 63 → mV l κ true d 0 0 m_X4_commonDivisor 9 [some (.long (lN a)), none, some (.long (lN b)), none, some (.long (lN y)), none, some (.long (lN (x % y))), none, some (.int (nI (i + 1))), none, none] [] G (rL K) → mV l κ true d 0 0 m_X4_commonDivisor 9 [some (.long (lN a)), none, some (.long (lN b)), none, some (.long (lN x)), none, some (.long (lN y)), none, some (.int (nI i)), none, none] [] G (rL K) := by
    intro x y i hi hy hy2 hx hh
    refine p_X4_commonDivisor_9 _ _ _ _ _ ⟨fun z => absurd z (nI_ge (by omega) (by omega)), fun _ => ⟨fun z => absurd ((lN_z (by omega)).1 z) hy, fun _ => ⟨lN_z' (by omega) hy, ?_⟩⟩⟩
    rw [lN_rem hx (by omega), nI_add]
    exact hh
  intro n
  induction n with
  | zero =>
    intro x y i h1 h2 h3 h4 h5
    obtain rfl : y = 0 := by have : y < 1 := h1; omega
    exact hz x i (by omega) h4
  | succ n ih =>
    intro x y i h1 h2 h3 h4 h5
    by_cases c : y = 0
    · subst c
      exact hz x i (by omega) h4
    · have hm := Nat.mod_lt x (show 0 < y by omega)
      have hg : Nat.gcd y (x % y) = Nat.gcd a b := by rw [← h4, Nat.gcd_comm x y, Nat.gcd_rec y x, Nat.gcd_comm (x % y) y]
      refine hstep x y i (by omega) c h2 h3 ?_
      by_cases c2 : x % y = 0
      · rw [c2] at hg ⊢
        exact hz y (i + 1) (by omega) hg
      · refine hstep y (x % y) (i + 1) (by omega) c2 (by omega) (by omega) ?_
        have hh := eu_half (b := y) (r := x % y) (by omega) hm
        have hm2 := Nat.mod_lt y (show 0 < x % y by omega)
        rw [Nat.pow_succ] at h1
        refine ih (x % y) (y % (x % y)) (i + 2) (by omega) (by omega) (by omega) ?_ (by omega)
        rw [← hg, Nat.gcd_comm y (x % y), Nat.gcd_rec (x % y) y, Nat.gcd_comm]
theorem t_common {l : Launch} {κ : mm_K} {d : Nat} {G : mm_G} {K : Int64 → mm_G → Prop} {a b : Nat} (ha : a < 2 ^ 63) (hb : b < 2 ^ 63) (h : K (lN (Nat.gcd a b)) G) : mC l κ true d 0 0 m_X13_common [.long (lN a), .long (lN b)] G (rL K) := by
  refine e_X13_common _ _ ?_
  suffices H : ∀ n x y, y < n → y < 2 ^ 63 → x < 2 ^ 63 → Nat.gcd x y = Nat.gcd a b → mV l κ true d 0 0 m_X13_common 6 [some (.long (lN a)), none, some (.long (lN b)), none, some (.long (lN x)), none, some (.long (lN y)), none, none, none] [] G (rL K) from
    H (b + 1) a b (by omega) hb ha rfl
  intro n
  induction n with
  | zero => intro x y h1; exact absurd h1 (Nat.not_lt_zero y)
  | succ n ih =>
    intro x y h1 h2 h3 h4
    refine p_X13_common_6 _ _ _ _ ⟨fun z => ?_, fun z => ?_⟩
    · rw [lN_z h2] at z
      subst z
      rw [Nat.gcd_zero_right] at h4
      rw [h4]
      exact h
    · rw [lN_z h2] at z
      have hm := Nat.mod_lt x (show 0 < y by omega)
      rw [lN_rem h3 h2]
      refine ⟨lN_z' h2 z, ih y (x % y) (by omega) (by omega) h2 ?_⟩
      rw [← h4, Nat.gcd_comm x y, Nat.gcd_rec y x, Nat.gcd_comm (x % y) y]
theorem t_orders {l : Launch} {κ : mm_K} {d : Nat} {G : mm_G} {K : Int64 → mm_G → Prop} {n : Nat} (hn : n ≤ 16) (h : K (lN (fxx_ n)) G) : mC l κ true d 0 0 m_X13_orders [.int (nI n)] G (rL K) := by
  refine e_X13_orders _ ?_
  by_cases c : n = 0
  · subst c
    exact p_X13_orders_4 _ _ _ ⟨fun _ => h, fun z => absurd (by decide) z⟩
  suffices H : ∀ w k, k + 1 + w = n → mV l κ true d 0 0 m_X13_orders 4 [some (.int (nI n)), some (.long (lN (fxx_ (k + 1)))), none, some (.int (nI (k + 2)))] [] G (rL K) from H (n - 1) 0 (by omega)
  intro w
  induction w with
  | zero =>
    intro k hk
    obtain rfl : n = k + 1 := by omega
    exact p_X13_orders_4 _ _ _ ⟨fun _ => h, fun z => absurd (nI_lt (by omega) (by omega)) z⟩
  | succ w ih =>
    intro k hk
    refine p_X13_orders_4 _ _ _ ⟨fun z => absurd z (nI_nlt (by omega) (by omega)), fun _ => ?_⟩
    rw [nI_add, lN_wide (by omega), lN_mul]
    have e : fxx_ (k + 1) * (k + 2) = fxx_ (k + 1 + 1) := by rw [Nat.mul_comm]; rfl
    rw [e]
    exact ih (k + 1) (by omega)
/-! the sum -/
def mt_f (S : Nat → Bool) (L k : Nat) : Nat := wz_ S L k (2 ^ L) * fxx_ (L - k)
def mt_u (S : Nat → Bool) (L : Nat) : Nat := fb_sm (mt_f S L) (L + 1)
theorem fb_sm_rev : ∀ n (f : Nat → Nat), fb_sm (fun i => f (n - i)) (n + 1) = fb_sm f (n + 1)
  | 0, f => rfl
  | n + 1, f => by
    have h1 := fb_sm_split (fun i => f (n + 1 - i)) 1 (n + 1)
    rw [show 1 + (n + 1) = n + 1 + 1 by omega] at h1
    rw [h1]
    have h2 : fb_sm (fun k => f (n + 1 - (1 + k))) (n + 1) = fb_sm (fun i => f (n - i)) (n + 1) := fb_sm_cong (fun k _ => by rw [show n + 1 - (1 + k) = n - k by omega])
    rw [h2, fb_sm_rev n f]
    rw [fb_sm_succ f (n + 1)]
    show 0 + f (n + 1 - 0) + _ = _
    rw [Nat.sub_zero]
    omega
theorem fxx_two : ∀ L, L < 13 → ∀ k, k < L + 1 → fxx_ k * fxx_ (L - k) ≤ 479001600 := by decide +kernel
theorem mt_f_le {S : Nat → Bool} {L k : Nat} (hL : L ≤ 12) (hk : k ≤ L) : mt_f S L k ≤ 4096 * 479001600 := by
  have hpow : 2 ^ L ≤ 4096 := Nat.pow_le_pow_right (n := 2) (by decide) hL
  have h1 : wz_ S L k (2 ^ L) ≤ 2 ^ L * fxx_ k := fb_sm_bound (fun s hs => by
    split
    · rename_i c
      rw [← c]
      exact wy_le hL (s + 1) s (by omega) hs
    · omega)
  have h2 := fxx_two L (by omega) k (by omega)
  unfold mt_f
  have h3 : wz_ S L k (2 ^ L) * fxx_ (L - k) ≤ 2 ^ L * fxx_ k * fxx_ (L - k) := Nat.mul_le_mul_right _ h1
  have h4 : 2 ^ L * fxx_ k * fxx_ (L - k) ≤ 4096 * 479001600 := by
    rw [Nat.mul_assoc]
    exact Nat.mul_le_mul hpow h2
  omega
theorem mt_u_lt {S : Nat → Bool} {L : Nat} (hL : L ≤ 12) : mt_u S L < 2 ^ 63 := by
  have : mt_u S L ≤ (L + 1) * (4096 * 479001600) := fb_sm_bound (fun k hk => mt_f_le hL (by omega))
  have h2 : (L + 1) * (4096 * 479001600) ≤ 13 * (4096 * 479001600) := Nat.mul_le_mul_right _ (by omega)
  omega
def me_a (S : Nat → Bool) (L : Nat) (b : Int32) : Int64 := if b = 0 then lN (mt_u S L) / lN (Nat.gcd (mt_u S L) (fxx_ L)) else lN (fxx_ L) / lN (Nat.gcd (mt_u S L) (fxx_ L))
theorem gcd_ok {S : Nat → Bool} {L : Nat} (hL : L ≤ 12) : 0 < Nat.gcd (mt_u S L) (fxx_ L) ∧ Nat.gcd (mt_u S L) (fxx_ L) ≤ 479001600 := by
  have h1 := Nat.gcd_pos_of_pos_right (mt_u S L) (fxx_pos L)
  have h2 := Nat.gcd_le_right (mt_u S L) (fxx_pos L)
  have h3 := fxx_le hL
  omega
theorem s_meanOf {l : Launch} {κ : mm_K} {d : Nat} {G : mm_G} {K : Int64 → mm_G → Prop} {P : ps_T} {r : Nat} (b : Int32) (hP : ps_ok P) (hC : cB_ G P) (hL : cL_ G P) (hO : cO_ G P) (hr : r < (ps_p P).length) (h12 : (px_at (ps_p P) r).length ≤ 12)
    (h : ∀ G', cL_ G' P → cO_ G' P → fr_ fO_ G G' → K (me_a (sm_ P r) (px_at (ps_p P) r).length b) G') : mC l κ true (d + 6) 0 0 m_X4_meanOf [.ref 168, .int (nI r), .int b] G (rL K) := by
  have hp := hP.1.1
  refine e_X4_meanOf _ _ (s_reckon hP hC hL hO hr h12 (fun G2 l2 o2 k2 f2 => ⟨(ki_vp (by omega)).2 (by omega), ?_⟩))
  have hC2 := hC.fO hP f2
  rw [nI_clamp (by omega), (hC2.1.2.1 r hr).1]
  have e12 : (if nI 12 < nI (px_at (ps_p P) r).length then nI 12 else nI (px_at (ps_p P) r).length) = nI (px_at (ps_p P) r).length := if_neg (by rw [nI_ltI (by omega) (by omega)]; omega)
  rw [e12]
  have hh := h G2 l2 o2 f2
  -- the end
  have hend : ∀ x, x < 0 → mV l κ true (d + 6) 0 0 m_X4_meanOf 32 [some (.ref 168), some (.int (nI r)), some (.int b), some (.int (nI (px_at (ps_p P) r).length)), some (.long (lN (mt_u (sm_ P r) (px_at (ps_p P) r).length))), none, some (.long (lN (fxx_ (px_at (ps_p P) r).length))), none, some (.int x), none] [] G2 (rL K) := by
    intro x hx
    have hu := mt_u_lt (S := sm_ P r) h12
    have hf := fxx_le h12
    obtain ⟨g1, g2⟩ := gcd_ok (S := sm_ P r) h12
    refine p_X4_meanOf_32 _ _ _ _ _ _ ⟨fun _ => s_common hu (by omega) ?_, fun z => absurd hx z⟩
    have eg : (if lN 1 < lN (Nat.gcd (mt_u (sm_ P r) (px_at (ps_p P) r).length) (fxx_ (px_at (ps_p P) r).length)) then lN (Nat.gcd (mt_u (sm_ P r) (px_at (ps_p P) r).length) (fxx_ (px_at (ps_p P) r).length)) else lN 1) = lN (Nat.gcd (mt_u (sm_ P r) (px_at (ps_p P) r).length) (fxx_ (px_at (ps_p P) r).length)) := by
      split
      · rfl
      · rename_i c
        rw [lN_lt (by omega) (by omega)] at c
        congr 1
        omega
    rw [eg]
    unfold me_a at hh
    refine ⟨fun z => ⟨lN_z' (by omega) (by omega), ?_⟩, fun z => ⟨lN_z' (by omega) (by omega), ?_⟩⟩
    · rw [if_pos z] at hh; exact hh
    · rw [if_neg z] at hh; exact hh
  suffices H : ∀ n j, j + n = (px_at (ps_p P) r).length → mV l κ true (d + 6) 0 0 m_X4_meanOf 32 [some (.ref 168), some (.int (nI r)), some (.int b), some (.int (nI (px_at (ps_p P) r).length)), some (.long (lN (fb_sm (fun i => mt_f (sm_ P r) (px_at (ps_p P) r).length ((px_at (ps_p P) r).length - i)) j))), none, some (.long (lN (fxx_ j))), none, some (.int (nI n)), none] [] G2 (rL K) from
    H (px_at (ps_p P) r).length 0 (Nat.zero_add _)
  intro n
  induction n with
  | zero =>
    intro j hj
    obtain rfl : j = (px_at (ps_p P) r).length := by omega
    refine p_X4_meanOf_32 _ _ _ _ _ _ ⟨fun z => absurd z (by decide), fun _ => ⟨(ki_vp (by omega)).2 (by omega), fun _ => ?_, fun z => absurd (by decide) z⟩⟩
    rw [nI_clamp (by omega), k2 0 (by omega), lN_mul, lN_add]
    have e : fb_sm (fun i => mt_f (sm_ P r) (px_at (ps_p P) r).length ((px_at (ps_p P) r).length - i)) (px_at (ps_p P) r).length + wz_ (sm_ P r) (px_at (ps_p P) r).length 0 (2 ^ (px_at (ps_p P) r).length) * fxx_ (px_at (ps_p P) r).length = mt_u (sm_ P r) (px_at (ps_p P) r).length := by
      unfold mt_u
      rw [← fb_sm_rev, fb_sm_succ]
      congr 1
      show _ = mt_f _ _ ((px_at (ps_p P) r).length - (px_at (ps_p P) r).length)
      rw [Nat.sub_self]
      rfl
    rw [e]
    exact hend _ (by decide)
  | succ n ih =>
    intro j hj
    refine p_X4_meanOf_32 _ _ _ _ _ _ ⟨fun z => ?_, fun _ => ⟨(ki_vp (by omega)).2 (by omega), fun z => ?_, fun z => ?_⟩⟩
    · rw [ki_0, nI_ltI (by omega) (by omega)] at z; omega
    · rw [ki_0, nI_leI (by omega) (by omega)] at z; omega
    · rw [nI_clamp (by omega), k2 (n + 1) (by omega), lN_mul, lN_add, ki_sub (by omega), nI_add, lN_wide (by omega), lN_mul, ki_m1add (by omega)]
      have e : fb_sm (fun i => mt_f (sm_ P r) (px_at (ps_p P) r).length ((px_at (ps_p P) r).length - i)) j + wz_ (sm_ P r) (px_at (ps_p P) r).length (n + 1) (2 ^ (px_at (ps_p P) r).length) * fxx_ j = fb_sm (fun i => mt_f (sm_ P r) (px_at (ps_p P) r).length ((px_at (ps_p P) r).length - i)) (j + 1) := by
        rw [fb_sm_succ]
        congr 1
        unfold mt_f
        rw [show (px_at (ps_p P) r).length - j = n + 1 by omega, show (px_at (ps_p P) r).length - (n + 1) = j by omega]
      have e2 : fxx_ j * ((px_at (ps_p P) r).length - (n + 1) + 1) = fxx_ (j + 1) := by
        rw [show (px_at (ps_p P) r).length - (n + 1) + 1 = j + 1 by omega, Nat.mul_comm]
        rfl
      rw [e, e2]
      exact ih (j + 1) (by omega)
