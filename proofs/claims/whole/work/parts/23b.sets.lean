/-! sets of lines as numbers -/
def pe_ (n : Nat) : Nat := n % 2 + n / 2 % 2 + n / 4 % 2 + n / 8 % 2 + n / 16 % 2 + n / 32 % 2 + n / 64 % 2 + n / 128 % 2 + n / 256 % 2 + n / 512 % 2 + n / 1024 % 2 + n / 2048 % 2 + n / 4096 % 2 + n / 8192 % 2 + n / 16384 % 2 + n / 32768 % 2
def bn_5 (f : Nat) : Nat := (f + (f >>> 16)) &&& 63
def bn_4 (e : Nat) : Nat := bn_5 (e + (e >>> 8))
def bn_3 (c : Nat) : Nat := bn_4 ((c + (c >>> 4)) &&& 252645135)
def bn_2 (b : Nat) : Nat := bn_3 ((b &&& 858993459) + ((b >>> 2) &&& 858993459))
def bn_ (a : Nat) : Nat := bn_2 (a - ((a >>> 1) &&& 1431655765))
noncomputable def bn_a (m : Nat) : Nat → Bool := fun n => Nat.rec true (fun k ih => Nat.beq (bn_ (m + k)) (pe_ (m + k)) && ih) n
theorem bn_k0 : bn_a 0 4096 = true := by decide +kernel
theorem bn_k1 : bn_a 4096 4096 = true := by decide +kernel
theorem bn_k2 : bn_a 8192 4096 = true := by decide +kernel
theorem bn_k3 : bn_a 12288 4096 = true := by decide +kernel
theorem bn_k4 : bn_a 16384 4096 = true := by decide +kernel
theorem bn_k5 : bn_a 20480 4096 = true := by decide +kernel
theorem bn_k6 : bn_a 24576 4096 = true := by decide +kernel
theorem bn_k7 : bn_a 28672 4096 = true := by decide +kernel
theorem bn_k8 : bn_a 32768 4096 = true := by decide +kernel
theorem bn_k9 : bn_a 36864 4096 = true := by decide +kernel
theorem bn_k10 : bn_a 40960 4096 = true := by decide +kernel
theorem bn_k11 : bn_a 45056 4096 = true := by decide +kernel
theorem bn_k12 : bn_a 49152 4096 = true := by decide +kernel
theorem bn_k13 : bn_a 53248 4096 = true := by decide +kernel
theorem bn_k14 : bn_a 57344 4096 = true := by decide +kernel
theorem bn_k15 : bn_a 61440 4096 = true := by decide +kernel
theorem bn_aT {m : Nat} : ∀ n, bn_a m n = true → ∀ k, k < n → bn_ (m + k) = pe_ (m + k)
  | 0, _, k, hk => absurd hk (Nat.not_lt_zero k)
  | n + 1, h, k, hk => by
    have h : (Nat.beq (bn_ (m + n)) (pe_ (m + n)) && bn_a m n) = true := h
    rw [Bool.and_eq_true] at h
    rcases Nat.lt_succ_iff_lt_or_eq.mp hk with c | c
    · exact bn_aT n h.2 k c
    · subst c; exact Nat.eq_of_beq_eq_true h.1
theorem bn_pe {a : Nat} (h : a < 65536) : bn_ a = pe_ a := by
  by_cases c0 : a < 4096
  · have := bn_aT 4096 bn_k0 (a - 0) (by omega)
    rw [show 0 + (a - 0) = a by omega] at this
    exact this
  by_cases c1 : a < 8192
  · have := bn_aT 4096 bn_k1 (a - 4096) (by omega)
    rw [show 4096 + (a - 4096) = a by omega] at this
    exact this
  by_cases c2 : a < 12288
  · have := bn_aT 4096 bn_k2 (a - 8192) (by omega)
    rw [show 8192 + (a - 8192) = a by omega] at this
    exact this
  by_cases c3 : a < 16384
  · have := bn_aT 4096 bn_k3 (a - 12288) (by omega)
    rw [show 12288 + (a - 12288) = a by omega] at this
    exact this
  by_cases c4 : a < 20480
  · have := bn_aT 4096 bn_k4 (a - 16384) (by omega)
    rw [show 16384 + (a - 16384) = a by omega] at this
    exact this
  by_cases c5 : a < 24576
  · have := bn_aT 4096 bn_k5 (a - 20480) (by omega)
    rw [show 20480 + (a - 20480) = a by omega] at this
    exact this
  by_cases c6 : a < 28672
  · have := bn_aT 4096 bn_k6 (a - 24576) (by omega)
    rw [show 24576 + (a - 24576) = a by omega] at this
    exact this
  by_cases c7 : a < 32768
  · have := bn_aT 4096 bn_k7 (a - 28672) (by omega)
    rw [show 28672 + (a - 28672) = a by omega] at this
    exact this
  by_cases c8 : a < 36864
  · have := bn_aT 4096 bn_k8 (a - 32768) (by omega)
    rw [show 32768 + (a - 32768) = a by omega] at this
    exact this
  by_cases c9 : a < 40960
  · have := bn_aT 4096 bn_k9 (a - 36864) (by omega)
    rw [show 36864 + (a - 36864) = a by omega] at this
    exact this
  by_cases c10 : a < 45056
  · have := bn_aT 4096 bn_k10 (a - 40960) (by omega)
    rw [show 40960 + (a - 40960) = a by omega] at this
    exact this
  by_cases c11 : a < 49152
  · have := bn_aT 4096 bn_k11 (a - 45056) (by omega)
    rw [show 45056 + (a - 45056) = a by omega] at this
    exact this
  by_cases c12 : a < 53248
  · have := bn_aT 4096 bn_k12 (a - 49152) (by omega)
    rw [show 49152 + (a - 49152) = a by omega] at this
    exact this
  by_cases c13 : a < 57344
  · have := bn_aT 4096 bn_k13 (a - 53248) (by omega)
    rw [show 53248 + (a - 53248) = a by omega] at this
    exact this
  by_cases c14 : a < 61440
  · have := bn_aT 4096 bn_k14 (a - 57344) (by omega)
    rw [show 57344 + (a - 57344) = a by omega] at this
    exact this
  by_cases c15 : a < 65536
  · have := bn_aT 4096 bn_k15 (a - 61440) (by omega)
    rw [show 61440 + (a - 61440) = a by omega] at this
    exact this
  exact absurd h (by omega)
