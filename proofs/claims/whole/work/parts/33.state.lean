/-! the state of a MiceEngine: rows, trials, fuel, what is seen, slots, the tape, the place of a fault -/
abbrev px_T : Type := List (List ln_T)
abbrev tx_T : Type := List (List Int32 × Option (List Int32))
abbrev sx_T : Type := Nat × List (Nat × Nat)
abbrev ps_T : Type := px_T × tx_T × Nat × sx_T × (Nat → Option (px_T × sx_T)) × List Nat × Int32
def ps_p (P : ps_T) : px_T := P.1
def ps_t (P : ps_T) : tx_T := P.2.1
def ps_f (P : ps_T) : Nat := P.2.2.1
def ps_n (P : ps_T) : sx_T := P.2.2.2.1
def ps_s (P : ps_T) : Nat → Option (px_T × sx_T) := P.2.2.2.2.1
def ps_b (P : ps_T) : List Nat := P.2.2.2.2.2.1
def ps_c (P : ps_T) : Int32 := P.2.2.2.2.2.2
def px_at (p : px_T) (r : Nat) : List ln_T := p.getD r []
def tx_in (t : tx_T) (k : Nat) : List Int32 := (t.getD k ([], none)).1
def tx_gv (t : tx_T) (k : Nat) : Option (List Int32) := (t.getD k ([], none)).2
def sx_at (s : sx_T) (k : Nat) : Nat × Nat := s.2.getD k (0, 0)
def pg_ok (p : px_T) : Prop := p.length ≤ 4 ∧ (∀ j, j < p.length → ∀ x ∈ px_at p j, ln_ok j x ∧ ∃ k, 1 ≤ k ∧ k < 1000 ∧ ln_tk x = nI k) ∧ ∀ j, (px_at p j).length ≤ 16
def tx_ok (t : tx_T) : Prop := t.length ≤ 8 ∧ ∀ k, (tx_in t k).length ≤ 6 ∧ ∀ g, tx_gv t k = some g → g.length ≤ 8
def sx_ok (p : px_T) (nt : Nat) (s : sx_T) : Prop := s.2.length ≤ 20 ∧ (s.2.length ≠ 0 → s.1 < p.length) ∧ ∀ k, k < s.2.length → (sx_at s k).1 < nt ∧ (sx_at s k).2 < 2 ^ (px_at p s.1).length
def ps_ok (P : ps_T) : Prop := pg_ok (ps_p P) ∧ tx_ok (ps_t P) ∧ ps_f P ≤ 300 ∧ sx_ok (ps_p P) (ps_t P).length (ps_n P) ∧ (∀ i p s, ps_s P i = some (p, s) → pg_ok p ∧ sx_ok p (ps_t P).length s) ∧ (ps_b P).length ≤ 2000 ∧ ∀ j, j < (ps_b P).length → (ps_b P).getD j 0 < 256
/-! a run of a row -/
def en_of (p : px_T) (t : tx_T) (ls : List ln_T) (lo k : Nat) (am : Option (List Int32)) : en_T := (ls, p, tx_in t k, lo, am)
def rr_ (p : px_T) (t : tx_T) (fu r lo k : Nat) : rs_T × Nat := ru_run (en_of p t (px_at p r) lo k none) r fu
def od_ (p : px_T) (t : tx_T) (fu r lo k : Nat) : Nat × List Int32 := ((rr_ p t fu r lo k).2, rs_o (rr_ p t fu r lo k).1)
theorem px_len_lt {n : Nat} (h : n ≤ 16) : 2 ^ n ≤ 65536 := Nat.pow_le_pow_right (by decide) h (n := 2)
theorem en_of_ok {p : px_T} {t : tx_T} {ls : List ln_T} {r lo k : Nat} {am : Option (List Int32)} (hp : pg_ok p) (ht : tx_ok t) (hr : r < p.length) (hl : ls.length ≤ 16) (hx : ∀ x ∈ ls, ln_ok r x) (hlo : lo < 65536) : en_ok (en_of p t ls lo k am) r :=
  ⟨hx, hl, hp.1, fun j hj x hx => (hp.2.1 j hj x hx).1, hp.2.2, hr, hlo, (ht.2 k).1⟩
/-! an index -/
def ix_ (n : Nat) (a : Int32) : Option Nat := if 0 ≤ a.toInt ∧ a.toInt < n then some a.toInt.toNat else none
theorem ix_some {n j : Nat} {a : Int32} (hn : n < 2 ^ 31) (h : ix_ n a = some j) : j < n ∧ a = nI j := by
  unfold ix_ at h
  split at h
  · rename_i q
    have e := Option.some.inj h
    refine ⟨by omega, mm_eqI (by omega) (by omega)⟩
  · cases h
theorem ix_none {n : Nat} {a : Int32} (hn : n < 2 ^ 31) (h : ix_ n a = none) : a < 0 ∨ (¬ a < 0 ∧ nI n ≤ a) := by
  unfold ix_ at h
  split at h
  · cases h
  · rename_i q
    rw [fa_lt, fa_le, nI_toInt hn]
    have e0 : (0 : Int32).toInt = 0 := by decide
    omega
theorem ix_of {n j : Nat} (hn : n < 2 ^ 31) (h : j < n) : ix_ n (nI j) = some j := by
  unfold ix_
  rw [nI_toInt (by omega), if_pos (by omega)]
  simp
/-! the component's cells -/
def cR_ (G : mm_G) (x : Nat) (p : px_T) (s : sx_T) : Prop := mg_i G x 1 = nI p.length ∧ (∀ j, j < p.length → ro_ G (x + 4 + 2 * j) (px_at p j)) ∧ mg_i G x 4 = nI s.2.length ∧ (s.2.length ≠ 0 → mg_i G x 5 = nI s.1) ∧ ∀ k, k < s.2.length → mg_i G (x + 2) k = nI (sx_at s k).1 ∧ mg_i G (x + 3) k = nI (sx_at s k).2
def cT_ (G : mm_G) (y : Nat) (t : tx_T) (fu : Nat) : Prop := mg_i G y 4 = nI t.length ∧ mg_i G y 5 = nI fu ∧ ∀ k, k < t.length → mg_i G (y + 10) k = nI (tx_in t k).length ∧ (∀ j, j < (tx_in t k).length → mg_i G (y + 2 + k) j = (tx_in t k).getD j (nI 0)) ∧ (tx_gv t k = none → mg_i G (y + 12) k = nI 0) ∧ ∀ g, tx_gv t k = some g → mg_i G (y + 12) k = nI 1 ∧ cd_ G (y + 13 + 2 * k) g ∧ mg_i G (y + 13 + 2 * k) 2 = nI 0
def cN_ (G : mm_G) : Prop := ∀ j, j < 4 → mg_i G (12 + 2 * j) 2 = nI j ∧ mg_i G (54 + 2 * j) 2 = nI j ∧ ∀ i, i < 3 → mg_i G (193 + 12 * i + 2 * j) 2 = nI j
def wd_ : List Nat := [14006, 841, 14420, 10056, 3181, 11522, 204, 249, 60114, 4027, 382255, 298, 299, 300, 301, 257, 13550, 10989714, 3913426, 133554]
def cV_ (G : mm_G) (P : ps_T) : Prop := ∀ i, i < 3 → (ps_s P i = none → mg_i G 225 i = nI 0) ∧ ∀ p s, ps_s P i = some (p, s) → mg_i G 225 i = nI 1 ∧ cR_ G (189 + 12 * i) p s
def cW_ (G : mm_G) (b : List Nat) : Prop := mg_i G 1 4 = nI b.length ∧ ∀ j, j < b.length → mg_i G 2 j = nI (b.getD j 0)
def cB_ (G : mm_G) (P : ps_T) : Prop := cR_ G 50 (ps_p P) (ps_n P) ∧ cT_ G 62 (ps_t P) (ps_f P) ∧ cN_ G ∧ cV_ G P ∧ cW_ G (ps_b P) ∧ mg_i G 0 11 = ps_c P ∧ ∀ w, w < 20 → mg_l G 6 w = lN (wd_.getD w 0)
/-! the reference's cells -/
def mA_ (G : mm_G) (a : Nat) (p : px_T) : Prop := mg_i G 234 a = nI p.length ∧ ∀ j, j < p.length → mg_i G 236 (4 * a + j) = nI (px_at p j).length ∧ ∀ i, i < (px_at p j).length → rd_m G (64 * a + 16 * j + i) = ln_at (px_at p j) i
def mT_ (G : mm_G) (a : Nat) (t : tx_T) (fu : Nat) : Prop := mg_i G 249 a = nI t.length ∧ mg_i G 254 a = nI fu ∧ ∀ k, k < t.length → mg_i G 250 (8 * a + k) = nI (tx_in t k).length ∧ (∀ j, j < (tx_in t k).length → mg_i G 251 (6 * (8 * a + k) + j) = (tx_in t k).getD j (nI 0)) ∧ (tx_gv t k = none → mg_i G 252 (8 * a + k) = -1) ∧ ∀ g, tx_gv t k = some g → mg_i G 252 (8 * a + k) = nI g.length ∧ ∀ j, j < g.length → mg_i G 253 (8 * (8 * a + k) + j) = g.getD j (nI 0)
def mD_ (G : mm_G) (c1 c2 c3 n : Nat) (o : Nat × List Int32) : Prop := mg_i G c1 n = nI o.1 ∧ mg_i G c2 n = nI o.2.length ∧ ∀ j, j < o.2.length → mg_i G c3 (8 * n + j) = o.2.getD j (nI 0)
def mS_ (G : mm_G) (P : ps_T) : Prop := mg_i G 226 65 = nI (ps_n P).2.length ∧ ((ps_n P).2.length ≠ 0 → mg_i G 226 66 = nI (ps_n P).1) ∧ ∀ k, k < (ps_n P).2.length → mg_i G 268 k = nI (sx_at (ps_n P) k).1 ∧ mD_ G 269 270 271 k (od_ (ps_p P) (ps_t P) (ps_f P) (ps_n P).1 (sx_at (ps_n P) k).2 (sx_at (ps_n P) k).1)
def mV_ (G : mm_G) (P : ps_T) : Prop := ∀ i, i < 3 → (ps_s P i = none → mg_i G 278 i = nI 0) ∧ ∀ p s, ps_s P i = some (p, s) → mg_i G 278 i = nI 1 ∧ mA_ G (2 + i) p ∧ mg_i G 279 i = nI s.2.length ∧ (s.2.length ≠ 0 → mg_i G 280 i = nI s.1) ∧ ∀ k, k < s.2.length → mg_i G 281 (20 * i + k) = nI (sx_at s k).1 ∧ mD_ G 282 283 284 (20 * i + k) (od_ p (ps_t P) (ps_f P) s.1 (sx_at s k).2 (sx_at s k).1)
def mW_ (G : mm_G) (b : List Nat) : Prop := mg_i G 226 2 = nI b.length ∧ ∀ j, j < b.length → mg_i G 227 j = (nI (b.getD j 0)).toInt8.toInt32
def ky_ : List Nat := [13550, 10989714, 3913426, 133554, 14006, 841, 14420, 10056, 3181, 11522, 204, 249, 60114, 4027, 382255, 298, 299, 300, 301, 257]
def mB_ (G : mm_G) (P : ps_T) (a : Nat) : Prop := a < 2 ∧ mg_i G 226 18 = nI a ∧ mA_ G a (ps_p P) ∧ mT_ G a (ps_t P) (ps_f P) ∧ mS_ G P ∧ mV_ G P ∧ mW_ G (ps_b P) ∧ mg_i G 226 17 = ps_c P ∧ ∀ k, k < 20 → mg_l G 233 k = lN (ky_.getD k 0)
/-! frames -/
def eq_on (S : Nat → Nat → Bool) (G G' : mm_G) : Prop := ∀ c k, S c k = true → mg_i G' c k = mg_i G c k ∧ mg_l G' c k = mg_l G c k ∧ mg_r G' c k = mg_r G c k
theorem fr_.on {S T : Nat → Nat → Bool} {G G' : mm_G} (h : fr_ S G G') (hd : ∀ c k, T c k = true → S c k = false) : eq_on T G G' := fun c k hc => h.2 c k (hd c k hc)
theorem eq_on.i {S : Nat → Nat → Bool} {G G1 : mm_G} (h : eq_on S G G1) (c k : Nat) (hs : S c k = true) : mg_i G1 c k = mg_i G c k := (h c k hs).1
theorem eq_on.l {S : Nat → Nat → Bool} {G G1 : mm_G} (h : eq_on S G G1) (c k : Nat) (hs : S c k = true) : mg_l G1 c k = mg_l G c k := (h c k hs).2.1
theorem eq_on.r {S : Nat → Nat → Bool} {G G1 : mm_G} (h : eq_on S G G1) (c k : Nat) (hs : S c k = true) : mg_r G1 c k = mg_r G c k := (h c k hs).2.2
theorem eq_on.trans {S : Nat → Nat → Bool} {G G1 G2 : mm_G} (h : eq_on S G G1) (h2 : eq_on S G1 G2) : eq_on S G G2 := fun c k hc => by
  obtain ⟨a1, a2, a3⟩ := h c k hc
  obtain ⟨b1, b2, b3⟩ := h2 c k hc
  exact ⟨b1.trans a1, b2.trans a2, b3.trans a3⟩
theorem eq_on.sub {S T : Nat → Nat → Bool} {G G' : mm_G} (h : eq_on S G G') (hd : ∀ c k, T c k = true → S c k = true) : eq_on T G G' := fun c k hc => h c k (hd c k hc)
