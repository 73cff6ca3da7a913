/-! frames of the state -/
def rgB (c _k : Nat) : Bool := decide (c < 91) || (decide (188 ≤ c) && decide (c < 226)) || decide (285 ≤ c)
theorem rgB_T {c k : Nat} (h : c < 91 ∨ (188 ≤ c ∧ c < 226) ∨ 285 ≤ c) : rgB c k = true := by
  unfold rgB
  simp only [Bool.or_eq_true, Bool.and_eq_true, decide_eq_true_eq]
  omega
theorem rgB_iff {c k : Nat} : rgB c k = true ↔ (c < 91 ∨ (188 ≤ c ∧ c < 226) ∨ 285 ≤ c) := by
  unfold rgB
  simp only [Bool.or_eq_true, Bool.and_eq_true, decide_eq_true_eq]
  omega
theorem ro_.on {S : Nat → Nat → Bool} {G G1 : mm_G} {c : Nat} {ls : List ln_T} (h : ro_ G c ls) (hf : eq_on S G G1) (hn : mg_n G ≤ mg_n G1) (h1 : S c 1 = true) (h2 : ∀ k, S (c + 1) k = true) (h3 : ∀ t k, 285 ≤ t → S t k = true) : ro_ G1 c ls := by
  obtain ⟨a1, a2, a3⟩ := h
  refine ⟨by rw [hf.i c 1 h1]; exact a1, a2, fun i hi => ?_⟩
  obtain ⟨t, b1, b2, b3, b4⟩ := a3 i hi
  refine ⟨t, by rw [hf.r _ _ (h2 i)]; exact b1, b2, by omega, ?_⟩
  rw [← b4]
  unfold rd_c
  simp only [hf.i t _ (h3 t _ b2), hf.l t _ (h3 t _ b2)]
theorem cd_.on {S : Nat → Nat → Bool} {G G1 : mm_G} {x : Nat} {a : List Int32} (h : cd_ G x a) (hf : eq_on S G G1) (h1 : S x 1 = true) (h2 : ∀ k, S (x + 1) k = true) : cd_ G1 x a := by
  obtain ⟨a1, a2, a3⟩ := h
  exact ⟨by rw [hf.i _ _ h1]; exact a1, a2, fun j hj => by rw [hf.i _ _ (h2 j)]; exact a3 j hj⟩
theorem cR_.on {S : Nat → Nat → Bool} {G G1 : mm_G} {x : Nat} {p : px_T} {s : sx_T} (h : cR_ G x p s) (hp : p.length ≤ 4) (hf : eq_on S G G1) (hn : mg_n G ≤ mg_n G1) (h1 : ∀ c k, x ≤ c → c < x + 12 → S c k = true) (h3 : ∀ t k, 285 ≤ t → S t k = true) : cR_ G1 x p s := by
  obtain ⟨a1, a2, a3, a4, a5⟩ := h
  refine ⟨?_, fun j hj => (a2 j hj).on hf hn (h1 _ _ (by omega) (by omega)) (fun k => h1 _ _ (by omega) (by omega)) h3, ?_, fun q => ?_, fun k hk => ⟨?_, ?_⟩⟩
  · rw [hf.i _ _ (h1 _ _ (by omega) (by omega))]; exact a1
  · rw [hf.i _ _ (h1 _ _ (by omega) (by omega))]; exact a3
  · rw [hf.i _ _ (h1 _ _ (by omega) (by omega))]; exact a4 q
  · rw [hf.i _ _ (h1 _ _ (by omega) (by omega))]; exact (a5 k hk).1
  · rw [hf.i _ _ (h1 _ _ (by omega) (by omega))]; exact (a5 k hk).2
theorem cT_.on {S : Nat → Nat → Bool} {G G1 : mm_G} {y : Nat} {t : tx_T} {fu : Nat} (h : cT_ G y t fu) (ht : t.length ≤ 8) (hf : eq_on S G G1) (h1 : ∀ c k, y ≤ c → c < y + 29 → S c k = true) : cT_ G1 y t fu := by
  obtain ⟨a1, a2, a3⟩ := h
  refine ⟨?_, ?_, fun k hk => ?_⟩
  · rw [hf.i _ _ (h1 _ _ (by omega) (by omega))]; exact a1
  · rw [hf.i _ _ (h1 _ _ (by omega) (by omega))]; exact a2
  · obtain ⟨b1, b2, b3, b4⟩ := a3 k hk
    refine ⟨?_, fun j hj => ?_, fun q => ?_, fun g q => ?_⟩
    · rw [hf.i _ _ (h1 _ _ (by omega) (by omega))]; exact b1
    · rw [hf.i _ _ (h1 _ _ (by omega) (by omega))]; exact b2 j hj
    · rw [hf.i _ _ (h1 _ _ (by omega) (by omega))]; exact b3 q
    · obtain ⟨c1, c2, c3⟩ := b4 g q
      refine ⟨?_, c2.on hf (h1 _ _ (by omega) (by omega)) (fun k2 => h1 _ _ (by omega) (by omega)), ?_⟩
      · rw [hf.i _ _ (h1 _ _ (by omega) (by omega))]; exact c1
      · rw [hf.i _ _ (h1 _ _ (by omega) (by omega))]; exact c3
theorem cB_.on {G G1 : mm_G} {P : ps_T} (h : cB_ G P) (hP : ps_ok P) (hf : eq_on rgB G G1) (hn : mg_n G ≤ mg_n G1) : cB_ G1 P := by
  obtain ⟨a1, a2, a3, a4, a5, a6, a7⟩ := h
  have hhi : ∀ t k, 285 ≤ t → rgB t k = true := fun t k q => rgB_T (by omega)
  refine ⟨a1.on hP.1.1 hf hn (fun c k q1 q2 => rgB_T (by omega)) hhi, a2.on hP.2.1.1 hf (fun c k q1 q2 => rgB_T (by omega)), fun j hj => ?_, fun i hi => ?_, ⟨?_, fun j hj => ?_⟩, ?_, fun w hw => ?_⟩
  · obtain ⟨b1, b2, b3⟩ := a3 j hj
    refine ⟨?_, ?_, fun i hi => ?_⟩
    · rw [hf.i _ _ (rgB_T (by omega))]; exact b1
    · rw [hf.i _ _ (rgB_T (by omega))]; exact b2
    · rw [hf.i _ _ (rgB_T (by omega))]; exact b3 i hi
  · obtain ⟨b1, b2⟩ := a4 i hi
    refine ⟨fun q => ?_, fun p s q => ?_⟩
    · rw [hf.i _ _ (rgB_T (by omega))]; exact b1 q
    · obtain ⟨c1, c2⟩ := b2 p s q
      refine ⟨?_, c2.on (hP.2.2.2.2.1 i p s q).1.1 hf hn (fun c k q1 q2 => rgB_T (by omega)) hhi⟩
      rw [hf.i _ _ (rgB_T (by omega))]; exact c1
  · rw [hf.i _ _ (rgB_T (by omega))]; exact a5.1
  · rw [hf.i _ _ (rgB_T (by omega))]; exact a5.2 j hj
  · rw [hf.i _ _ (rgB_T (by omega))]; exact a6
  · rw [hf.l _ _ (rgB_T (by omega))]; exact a7 w hw
def rgQ (c k : Nat) : Bool := (decide (c = 226) && (decide (k = 2) || decide (k = 17) || decide (k = 18) || decide (k = 65) || decide (k = 66))) || decide (c = 227) || (decide (233 ≤ c) && decide (c < 255)) || (decide (268 ≤ c) && decide (c < 272)) || (decide (278 ≤ c) && decide (c < 285))
theorem rgQ_iff {c k : Nat} : rgQ c k = true ↔ ((c = 226 ∧ (k = 2 ∨ k = 17 ∨ k = 18 ∨ k = 65 ∨ k = 66)) ∨ c = 227 ∨ (233 ≤ c ∧ c < 255) ∨ (268 ≤ c ∧ c < 272) ∨ (278 ≤ c ∧ c < 285)) := by
  unfold rgQ
  simp only [Bool.or_eq_true, Bool.and_eq_true, decide_eq_true_eq]
  omega
theorem rgQ_T {c k : Nat} (h : (c = 226 ∧ (k = 2 ∨ k = 17 ∨ k = 18 ∨ k = 65 ∨ k = 66)) ∨ c = 227 ∨ (233 ≤ c ∧ c < 255) ∨ (268 ≤ c ∧ c < 272) ∨ (278 ≤ c ∧ c < 285)) : rgQ c k = true := rgQ_iff.2 h
theorem rd_m.on {S : Nat → Nat → Bool} {G G1 : mm_G} {p : Nat} (h : eq_on S G G1) (hs : ∀ c k, 237 ≤ c → c ≤ 247 → S c k = true) : rd_m G1 p = rd_m G p := by
  unfold rd_m
  rw [h.i 237 p (hs _ _ (by omega) (by omega)), h.i 238 p (hs _ _ (by omega) (by omega)), h.i 239 p (hs _ _ (by omega) (by omega)), h.i 240 p (hs _ _ (by omega) (by omega)), h.i 241 p (hs _ _ (by omega) (by omega)), h.i 242 p (hs _ _ (by omega) (by omega)), h.i 243 p (hs _ _ (by omega) (by omega)), h.i 244 p (hs _ _ (by omega) (by omega)), h.i 245 p (hs _ _ (by omega) (by omega)), h.l 246 p (hs _ _ (by omega) (by omega)), h.l 247 p (hs _ _ (by omega) (by omega))]
theorem mA_.on {S : Nat → Nat → Bool} {G G1 : mm_G} {a : Nat} {p : px_T} (h : mA_ G a p) (hf : eq_on S G G1) (hs : ∀ c k, 234 ≤ c → c ≤ 247 → S c k = true) : mA_ G1 a p := by
  obtain ⟨a1, a2⟩ := h
  refine ⟨?_, fun j hj => ⟨?_, fun i hi => ?_⟩⟩
  · rw [hf.i _ _ (hs _ _ (by omega) (by omega))]; exact a1
  · rw [hf.i _ _ (hs _ _ (by omega) (by omega))]; exact (a2 j hj).1
  · rw [rd_m.on hf (fun c k q1 q2 => hs _ _ (by omega) (by omega))]; exact (a2 j hj).2 i hi
theorem mD_.on {S : Nat → Nat → Bool} {G G1 : mm_G} {c1 c2 c3 n : Nat} {o : Nat × List Int32} (h : mD_ G c1 c2 c3 n o) (hf : eq_on S G G1) (h1 : ∀ k, S c1 k = true) (h2 : ∀ k, S c2 k = true) (h3 : ∀ k, S c3 k = true) : mD_ G1 c1 c2 c3 n o := by
  obtain ⟨a1, a2, a3⟩ := h
  exact ⟨by rw [hf.i _ _ (h1 _)]; exact a1, by rw [hf.i _ _ (h2 _)]; exact a2, fun j hj => by rw [hf.i _ _ (h3 _)]; exact a3 j hj⟩
theorem mT_.on {S : Nat → Nat → Bool} {G G1 : mm_G} {a fu : Nat} {t : tx_T} (h : mT_ G a t fu) (hf : eq_on S G G1) (hs : ∀ c k, 249 ≤ c → c ≤ 254 → S c k = true) : mT_ G1 a t fu := by
  obtain ⟨a1, a2, a3⟩ := h
  refine ⟨?_, ?_, fun k hk => ?_⟩
  · rw [hf.i _ _ (hs _ _ (by omega) (by omega))]; exact a1
  · rw [hf.i _ _ (hs _ _ (by omega) (by omega))]; exact a2
  · obtain ⟨b1, b2, b3, b4⟩ := a3 k hk
    refine ⟨?_, fun j hj => ?_, fun q => ?_, fun g q => ⟨?_, fun j hj => ?_⟩⟩
    · rw [hf.i _ _ (hs _ _ (by omega) (by omega))]; exact b1
    · rw [hf.i _ _ (hs _ _ (by omega) (by omega))]; exact b2 j hj
    · rw [hf.i _ _ (hs _ _ (by omega) (by omega))]; exact b3 q
    · rw [hf.i _ _ (hs _ _ (by omega) (by omega))]; exact (b4 g q).1
    · rw [hf.i _ _ (hs _ _ (by omega) (by omega))]; exact (b4 g q).2 j hj
theorem mB_.on {G G1 : mm_G} {P : ps_T} {a : Nat} (h : mB_ G P a) (hf : eq_on rgQ G G1) : mB_ G1 P a := by
  obtain ⟨a1, a2, a3, a4, a5, a6, a7, a8, a9⟩ := h
  refine ⟨a1, ?_, a3.on hf (fun c k q1 q2 => rgQ_T (by omega)), a4.on hf (fun c k q1 q2 => rgQ_T (by omega)), ⟨?_, fun q => ?_, fun k hk => ⟨?_, (a5.2.2 k hk).2.on hf (fun k => rgQ_T (by omega)) (fun k => rgQ_T (by omega)) (fun k => rgQ_T (by omega))⟩⟩, fun i hi => ⟨fun q => ?_, fun p s q => ?_⟩, ⟨?_, fun j hj => ?_⟩, ?_, fun k hk => ?_⟩
  · rw [hf.i _ _ rfl]; exact a2
  · rw [hf.i _ _ rfl]; exact a5.1
  · rw [hf.i _ _ rfl]; exact a5.2.1 q
  · rw [hf.i _ _ (rgQ_T (by omega))]; exact (a5.2.2 k hk).1
  · rw [hf.i _ _ (rgQ_T (by omega))]; exact (a6 i hi).1 q
  · obtain ⟨c1, c2, c3, c4, c5⟩ := (a6 i hi).2 p s q
    refine ⟨?_, c2.on hf (fun c k q1 q2 => rgQ_T (by omega)), ?_, fun q2 => ?_, fun k hk => ⟨?_, (c5 k hk).2.on hf (fun k => rgQ_T (by omega)) (fun k => rgQ_T (by omega)) (fun k => rgQ_T (by omega))⟩⟩
    · rw [hf.i _ _ (rgQ_T (by omega))]; exact c1
    · rw [hf.i _ _ (rgQ_T (by omega))]; exact c3
    · rw [hf.i _ _ (rgQ_T (by omega))]; exact c4 q2
    · rw [hf.i _ _ (rgQ_T (by omega))]; exact (c5 k hk).1
  · rw [hf.i _ _ rfl]; exact a7.1
  · rw [hf.i _ _ (rgQ_T (by omega))]; exact a7.2 j hj
  · rw [hf.i _ _ rfl]; exact a8
  · rw [hf.l _ _ (rgQ_T (by omega))]; exact a9 k hk
/-! what is asked first -/
theorem s_hasRow {l : Launch} {κ : mm_K} {d : Nat} {G : mm_G} {K : Int32 → mm_G → Prop} {n : Nat} (a : Int32) (hg : mg_i G 50 1 = nI n) (hn : n ≤ 4) (h0 : ix_ n a = none → K (nI 0) G) (h1 : ∀ r, ix_ n a = some r → r < n → a = nI r → K (nI 1) G) : mC l κ true d 0 0 m_X12_hasRow [.ref 0, .int a] G (rI K) := by
  refine e_X12_hasRow a ?_
  rw [hg]
  cases e : ix_ n a with
  | none =>
    have h0 := h0 e
    exact ⟨fun _ => h0, fun q => ⟨fun _ => h0, fun q2 => (ix_none (by omega) e).elim (fun z => absurd z q) (fun z => absurd z.2 q2)⟩⟩
  | some r =>
    obtain ⟨z1, z2⟩ := ix_some (by omega) e
    have hh := h1 r e z1 z2
    subst z2
    exact ⟨fun q => absurd q (nI_pos (by omega)), fun _ => ⟨fun q => absurd q (nI_ge (by omega) (by omega)), fun _ => hh⟩⟩
theorem s_hasTrial {l : Launch} {κ : mm_K} {d : Nat} {G : mm_G} {K : Int32 → mm_G → Prop} {n : Nat} (a : Int32) (hg : mg_i G 62 4 = nI n) (hn : n ≤ 8) (h0 : ix_ n a = none → K (nI 0) G) (h1 : ∀ r, ix_ n a = some r → r < n → a = nI r → K (nI 1) G) : mC l κ true d 0 0 m_X12_hasTrial [.ref 0, .int a] G (rI K) := by
  refine e_X12_hasTrial a ?_
  rw [hg]
  cases e : ix_ n a with
  | none =>
    have h0 := h0 e
    exact ⟨fun _ => h0, fun q => ⟨fun _ => h0, fun q2 => (ix_none (by omega) e).elim (fun z => absurd z q) (fun z => absurd z.2 q2)⟩⟩
  | some r =>
    obtain ⟨z1, z2⟩ := ix_some (by omega) e
    have hh := h1 r e z1 z2
    subst z2
    exact ⟨fun q => absurd q (nI_pos (by omega)), fun _ => ⟨fun q => absurd q (nI_ge (by omega) (by omega)), fun _ => hh⟩⟩
/-- which line of which row -/
def ix2_ (P : ps_T) (f : Nat → Nat) (a b : Int32) : Option (Nat × Nat) := match ix_ (ps_p P).length a with
  | none => none
  | some r => match ix_ (f (px_at (ps_p P) r).length) b with
    | none => none
    | some i => some (r, i)
theorem s_hasLine {l : Launch} {κ : mm_K} {d : Nat} {G : mm_G} {K : Int32 → mm_G → Prop} {P : ps_T} (a b : Int32) (hP : ps_ok P) (hC : cB_ G P) (h0 : ix2_ P id a b = none → K (nI 0) G) (h1 : ∀ r i, ix2_ P id a b = some (r, i) → r < (ps_p P).length → a = nI r → i < (px_at (ps_p P) r).length → b = nI i → K (nI 1) G) : mC l κ true (d + 1) 0 0 m_X12_hasLine [.ref 0, .int a, .int b] G (rI K) := by
  have hp4 := hP.1.1
  refine e_X12_hasLine a b (s_hasRow a hC.1.1 hP.1.1 (fun e => ⟨fun _ => h0 (by unfold ix2_; rw [e]), fun q => absurd (by decide) q⟩) (fun r e hr ea => ⟨fun q => absurd q (by decide), fun _ => ?_⟩))
  have hro := hC.1.2.1 r hr
  have hlen := hro.2.1
  rw [ea, nI_clamp (by omega), hro.1]
  cases e2 : ix_ (px_at (ps_p P) r).length b with
  | none =>
    have h0 := h0 (by unfold ix2_; rw [e]; simp only [id, e2])
    exact ⟨fun _ => h0, fun q => ⟨(ki_vp (by omega)).2 (by omega), fun _ => h0, fun q2 => (ix_none (by omega) e2).elim (fun z => absurd z q) (fun z => absurd z.2 q2)⟩⟩
  | some i =>
    obtain ⟨z1, z2⟩ := ix_some (by omega) e2
    have hh := h1 r i (by unfold ix2_; rw [e]; simp only [id, e2]) hr ea z1 z2
    subst z2
    exact ⟨fun q => absurd q (nI_pos (by omega)), fun _ => ⟨(ki_vp (by omega)).2 (by omega), fun q => absurd q (nI_ge (by omega) (by omega)), fun _ => hh⟩⟩
def two_ (n : Nat) : Nat := 2 ^ n
theorem s_hasLost {l : Launch} {κ : mm_K} {d : Nat} {G : mm_G} {K : Int32 → mm_G → Prop} {P : ps_T} (a b : Int32) (hP : ps_ok P) (hC : cB_ G P) (h0 : ix2_ P two_ a b = none → K (nI 0) G) (h1 : ∀ r i, ix2_ P two_ a b = some (r, i) → r < (ps_p P).length → a = nI r → i < 2 ^ (px_at (ps_p P) r).length → b = nI i → K (nI 1) G) : mC l κ true (d + 1) 0 0 m_X12_hasLost [.ref 0, .int a, .int b] G (rI K) := by
  have hp4 := hP.1.1
  refine e_X12_hasLost a b (s_hasRow a hC.1.1 hP.1.1 (fun e => ⟨fun _ => h0 (by unfold ix2_; rw [e]), fun q => absurd (by decide) q⟩) (fun r e hr ea => ⟨fun q => absurd q (by decide), fun _ => ?_⟩))
  have hro := hC.1.2.1 r hr
  have hlen := hro.2.1
  have h16 := px_len_lt hlen
  rw [ea, nI_clamp (by omega), hro.1, ki_shl _ (by omega)]
  cases e2 : ix_ (two_ (px_at (ps_p P) r).length) b with
  | none =>
    have h0 := h0 (by unfold ix2_; rw [e]; simp only [e2])
    exact ⟨fun _ => h0, fun q => ⟨(ki_vp (by omega)).2 (by omega), fun _ => h0, fun q2 => (ix_none (by unfold two_; omega) e2).elim (fun z => absurd z q) (fun z => absurd z.2 q2)⟩⟩
  | some i =>
    obtain ⟨z1, z2⟩ := ix_some (by unfold two_; omega) e2
    unfold two_ at z1
    have hh := h1 r i (by unfold ix2_; rw [e]; simp only [e2]) hr ea z1 z2
    subst z2
    exact ⟨fun q => absurd q (nI_pos (by omega)), fun _ => ⟨(ki_vp (by omega)).2 (by omega), fun q => absurd q (nI_ge (by omega) (by omega)), fun _ => hh⟩⟩
/-- which run -/
def ix3_ (P : ps_T) (a b c : Int32) : Option (Nat × Nat × Nat) := match ix2_ P two_ a b with
  | none => none
  | some (r, lo) => match ix_ (ps_t P).length c with
    | none => none
    | some k => some (r, lo, k)
theorem s_hasRun {l : Launch} {κ : mm_K} {d : Nat} {G : mm_G} {K : Int32 → mm_G → Prop} {P : ps_T} (a b c : Int32) (hP : ps_ok P) (hC : cB_ G P) (h0 : ix3_ P a b c = none → K (nI 0) G) (h1 : ∀ r i k, ix3_ P a b c = some (r, i, k) → r < (ps_p P).length → a = nI r → i < 2 ^ (px_at (ps_p P) r).length → b = nI i → k < (ps_t P).length → c = nI k → K (nI 1) G) : mC l κ true (d + 2) 0 0 m_X12_hasRun [.ref 0, .int a, .int b, .int c] G (rI K) := by
  refine e_X12_hasRun a b c (s_hasLost a b hP hC (fun e => ⟨fun _ => h0 (by unfold ix3_; rw [e]), fun q => absurd (by decide) q⟩) (fun r i e hr ea hi ei => ⟨fun q => absurd q (by decide), fun _ => ?_⟩))
  refine s_hasTrial c hC.2.1.1 hP.2.1.1 (fun e2 => ⟨fun _ => h0 (by unfold ix3_; rw [e]; simp only [e2]), fun q => absurd (by decide) q⟩) (fun k e2 hk ek => ⟨fun q => absurd q (by decide), fun _ => h1 r i k (by unfold ix3_; rw [e]; simp only [e2]) hr ea hi ei hk ek⟩)
