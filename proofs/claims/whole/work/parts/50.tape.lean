/-! the tape: feed, back; forget; count -/
theorem fr_.nn {S : Nat → Nat → Bool} {G G1 : mm_G} (h : fr_ S G G1) : eq_on (fun c k => !S c k) G G1 := h.on (fun c k q => by simpa using q)
theorem cN_.on {S : Nat → Nat → Bool} {G G1 : mm_G} (h : cN_ G) (hf : eq_on S G G1) (hs : ∀ c, ((12 ≤ c ∧ c < 20) ∨ (54 ≤ c ∧ c < 62) ∨ (193 ≤ c ∧ c < 225)) → S c 2 = true) : cN_ G1 := by
  intro j hj
  obtain ⟨b1, b2, b3⟩ := h j hj
  refine ⟨?_, ?_, fun i hi => ?_⟩
  · rw [hf.i _ _ (hs _ (by omega))]; exact b1
  · rw [hf.i _ _ (hs _ (by omega))]; exact b2
  · rw [hf.i _ _ (hs _ (by omega))]; exact b3 i hi
theorem cV_.on {S : Nat → Nat → Bool} {G G1 : mm_G} {P Q : ps_T} (h : cV_ G P) (hP : ps_ok P) (hQ : ps_s Q = ps_s P) (hf : eq_on S G G1) (hn : mg_n G ≤ mg_n G1) (hs : ∀ c k, ((188 ≤ c ∧ c < 226) ∨ 285 ≤ c) → S c k = true) : cV_ G1 Q := by
  intro i hi
  obtain ⟨b1, b2⟩ := h i hi
  rw [hQ]
  refine ⟨fun q => ?_, fun p s q => ?_⟩
  · rw [hf.i _ _ (hs _ _ (by omega))]; exact b1 q
  · obtain ⟨c1, c2⟩ := b2 p s q
    refine ⟨?_, c2.on (hP.2.2.2.2.1 i p s q).1.1 hf hn (fun c k q1 q2 => hs _ _ (by omega)) (fun t k q => hs _ _ (by omega))⟩
    rw [hf.i _ _ (hs _ _ (by omega))]; exact c1
theorem cW_.on {S : Nat → Nat → Bool} {G G1 : mm_G} {b : List Nat} (h : cW_ G b) (hf : eq_on S G G1) (hs : ∀ c k, c = 1 ∨ c = 2 → S c k = true) : cW_ G1 b :=
  ⟨by rw [hf.i _ _ (hs _ _ (Or.inl rfl))]; exact h.1, fun j hj => by rw [hf.i _ _ (hs _ _ (Or.inr rfl))]; exact h.2 j hj⟩
theorem mV_.on {S : Nat → Nat → Bool} {G G1 : mm_G} {P Q : ps_T} (h : mV_ G P) (h1 : ps_s Q = ps_s P) (h2 : ps_t Q = ps_t P) (h3 : ps_f Q = ps_f P) (hf : eq_on S G G1) (hs : ∀ c k, (234 ≤ c ∧ c ≤ 247) ∨ (278 ≤ c ∧ c < 285) → S c k = true) : mV_ G1 Q := by
  intro i hi
  rw [h1, h2, h3]
  refine ⟨fun q => ?_, fun p s q => ?_⟩
  · rw [hf.i _ _ (hs _ _ (by omega))]; exact (h i hi).1 q
  · obtain ⟨c1, c2, c3, c4, c5⟩ := (h i hi).2 p s q
    refine ⟨?_, c2.on hf (fun c k q1 q2 => hs _ _ (by omega)), ?_, fun q2 => ?_, fun k hk => ⟨?_, (c5 k hk).2.on hf (fun k => hs _ _ (by omega)) (fun k => hs _ _ (by omega)) (fun k => hs _ _ (by omega))⟩⟩
    · rw [hf.i _ _ (hs _ _ (by omega))]; exact c1
    · rw [hf.i _ _ (hs _ _ (by omega))]; exact c3
    · rw [hf.i _ _ (hs _ _ (by omega))]; exact c4 q2
    · rw [hf.i _ _ (hs _ _ (by omega))]; exact (c5 k hk).1
theorem mS_.on {S : Nat → Nat → Bool} {G G1 : mm_G} {P Q : ps_T} (h : mS_ G P) (h0 : ps_p Q = ps_p P) (h1 : ps_n Q = ps_n P) (h2 : ps_t Q = ps_t P) (h3 : ps_f Q = ps_f P) (hf : eq_on S G G1) (hs : ∀ c k, (268 ≤ c ∧ c < 272) → S c k = true) (h65 : S 226 65 = true) (h66 : S 226 66 = true) : mS_ G1 Q := by
  unfold mS_
  rw [h0, h1, h2, h3]
  refine ⟨?_, fun q => ?_, fun k hk => ⟨?_, (h.2.2 k hk).2.on hf (fun k => hs _ _ (by omega)) (fun k => hs _ _ (by omega)) (fun k => hs _ _ (by omega))⟩⟩
  · rw [hf.i _ _ h65]; exact h.1
  · rw [hf.i _ _ h66]; exact h.2.1 q
  · rw [hf.i _ _ (hs _ _ (by omega))]; exact (h.2.2 k hk).1
theorem mW_.on {S : Nat → Nat → Bool} {G G1 : mm_G} {b : List Nat} (h : mW_ G b) (hf : eq_on S G G1) (h1 : S 226 2 = true) (h2 : ∀ k, S 227 k = true) : mW_ G1 b :=
  ⟨by rw [hf.i _ _ h1]; exact h.1, fun j hj => by rw [hf.i _ _ (h2 _)]; exact h.2 j hj⟩
/-! a state with another tape, with nothing seen .. -/
def wb_ (P : ps_T) (b : List Nat) : ps_T := (ps_p P, ps_t P, ps_f P, ps_n P, ps_s P, b, ps_c P)
def wn_ (P : ps_T) (s : sx_T) : ps_T := (ps_p P, ps_t P, ps_f P, s, ps_s P, ps_b P, ps_c P)
theorem wb_ok {P : ps_T} {b : List Nat} (h : ps_ok P) (h1 : b.length ≤ 2000) (h2 : ∀ j, j < b.length → b.getD j 0 < 256) : ps_ok (wb_ P b) := by
  obtain ⟨a1, a2, a3, a4, a5, a6, a7⟩ := h
  exact ⟨a1, a2, a3, a4, a5, h1, h2⟩
/-- cells of the tape alone have changed -/
theorem cB_.tape {G G1 : mm_G} {P : ps_T} {b : List Nat} (h : cB_ G P) (hP : ps_ok P) (hf : fr_ (fun c _ => decide (c = 1) || decide (c = 2)) G G1) (hb : cW_ G1 b) : cB_ G1 (wb_ P b) := by
  obtain ⟨a1, a2, a3, a4, a5, a6, a7⟩ := h
  have hn : mg_n G ≤ mg_n G1 := by rw [hf.1]; exact Nat.le_refl _
  refine ⟨a1.on hP.1.1 hf.nn hn (fun c k q1 q2 => by simp; omega) (fun t k q => by simp; omega), a2.on hP.2.1.1 hf.nn (fun c k q1 q2 => by simp; omega), a3.on hf.nn (fun c q => by simp; omega), a4.on hP rfl hf.nn hn (fun c k q => by simp; omega), hb, ?_, fun w hw => ?_⟩
  · rw [hf.i _ _ (by simp)]; exact a6
  · rw [hf.l _ _ (by simp)]; exact a7 w hw
theorem mB_.tape {G G1 : mm_G} {P : ps_T} {m : Nat} {b : List Nat} (h : mB_ G P m) (hf : fr_ (fun c k => (decide (c = 226) && decide (k = 2)) || decide (c = 227)) G G1) (hb : mW_ G1 b) : mB_ G1 (wb_ P b) m := by
  obtain ⟨a1, a2, a3, a4, a5, a6, a7, a8, a9⟩ := h
  refine ⟨a1, ?_, a3.on hf.nn (fun c k q1 q2 => by simp; omega), a4.on hf.nn (fun c k q1 q2 => by simp; omega), a5.on rfl rfl rfl rfl hf.nn (fun c k q => by simp; omega) (by simp) (by simp), a6.on rfl rfl rfl hf.nn (fun c k q => by simp; omega), hb, ?_, fun k hk => ?_⟩
  · rw [hf.i _ _ (by simp)]; exact a2
  · rw [hf.i _ _ (by simp)]; exact a8
  · rw [hf.l _ _ (by simp)]; exact a9 k hk
/-! back -/
def st_back (P : ps_T) (a : Int32) : ps_T := match ix_ ((ps_b P).length + 1) a with
  | none => P
  | some n => wb_ P ((ps_b P).take ((ps_b P).length - n))
def an_back (P : ps_T) (a : Int32) : Int32 := match ix_ ((ps_b P).length + 1) a with
  | none => -1
  | some n => nI ((ps_b P).length - n)
theorem tk_at {b : List Nat} {n j : Nat} (h : j < n) : (b.take n).getD j 0 = b.getD j 0 := by
  rw [List.getD_eq_getElem?_getD, List.getD_eq_getElem?_getD, List.getElem?_take, if_pos h]
theorem st_back_ok {P : ps_T} (a : Int32) (hP : ps_ok P) : ps_ok (st_back P a) := by
  have hP0 := hP
  unfold st_back
  split
  · exact hP
  · obtain ⟨-, -, -, -, -, h6, h7⟩ := hP
    refine wb_ok hP0 (by rw [List.length_take]; omega) (fun j hj => ?_)
    rw [List.length_take] at hj
    rw [tk_at (by omega)]
    exact h7 j (by omega)
theorem ix_le {n : Nat} {a : Int32} (hn : n < 2 ^ 30) (h : ix_ (n + 1) a = none) : a < 0 ∨ ¬ a ≤ nI n := by
  rcases ix_none (by omega) h with z | z
  · exact Or.inl z
  · right
    have z2 := z.2
    rw [fa_le, nI_toInt (by omega)] at z2
    rw [fa_le, nI_toInt (by omega)]
    omega
theorem c_back {l : Launch} {κ : mm_K} {d : Nat} {G : mm_G} {K : Int32 → mm_G → Prop} {P : ps_T} (a : Int32) (hP : ps_ok P) (hC : cB_ G P) (h : ∀ G', cB_ G' (st_back P a) → fr_ (fun c _ => decide (c = 1) || decide (c = 2)) G G' → K (an_back P a) G') : mC l κ true d 0 0 m_X12_back [.ref 0, .int a] G (rI K) := by
  have h6 := hP.2.2.2.2.2.1
  have hW := hC.2.2.2.2.1
  unfold st_back an_back at h
  refine e_X12_back a ?_
  rw [hW.1]
  cases e : ix_ ((ps_b P).length + 1) a with
  | none =>
    rw [e] at h
    have h := h G hC fr_.rfl'
    exact ⟨fun _ => h, fun z => ⟨fun z2 => (ix_le (by omega) e).elim (fun y => absurd y z) (fun y => absurd z2 y), fun _ => h⟩⟩
  | some n =>
    rw [e] at h
    obtain ⟨hn, en⟩ := ix_some (by omega) e
    subst en
    refine ⟨fun z => absurd z (nI_pos (by omega)), fun _ => ⟨fun _ => ?_, fun z => absurd (nI_le (by omega) (by omega)) z⟩⟩
    rw [ki_sub (by omega)]
    have hf : fr_ (fun c _ => decide (c = 1) || decide (c = 2)) G (ms_i G 1 4 (nI ((ps_b P).length - n))) := fr_.rfl'.si (by simp)
    refine h _ (hC.tape hP hf ⟨?_, fun j hj => ?_⟩) hf
    · rw [List.length_take, Nat.min_eq_left (by omega)]; simp only [mg_i_i, mg_i_l, mg_i_r, mg_i_b, mg_l_i, mg_l_l, mg_l_r, mg_l_b, mg_r_i, mg_r_l, mg_r_r, mg_r_b, false_and, and_false, true_and, and_true, reduceCtorEq, if_true, if_false, reduceIte, Nat.reduceEqDiff, Nat.reduceAdd, Nat.succ_ne_self, ne_eq, not_false_eq_true, not_true_eq_false]
    · rw [List.length_take] at hj
      rw [tk_at (by omega)]
      simp only [mg_i_i, mg_i_l, mg_i_r, mg_i_b, mg_l_i, mg_l_l, mg_l_r, mg_l_b, mg_r_i, mg_r_l, mg_r_r, mg_r_b, false_and, and_false, true_and, and_true, reduceCtorEq, if_true, if_false, reduceIte, Nat.reduceEqDiff, Nat.reduceAdd, Nat.succ_ne_self, ne_eq, not_false_eq_true, not_true_eq_false]
      exact hW.2 j (by omega)
theorem m_back {l : Launch} {κ : mm_K} {d : Nat} {G : mm_G} {K : Int32 → mm_G → Prop} {P : ps_T} {m : Nat} (a : Int32) (hP : ps_ok P) (hM : mB_ G P m) (h : ∀ G', mB_ G' (st_back P a) m → fr_ (fun c _ => decide (226 ≤ c) && decide (c < 285)) G G' → K (an_back P a) G') : mC l κ true d 0 0 m_X13_back [.ref 226, .int a] G (rI K) := by
  have h6 := hP.2.2.2.2.2.1
  have hW := hM.2.2.2.2.2.2.1
  unfold st_back an_back at h
  refine e_X13_back a ?_
  rw [hW.1]
  cases e : ix_ ((ps_b P).length + 1) a with
  | none =>
    rw [e] at h
    have h := h G hM fr_.rfl'
    exact ⟨fun _ => h, fun z => ⟨fun z2 => (ix_le (by omega) e).elim (fun y => absurd y z) (fun y => absurd z2 y), fun _ => h⟩⟩
  | some n =>
    rw [e] at h
    obtain ⟨hn, en⟩ := ix_some (by omega) e
    subst en
    refine ⟨fun z => absurd z (nI_pos (by omega)), fun _ => ⟨fun _ => ?_, fun z => absurd (nI_le (by omega) (by omega)) z⟩⟩
    rw [ki_sub (by omega)]
    have hf : fr_ (fun c k => (decide (c = 226) && decide (k = 2)) || decide (c = 227)) G (ms_i G 226 2 (nI ((ps_b P).length - n))) := fr_.rfl'.si (by simp)
    refine h _ (hM.tape hf ⟨?_, fun j hj => ?_⟩) (hf.mono (fun c k q => by simp at q ⊢; omega))
    · rw [List.length_take, Nat.min_eq_left (by omega)]; simp only [mg_i_i, mg_i_l, mg_i_r, mg_i_b, mg_l_i, mg_l_l, mg_l_r, mg_l_b, mg_r_i, mg_r_l, mg_r_r, mg_r_b, false_and, and_false, true_and, and_true, reduceCtorEq, if_true, if_false, reduceIte, Nat.reduceEqDiff, Nat.reduceAdd, Nat.succ_ne_self, ne_eq, not_false_eq_true, not_true_eq_false]
    · rw [List.length_take] at hj
      rw [tk_at (by omega)]
      simp only [mg_i_i, mg_i_l, mg_i_r, mg_i_b, mg_l_i, mg_l_l, mg_l_r, mg_l_b, mg_r_i, mg_r_l, mg_r_r, mg_r_b, false_and, and_false, true_and, and_true, reduceCtorEq, if_true, if_false, reduceIte, Nat.reduceEqDiff, Nat.reduceAdd, Nat.succ_ne_self, ne_eq, not_false_eq_true, not_true_eq_false]
      exact hW.2 j (by omega)
/-! feed -/
def byt_ (v : Int32) (s : Nat) : Nat := (((v.toUInt32 >>> ((nI s).toUInt32 &&& Int32.toUInt32 31)).toInt32) &&& nI 255).toNatClampNeg
theorem byt_c (v : Int32) (s : Nat) : ((v.toUInt32 >>> ((nI s).toUInt32 &&& Int32.toUInt32 31)).toInt32) &&& nI 255 = nI (byt_ v s) ∧ byt_ v s < 256 := by
  unfold byt_
  generalize (v.toUInt32 >>> ((nI s).toUInt32 &&& Int32.toUInt32 31)).toInt32 = x
  obtain ⟨n, hn, rfl⟩ : ∃ n, n < 2 ^ 32 ∧ x = nI n := ⟨x.toBitVec.toNat, x.toBitVec.isLt, Int32.toBitVec_inj.mp (by show _ = BitVec.ofNat 32 _; simp)⟩
  rw [fa_and, show (255 : Nat) = 2 ^ 8 - 1 from rfl, Nat.and_two_pow_sub_one_eq_mod]
  have : n % 2 ^ 8 < 2 ^ 8 := Nat.mod_lt _ (by decide)
  rw [nI_clamp (by omega)]
  exact ⟨rfl, this⟩
theorem byt_m (v : Int32) {s : Nat} (hs : s ≤ 24) : vp_nar .byte ((v >>> (nI s &&& 31)).toInt8.toInt32) = (nI (byt_ v s)).toInt8.toInt32 := by
  have e1 : (v >>> (nI s &&& 31)) &&& 255 = ((v.toUInt32 >>> ((nI s).toUInt32 &&& Int32.toUInt32 31)).toInt32) &&& 255 := by
    apply b_ext
    intro i hi
    rw [b_and, b_and, b_255]
    by_cases c : i < 8
    · rw [b_sshr s (by omega) _ hi, b_ushr s (by omega), if_pos (by omega)]
    · rw [decide_eq_false c, Bool.and_false, Bool.and_false]
  have e2 : (v >>> (nI s &&& 31)).toInt8 = (nI (byt_ v s)).toInt8 := by
    rw [← fa_byte_low, e1]
    rw [show ((v.toUInt32 >>> ((nI s).toUInt32 &&& Int32.toUInt32 31)).toInt32) &&& 255 = nI (byt_ v s) from (byt_c v s).1]
  rw [e2]
  exact fb_byte_twice _
def four_ (v : Int32) : List Nat := [byt_ v 24, byt_ v 16, byt_ v 8, byt_ v 0]
theorem cW_.add {G : mm_G} {b : List Nat} (h : cW_ G b) {x : Int32} {n : Nat} (hx : x = nI n) : cW_ (ms_i (ms_i G 2 b.length x) 1 4 (nI (b.length + 1))) (b ++ [n]) := by
  subst hx
  refine ⟨?_, fun j hj => ?_⟩
  · rw [ld_len]; simp only [mg_i_i, mg_i_l, mg_i_r, mg_i_b, mg_l_i, mg_l_l, mg_l_r, mg_l_b, mg_r_i, mg_r_l, mg_r_r, mg_r_b, false_and, and_false, true_and, and_true, reduceCtorEq, if_true, if_false, reduceIte, Nat.reduceEqDiff, Nat.reduceAdd, Nat.succ_ne_self, ne_eq, not_false_eq_true, not_true_eq_false]
  · rw [ld_len] at hj
    simp only [mg_i_i, mg_i_l, mg_i_r, mg_i_b, mg_l_i, mg_l_l, mg_l_r, mg_l_b, mg_r_i, mg_r_l, mg_r_r, mg_r_b, false_and, and_false, true_and, and_true, reduceCtorEq, if_true, if_false, reduceIte, Nat.reduceEqDiff, Nat.reduceAdd, Nat.succ_ne_self, ne_eq, not_false_eq_true, not_true_eq_false]
    split
    · rename_i z; rw [z, ld_r]
    · rw [ld_l _ _ (by omega)]; exact h.2 j (by omega)
theorem mW_.add {G : mm_G} {b : List Nat} (h : mW_ G b) {x : Int32} {n : Nat} (hx : x = (nI n).toInt8.toInt32) : mW_ (ms_i (ms_i G 227 b.length x) 226 2 (nI (b.length + 1))) (b ++ [n]) := by
  subst hx
  refine ⟨?_, fun j hj => ?_⟩
  · rw [ld_len]; simp only [mg_i_i, mg_i_l, mg_i_r, mg_i_b, mg_l_i, mg_l_l, mg_l_r, mg_l_b, mg_r_i, mg_r_l, mg_r_r, mg_r_b, false_and, and_false, true_and, and_true, reduceCtorEq, if_true, if_false, reduceIte, Nat.reduceEqDiff, Nat.reduceAdd, Nat.succ_ne_self, ne_eq, not_false_eq_true, not_true_eq_false]
  · rw [ld_len] at hj
    simp only [mg_i_i, mg_i_l, mg_i_r, mg_i_b, mg_l_i, mg_l_l, mg_l_r, mg_l_b, mg_r_i, mg_r_l, mg_r_r, mg_r_b, false_and, and_false, true_and, and_true, reduceCtorEq, if_true, if_false, reduceIte, Nat.reduceEqDiff, Nat.reduceAdd, Nat.succ_ne_self, ne_eq, not_false_eq_true, not_true_eq_false]
    split
    · rename_i z; rw [z, ld_r]
    · rw [ld_l _ _ (by omega)]; exact h.2 j (by omega)
theorem s_add1 {l : Launch} {κ : mm_K} {d : Nat} {G : mm_G} {K : mm_G → Prop} {b : List Nat} (v : Int32) (s : Nat) (w : Int32) (hs : s ≤ 24) (hw : nI s + (-8) = w) (hb : b.length < 2000) (hW : cW_ G b) (h : ∀ G', cW_ G' (b ++ [byt_ v s]) → fr_ (fun c _ => decide (c = 1) || decide (c = 2)) G G' → mV l κ true d 0 0 m_X10_addInt 3 [some (.ref 1), some (.int v), some (.int w)] [] G' (rV K)) : mV l κ true d 0 0 m_X10_addInt 3 [some (.ref 1), some (.int v), some (.int (nI s))] [] G (rV K) := by
  refine p_X10_addInt_3 _ _ ⟨fun z => absurd z (nI_pos (by omega)), fun _ => ⟨fun z => absurd z (by rw [hW.1]; exact nI_ge (by omega) (by omega)), fun _ => ?_⟩⟩
  rw [hW.1, nI_clamp (by omega), nI_add, hw]
  exact ⟨(ki_vp (by omega)).2 hb, h _ (hW.add (byt_c v s).1) ((fr_.rfl'.si (by simp)).si (by simp))⟩
theorem s_addInt {l : Launch} {κ : mm_K} {d : Nat} {G : mm_G} {K : mm_G → Prop} {b : List Nat} (v : Int32) (hb : b.length + 4 ≤ 2000) (hW : cW_ G b) (h : ∀ G', cW_ G' (b ++ four_ v) → fr_ (fun c _ => decide (c = 1) || decide (c = 2)) G G' → K G') : mC l κ true d 0 0 m_X10_addInt [.ref 1, .int v] G (rV K) := by
  refine e_X10_addInt v (s_add1 v 24 (nI 16) (by omega) (by decide) (by omega) hW (fun G1 w1 f1 => ?_))
  refine s_add1 v 16 (nI 8) (by omega) (by decide) (by rw [ld_len]; omega) w1 (fun G2 w2 f2 => ?_)
  refine s_add1 v 8 (nI 0) (by omega) (by decide) (by rw [ld_len, ld_len]; omega) w2 (fun G3 w3 f3 => ?_)
  refine s_add1 v 0 (-8) (by omega) (by decide) (by rw [ld_len, ld_len, ld_len]; omega) w3 (fun G4 w4 f4 => ?_)
  refine p_X10_addInt_3 _ _ ⟨fun _ => h G4 ?_ (((f1.trans f2).trans f3).trans f4), fun z => absurd (by decide) z⟩
  have e : b ++ four_ v = b ++ [byt_ v 24] ++ [byt_ v 16] ++ [byt_ v 8] ++ [byt_ v 0] := by
    unfold four_
    simp
  rw [e]
  exact w4
theorem t_add1 {l : Launch} {κ : mm_K} {d : Nat} {G : mm_G} {K : mm_G → Prop} {b : List Nat} (v : Int32) (s : Nat) (w : Int32) (hs : s ≤ 24) (hw : nI s + (-8) = w) (hb : b.length < 2000) (hW : mW_ G b) (h : ∀ G', mW_ G' (b ++ [byt_ v s]) → fr_ (fun c k => (decide (c = 226) && decide (k = 2)) || decide (c = 227)) G G' → mV l κ true d 0 0 m_X13_put 3 [some (.ref 226), some (.int v), some (.int w)] [] G' (rV K)) : mV l κ true d 0 0 m_X13_put 3 [some (.ref 226), some (.int v), some (.int (nI s))] [] G (rV K) := by
  refine p_X13_put_3 _ _ ⟨fun z => absurd z (nI_pos (by omega)), fun _ => ?_⟩
  rw [hW.1, nI_clamp (by omega), nI_add, hw]
  exact ⟨(ki_vp (by omega)).2 hb, h _ (hW.add (byt_m v hs)) ((fr_.rfl'.si (by simp)).si (by simp))⟩
theorem t_putInt {l : Launch} {κ : mm_K} {d : Nat} {G : mm_G} {K : mm_G → Prop} {b : List Nat} (v : Int32) (hb : b.length + 4 ≤ 2000) (hW : mW_ G b) (h : ∀ G', mW_ G' (b ++ four_ v) → fr_ (fun c k => (decide (c = 226) && decide (k = 2)) || decide (c = 227)) G G' → K G') : mC l κ true d 0 0 m_X13_put [.ref 226, .int v] G (rV K) := by
  refine e_X13_put v (t_add1 v 24 (nI 16) (by omega) (by decide) (by omega) hW (fun G1 w1 f1 => ?_))
  refine t_add1 v 16 (nI 8) (by omega) (by decide) (by rw [ld_len]; omega) w1 (fun G2 w2 f2 => ?_)
  refine t_add1 v 8 (nI 0) (by omega) (by decide) (by rw [ld_len, ld_len]; omega) w2 (fun G3 w3 f3 => ?_)
  refine t_add1 v 0 (-8) (by omega) (by decide) (by rw [ld_len, ld_len, ld_len]; omega) w3 (fun G4 w4 f4 => ?_)
  refine p_X13_put_3 _ _ ⟨fun _ => h G4 ?_ (((f1.trans f2).trans f3).trans f4), fun z => absurd (by decide) z⟩
  have e : b ++ four_ v = b ++ [byt_ v 24] ++ [byt_ v 16] ++ [byt_ v 8] ++ [byt_ v 0] := by
    unfold four_
    simp
  rw [e]
  exact w4
theorem four_len (v : Int32) : (four_ v).length = 4 := rfl
def fed_ (b : List Nat) (a1 a2 a3 a4 a5 : Int32) : List Nat := b ++ four_ a1 ++ four_ a2 ++ four_ a3 ++ four_ a4 ++ four_ a5
def st_feed (P : ps_T) (a1 a2 a3 a4 a5 : Int32) : ps_T := if (ps_b P).length ≤ 1980 then wb_ P (fed_ (ps_b P) a1 a2 a3 a4 a5) else P
def an_feed (P : ps_T) : Int32 := if (ps_b P).length ≤ 1980 then nI ((ps_b P).length + 20) else -1
theorem fed_len (b : List Nat) (a1 a2 a3 a4 a5 : Int32) : (fed_ b a1 a2 a3 a4 a5).length = b.length + 20 := by
  unfold fed_
  simp only [List.length_append, four_len]
theorem by_lt {b : List Nat} (h : ∀ x ∈ b, x < 256) : ∀ j, j < b.length → b.getD j 0 < 256 := fun j hj => by
  rw [List.getD_eq_getElem?_getD, List.getElem?_eq_getElem hj]
  exact h _ (List.getElem_mem hj)
theorem by_mem {b : List Nat} (h : ∀ j, j < b.length → b.getD j 0 < 256) : ∀ x ∈ b, x < 256 := fun x hx => by
  obtain ⟨j, hj, e⟩ := List.getElem_of_mem hx
  have := h j hj
  rw [List.getD_eq_getElem?_getD, List.getElem?_eq_getElem hj] at this
  rw [← e]
  exact this
theorem four_lt (v : Int32) : ∀ x ∈ four_ v, x < 256 := by
  intro x hx
  unfold four_ at hx
  simp only [List.mem_cons, List.not_mem_nil, or_false] at hx
  rcases hx with q | q | q | q
  · rw [q]; exact (byt_c v 24).2
  · rw [q]; exact (byt_c v 16).2
  · rw [q]; exact (byt_c v 8).2
  · rw [q]; exact (byt_c v 0).2
theorem st_feed_ok {P : ps_T} (a1 a2 a3 a4 a5 : Int32) (hP : ps_ok P) : ps_ok (st_feed P a1 a2 a3 a4 a5) := by
  unfold st_feed
  split
  · have h7 := by_mem hP.2.2.2.2.2.2
    refine wb_ok hP (by rw [fed_len]; omega) (by_lt (fun x hx => ?_))
    unfold fed_ at hx
    simp only [List.mem_append] at hx
    rcases hx with ((((q | q) | q) | q) | q) | q
    · exact h7 x q
    · exact four_lt _ x q
    · exact four_lt _ x q
    · exact four_lt _ x q
    · exact four_lt _ x q
    · exact four_lt _ x q
  · exact hP
theorem c_feed {l : Launch} {κ : mm_K} {d : Nat} {G : mm_G} {K : Int32 → mm_G → Prop} {P : ps_T} (a1 a2 a3 a4 a5 : Int32) (hP : ps_ok P) (hC : cB_ G P) (h : ∀ G', cB_ G' (st_feed P a1 a2 a3 a4 a5) → fr_ (fun c _ => decide (c = 1) || decide (c = 2)) G G' → K (an_feed P) G') : mC l κ true (d + 1) 0 0 m_X12_feed [.ref 0, .int a1, .int a2, .int a3, .int a4, .int a5] G (rI K) := by
  have h6 := hP.2.2.2.2.2.1
  have hW := hC.2.2.2.2.1
  unfold st_feed an_feed at h
  refine e_X12_feed _ _ _ _ _ ?_
  rw [hW.1, nI_leI (by omega) (by omega)]
  refine ⟨fun z => ?_, fun z => ?_⟩
  · rw [if_pos z, if_pos z] at h
    refine s_addInt a1 (by omega) hW (fun G1 w1 f1 => ?_)
    refine s_addInt a2 (by rw [List.length_append, four_len]; omega) w1 (fun G2 w2 f2 => ?_)
    refine s_addInt a3 (by simp only [List.length_append, four_len]; omega) w2 (fun G3 w3 f3 => ?_)
    refine s_addInt a4 (by simp only [List.length_append, four_len]; omega) w3 (fun G4 w4 f4 => ?_)
    refine s_addInt a5 (by simp only [List.length_append, four_len]; omega) w4 (fun G5 w5 f5 => ?_)
    have hf := (((f1.trans f2).trans f3).trans f4).trans f5
    have w5 : cW_ G5 (fed_ (ps_b P) a1 a2 a3 a4 a5) := w5
    have hk := h G5 (hC.tape hP hf w5) hf
    rw [w5.1, fed_len]
    exact hk
  · rw [if_neg z, if_neg z] at h
    exact h G hC fr_.rfl'
theorem m_feed {l : Launch} {κ : mm_K} {d : Nat} {G : mm_G} {K : Int32 → mm_G → Prop} {P : ps_T} {m : Nat} (a1 a2 a3 a4 a5 : Int32) (hP : ps_ok P) (hM : mB_ G P m) (h : ∀ G', mB_ G' (st_feed P a1 a2 a3 a4 a5) m → fr_ (fun c _ => decide (226 ≤ c) && decide (c < 285)) G G' → K (an_feed P) G') : mC l κ true (d + 1) 0 0 m_X13_feed [.ref 226, .int a1, .int a2, .int a3, .int a4, .int a5] G (rI K) := by
  have h6 := hP.2.2.2.2.2.1
  have hW := hM.2.2.2.2.2.2.1
  unfold st_feed an_feed at h
  refine e_X13_feed _ _ _ _ _ ?_
  rw [hW.1, nI_add, nI_leI (by omega) (by omega)]
  refine ⟨fun z => ?_, fun z => ?_⟩
  · rw [if_pos (by omega), if_pos (by omega)] at h
    refine t_putInt a1 (by omega) hW (fun G1 w1 f1 => ?_)
    refine t_putInt a2 (by rw [List.length_append, four_len]; omega) w1 (fun G2 w2 f2 => ?_)
    refine t_putInt a3 (by simp only [List.length_append, four_len]; omega) w2 (fun G3 w3 f3 => ?_)
    refine t_putInt a4 (by simp only [List.length_append, four_len]; omega) w3 (fun G4 w4 f4 => ?_)
    refine t_putInt a5 (by simp only [List.length_append, four_len]; omega) w4 (fun G5 w5 f5 => ?_)
    have hf := (((f1.trans f2).trans f3).trans f4).trans f5
    have w5 : mW_ G5 (fed_ (ps_b P) a1 a2 a3 a4 a5) := w5
    have hk := h G5 (hM.tape hf w5) (hf.mono (fun c k q => by simp at q ⊢; omega))
    rw [w5.1, fed_len]
    exact hk
  · rw [if_neg (by omega), if_neg (by omega)] at h
    exact h G hM fr_.rfl'
