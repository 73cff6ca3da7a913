/-! reading: the reference's small steps -/
def mkk_ (k : Nat) : Nat := if k = 0 then 0 else if k = 1 then 3 else if k = 2 then 1 else if k = 3 then 2 else if k = 4 then 4 else if k = 5 then 6 else if k = 6 then 7 else if k = 7 then 8 else if k = 8 then 5 else if k = 9 then 13 else if k < 14 then k - 1 else if k < 20 then k else if k < 36 then k + 4 else k - 16
theorem mkk_inj : ∀ a, a < 40 → ∀ b, b < 40 → mkk_ a = mkk_ b → a = b := by decide +kernel
theorem mkk_lt : ∀ a, a < 40 → mkk_ a < 40 := by decide +kernel
theorem mkk_eq {a b : Nat} (ha : a < 40) (hb : b < 40) : nI (mkk_ a) = nI (mkk_ b) ↔ a = b := by
  have := mkk_lt a ha
  have := mkk_lt b hb
  rw [nI_eq (by omega) (by omega)]
  exact ⟨fun e => mkk_inj a ha b hb e, fun e => by rw [e]⟩
def mTk_ (G : mm_G) (tb : tb_T) : Prop := ∀ j, j ≤ 400 → okt_ tb j → mg_i G 229 j = nI (mkk_ (tkk_ tb j)) ∧ mg_i G 230 j = nI (tkp_ tb j) ∧ (tkk_ tb j = 3 → mg_i G 231 j = nI (tkv_ tb j)) ∧ (tkk_ tb j = 2 → mg_l G 232 j = lN (tkv_ tb j))
def mNt_ (G : mm_G) (tb : tb_T) (nt : Option Nat) : Prop := (nt = none → mg_i G 226 15 = nI 0) ∧ ∀ j, nt = some j → mg_i G 226 15 = nI (kf_ tb j) ∧ mg_i G 226 16 = nI (tkp_ tb j) ∧ j ≤ 400 ∧ okt_ tb j
/-- the reader stands at token t, no fault so far -/
def mP_ (G : mm_G) (tb : tb_T) (nt : Option Nat) (t : Nat) : Prop := t ≤ 400 ∧ okt_ tb t ∧ mg_i G 226 11 = nI t ∧ mg_i G 226 13 = nI 0 ∧ mTk_ G tb ∧ mNt_ G tb nt
/-- a fault stands -/
def mF_ (G : mm_G) (tb : tb_T) (e : Nat × Nat) : Prop := (e.1 = 1 ∨ e.1 = 2) ∧ e.2 ≤ 400 ∧ mg_i G 226 13 = nI e.1 ∧ mg_i G 226 14 = nI (tkp_ tb e.2) ∧ mg_i G 226 11 = nI e.2
theorem mF_.ne {G : mm_G} {tb : tb_T} {e : Nat × Nat} (h : mF_ G tb e) : ¬ mg_i G 226 13 = 0 ∧ ¬ mg_i G 226 13 ≤ 0 ∧ 0 < mg_i G 226 13 := by
  rw [h.2.2.1]
  rcases h.1 with q | q
  · rw [q]; decide
  · rw [q]; decide
/-- fault, place, token, noted fault -/
def fmr_ (c k : Nat) : Bool := decide (c = 226) && (decide (k = 11) || decide (k = 13) || decide (k = 14) || decide (k = 15) || decide (k = 16))
theorem fmr_F {c k : Nat} (h : c ≠ 226 ∨ (k ≠ 11 ∧ k ≠ 13 ∧ k ≠ 14 ∧ k ≠ 15 ∧ k ≠ 16)) : fmr_ c k = false := by
  unfold fmr_
  rcases h with z | ⟨z1, z2, z3, z4, z5⟩
  · rw [decide_eq_false z]; rfl
  · rw [decide_eq_false z1, decide_eq_false z2, decide_eq_false z3, decide_eq_false z4, decide_eq_false z5]
    exact Bool.and_false _
theorem mP_.rd {G : mm_G} {tb : tb_T} {nt : Option Nat} {t : Nat} (h : mP_ G tb nt t) : mg_i G 226 11 = nI t ∧ t ≤ 400 ∧ mg_i G 229 t = nI (mkk_ (tkk_ tb t)) ∧ mg_i G 230 t = nI (tkp_ tb t) ∧ (tkk_ tb t = 3 → mg_i G 231 t = nI (tkv_ tb t)) ∧ (tkk_ tb t = 2 → mg_l G 232 t = lN (tkv_ tb t)) := by
  obtain ⟨a1, a2, a3, a4, a5, a6⟩ := h
  obtain ⟨b1, b2, b3, b4⟩ := a5 t a1 a2
  exact ⟨a3, a1, b1, b2, b3, b4⟩
theorem t_is {l : Launch} {κ : mm_K} {d : Nat} {G : mm_G} {K : Int32 → mm_G → Prop} {tb : tb_T} {nt : Option Nat} {t k : Nat} (hT : tg_ tb) (hk : k < 40) (hS : mP_ G tb nt t) (h : K (if tkk_ tb t = k then nI 1 else nI 0) G) : mC l κ true d 0 0 m_X13_is [.ref 226, .int (nI (mkk_ k))] G (rI K) := by
  obtain ⟨a3, a1, b1, b2, b3, b4⟩ := hS.rd
  have hkd := (hT.1 t a1 hS.2.1).1
  refine e_X13_is _ ?_
  rw [hS.2.2.2.1, a3, nI_clamp (by omega), b1, mkk_eq hkd hk]
  refine ⟨fun y => absurd (by decide) y, fun _ => ⟨(ki_vp (by omega)).2 (by omega), fun y => ?_, fun y => ?_⟩⟩
  · rw [if_neg y] at h; exact h
  · rw [if_pos y] at h; exact h
theorem t_isF {l : Launch} {κ : mm_K} {d : Nat} {G : mm_G} {K : Int32 → mm_G → Prop} {tb : tb_T} {e : Nat × Nat} (v : Int32) (hS : mF_ G tb e) (h : K (nI 0) G) : mC l κ true d 0 0 m_X13_is [.ref 226, .int v] G (rI K) :=
  e_X13_is _ ⟨fun _ => h, fun y => absurd y hS.ne.1⟩
theorem t_fail {l : Launch} {κ : mm_K} {d : Nat} {G : mm_G} {K : mm_G → Prop} {tb : tb_T} {nt : Option Nat} {t k : Nat} (hk : k = 1 ∨ k = 2) (hS : mP_ G tb nt t) (h : ∀ G', mF_ G' tb (k, t) → fr_ fmr_ G G' → K G') : mC l κ true d 0 0 m_X13_fail [.ref 226, .int (nI k)] G (rV K) := by
  obtain ⟨a3, a1, b1, b2, b3, b4⟩ := hS.rd
  refine e_X13_fail _ ?_
  rw [hS.2.2.2.1, a3, nI_clamp (by omega), b2]
  refine ⟨fun _ => ⟨(ki_vp (by omega)).2 (by omega), h _ ⟨hk, a1, by simp only [mg_i_i, mg_i_l, mg_i_r, mg_i_b, mg_l_i, mg_l_l, mg_l_r, mg_l_b, mg_r_i, mg_r_l, mg_r_r, mg_r_b, false_and, and_false, true_and, and_true, reduceCtorEq, if_true, if_false, reduceIte, Nat.reduceEqDiff, Nat.reduceAdd, Nat.succ_ne_self, ne_eq, not_false_eq_true, not_true_eq_false], by simp only [mg_i_i, mg_i_l, mg_i_r, mg_i_b, mg_l_i, mg_l_l, mg_l_r, mg_l_b, mg_r_i, mg_r_l, mg_r_r, mg_r_b, false_and, and_false, true_and, and_true, reduceCtorEq, if_true, if_false, reduceIte, Nat.reduceEqDiff, Nat.reduceAdd, Nat.succ_ne_self, ne_eq, not_false_eq_true, not_true_eq_false], by simp only [mg_i_i, mg_i_l, mg_i_r, mg_i_b, mg_l_i, mg_l_l, mg_l_r, mg_l_b, mg_r_i, mg_r_l, mg_r_r, mg_r_b, false_and, and_false, true_and, and_true, reduceCtorEq, if_true, if_false, reduceIte, Nat.reduceEqDiff, Nat.reduceAdd, Nat.succ_ne_self, ne_eq, not_false_eq_true, not_true_eq_false]; exact a3⟩ ((fr_.rfl'.si (by decide)).si (by decide))⟩, fun y => absurd (by decide) y⟩
theorem t_failF {l : Launch} {κ : mm_K} {d : Nat} {G : mm_G} {K : mm_G → Prop} {tb : tb_T} {e : Nat × Nat} (v : Int32) (hS : mF_ G tb e) (h : K G) : mC l κ true d 0 0 m_X13_fail [.ref 226, .int v] G (rV K) :=
  e_X13_fail _ ⟨fun y => absurd y hS.ne.2.1, fun _ => h⟩
theorem mP_.step {G : mm_G} {tb : tb_T} {nt : Option Nat} {t : Nat} (h : mP_ G tb nt t) (ht : t < 400) (hk : 2 ≤ tkk_ tb t) : mP_ (ms_i G 226 11 (nI (t + 1))) tb nt (t + 1) := by
  obtain ⟨a1, a2, a3, a4, a5, a6, a7⟩ := h
  exact ⟨by omega, okt_succ a2 hk, by simp only [mg_i_i, mg_i_l, mg_i_r, mg_i_b, mg_l_i, mg_l_l, mg_l_r, mg_l_b, mg_r_i, mg_r_l, mg_r_r, mg_r_b, false_and, and_false, true_and, and_true, reduceCtorEq, if_true, if_false, reduceIte, Nat.reduceEqDiff, Nat.reduceAdd, Nat.succ_ne_self, ne_eq, not_false_eq_true, not_true_eq_false], by simp only [mg_i_i, mg_i_l, mg_i_r, mg_i_b, mg_l_i, mg_l_l, mg_l_r, mg_l_b, mg_r_i, mg_r_l, mg_r_r, mg_r_b, false_and, and_false, true_and, and_true, reduceCtorEq, if_true, if_false, reduceIte, Nat.reduceEqDiff, Nat.reduceAdd, Nat.succ_ne_self, ne_eq, not_false_eq_true, not_true_eq_false]; exact a4, fun j hj ho => by simp only [mg_i_i, mg_i_l, mg_i_r, mg_i_b, mg_l_i, mg_l_l, mg_l_r, mg_l_b, mg_r_i, mg_r_l, mg_r_r, mg_r_b, false_and, and_false, true_and, and_true, reduceCtorEq, if_true, if_false, reduceIte, Nat.reduceEqDiff, Nat.reduceAdd, Nat.succ_ne_self, ne_eq, not_false_eq_true, not_true_eq_false]; exact a5 j hj ho, fun q => by simp only [mg_i_i, mg_i_l, mg_i_r, mg_i_b, mg_l_i, mg_l_l, mg_l_r, mg_l_b, mg_r_i, mg_r_l, mg_r_r, mg_r_b, false_and, and_false, true_and, and_true, reduceCtorEq, if_true, if_false, reduceIte, Nat.reduceEqDiff, Nat.reduceAdd, Nat.succ_ne_self, ne_eq, not_false_eq_true, not_true_eq_false]; exact a6 q, fun j q => by simp only [mg_i_i, mg_i_l, mg_i_r, mg_i_b, mg_l_i, mg_l_l, mg_l_r, mg_l_b, mg_r_i, mg_r_l, mg_r_r, mg_r_b, false_and, and_false, true_and, and_true, reduceCtorEq, if_true, if_false, reduceIte, Nat.reduceEqDiff, Nat.reduceAdd, Nat.succ_ne_self, ne_eq, not_false_eq_true, not_true_eq_false]; exact a7 j q⟩
theorem t_goesOn {l : Launch} {κ : mm_K} {d : Nat} {G : mm_G} {K : mm_G → Prop} {tb : tb_T} {nt : Option Nat} {t : Nat} (hk : 2 ≤ tkk_ tb t) (hS : mP_ G tb nt t) (h1 : ∀ G', ac_ tb (tkk_ tb t) t = .inr (t + 1) → mP_ G' tb nt (t + 1) → fr_ fmr_ G G' → K G') (h0 : ∀ G' e, ac_ tb (tkk_ tb t) t = .inl e → mF_ G' tb e → fr_ fmr_ G G' → K G') : mC l κ true (d + 1) 0 0 m_X13_goesOn [.ref 226] G (rV K) := by
  obtain ⟨a3, a1, b1, b2, b3, b4⟩ := hS.rd
  refine e_X13_goesOn ?_
  rw [a3, nI_eq (by omega) (by omega), nI_add]
  refine ⟨fun y => h1 _ (by unfold ac_; rw [if_pos rfl, if_pos (by omega)]) (hS.step (by omega) hk) (fr_.rfl'.si (by decide)), fun y => t_fail (Or.inr rfl) hS (fun G2 f2 g2 => h0 G2 (2, t) (by unfold ac_; rw [if_pos rfl, if_neg (by omega)]) f2 g2)⟩
theorem t_must {l : Launch} {κ : mm_K} {d : Nat} {G : mm_G} {K : mm_G → Prop} {tb : tb_T} {nt : Option Nat} {t k : Nat} (hT : tg_ tb) (hk2 : 2 ≤ k) (hk : k < 40) (hS : mP_ G tb nt t) (h1 : ∀ G', ac_ tb k t = .inr (t + 1) → tkk_ tb t = k → mP_ G' tb nt (t + 1) → fr_ fmr_ G G' → K G') (h0 : ∀ G' e, ac_ tb k t = .inl e → mF_ G' tb e → fr_ fmr_ G G' → K G') : mC l κ true (d + 2) 0 0 m_X13_must [.ref 226, .int (nI (mkk_ k))] G (rV K) := by
  refine e_X13_must _ (t_is hT hk hS ?_)
  by_cases c : tkk_ tb t = k
  · rw [if_pos c]
    refine ⟨fun y => absurd y (by decide), fun _ => t_goesOn (by omega) hS (fun G2 e2 p2 f2 => h1 G2 (by rw [c] at e2; exact e2) c p2 f2) (fun G2 e e2 p2 f2 => h0 G2 e (by rw [c] at e2; exact e2) p2 f2)⟩
  · rw [if_neg c]
    exact ⟨fun _ => t_fail (Or.inl rfl) hS (fun G2 f2 g2 => h0 G2 (1, t) (by unfold ac_; rw [if_neg c]) f2 g2), fun y => absurd (by decide) y⟩
theorem t_mustF {l : Launch} {κ : mm_K} {d : Nat} {G : mm_G} {K : mm_G → Prop} {tb : tb_T} {e : Nat × Nat} (v : Int32) (hS : mF_ G tb e) (h : K G) : mC l κ true (d + 2) 0 0 m_X13_must [.ref 226, .int v] G (rV K) :=
  e_X13_must _ (t_isF v hS ⟨fun _ => t_failF _ hS h, fun y => absurd (by decide) y⟩)
