/-! reading: tokens (kind, place, value), and what a text says -/
abbrev tb_T : Type := Nat → Nat × Nat × Nat
def tkk_ (tb : tb_T) (j : Nat) : Nat := (tb j).1
def tkp_ (tb : tb_T) (j : Nat) : Nat := (tb j).2.1
def tkv_ (tb : tb_T) (j : Nat) : Nat := (tb j).2.2
def okt_ (tb : tb_T) (t : Nat) : Prop := ∀ i, i < t → 2 ≤ tkk_ tb i
def tg_ (tb : tb_T) : Prop := (∀ j, j ≤ 400 → okt_ tb j → tkk_ tb j < 40 ∧ tkp_ tb j ≤ 2000 ∧ (tkk_ tb j = 3 → tkv_ tb j < 10000) ∧ (tkk_ tb j = 2 → 0 < tkv_ tb j ∧ tkv_ tb j < 2 ^ 62)) ∧ ∀ i j, i < j → j ≤ 400 → okt_ tb j → tkp_ tb i < tkp_ tb j
/-- a fault (kind, token), or an answer -/
abbrev re_T (α : Type) : Type := Sum (Nat × Nat) α
def bd_ {α β : Type} (x : re_T α) (f : α → re_T β) : re_T β := match x with
  | .inl e => .inl e
  | .inr a => f a
theorem bd_l {α β : Type} {x : re_T α} {e : Nat × Nat} (f : α → re_T β) (h : x = .inl e) : bd_ x f = .inl e := by rw [h]; rfl
theorem bd_r {α β : Type} {x : re_T α} {a : α} (f : α → re_T β) (h : x = .inr a) : bd_ x f = f a := by rw [h]; rfl
def ac_ (tb : tb_T) (k t : Nat) : re_T Nat := if tkk_ tb t = k then (if t < 400 then .inr (t + 1) else .inl (2, t)) else .inl (1, t)
def nu_ (tb : tb_T) (t : Nat) : re_T (Int32 × Nat) := if tkk_ tb t = 8 then bd_ (ac_ tb 8 t) (fun t1 => bd_ (ac_ tb 3 t1) (fun t2 => .inr (-(nI (tkv_ tb t1)), t2))) else bd_ (ac_ tb 3 t) (fun t1 => .inr (nI (tkv_ tb t), t1))
def pva_ (tb : tb_T) (t : Nat) : re_T ((Int32 × Int32) × Nat) :=
  if 31 ≤ tkk_ tb t ∧ tkk_ tb t ≤ 34 then bd_ (ac_ tb (tkk_ tb t) t) (fun t1 => .inr ((nI 1, nI (tkk_ tb t - 31)), t1))
  else if tkk_ tb t = 35 then bd_ (ac_ tb 35 t) (fun t1 => .inr ((nI 2, nI 0), t1))
  else bd_ (nu_ tb t) (fun p => .inr ((nI 0, p.1), p.2))
/-! the token of the first fault that is neither syntax nor room; its kind is told by the token -/
def kf_ (tb : tb_T) (j : Nat) : Nat := if tkk_ tb j = 3 then 5 else if tkk_ tb (j - 1) = 36 then 3 else 4
def nn_ (nt : Option Nat) (j : Nat) : Option Nat := match nt with
  | none => some j
  | some i => if j < i then some j else some i
def fnm_ (nms : List Nat) (v : Nat) : Nat := fa_first (fun i => decide (nms.getD i 0 = v)) nms.length
/-- an order: its number, counter, values, test, label, called row -/
abbrev ol_T : Type := Nat × Int32 × (Int32 × Int32) × (Int32 × Int32) × Int32 × Int64 × Int32
def lm_ (tk : Int32) (nm : Int64) (x : ol_T) : ln_T := (nI x.1, tk, nm, x.2.1, x.2.2.1, x.2.2.2.1, x.2.2.2.2.1, x.2.2.2.2.2.1, x.2.2.2.2.2.2)
/-- what an order says: the order, the label's token, the noted fault, and the token behind it -/
def por_ (tb : tb_T) (nms : List Nat) (nt : Option Nat) (t : Nat) : re_T (ol_T × Nat × Option Nat × Nat) :=
  if 20 ≤ tkk_ tb t ∧ tkk_ tb t ≤ 30 then
    bd_ (ac_ tb (tkk_ tb t) t) (fun t1 =>
      if tkk_ tb t ≤ 24 then (if 31 ≤ tkk_ tb t1 ∧ tkk_ tb t1 ≤ 34 then bd_ (ac_ tb (tkk_ tb t1) t1) (fun t2 => bd_ (pva_ tb t2) (fun p => .inr ((tkk_ tb t - 20, nI (tkk_ tb t1 - 31), p.1, (nI 0, nI 0), nI 0, 0, nI 0), 0, nt, p.2))) else .inl (1, t1))
      else if tkk_ tb t = 25 then bd_ (pva_ tb t1) (fun p => .inr ((5, nI 0, p.1, (nI 0, nI 0), nI 0, 0, nI 0), 0, nt, p.2))
      else if tkk_ tb t = 26 then bd_ (ac_ tb 2 t1) (fun t2 => .inr ((6, nI 0, (nI 0, nI 0), (nI 0, nI 0), nI 0, lN (tkv_ tb t1), nI 0), t1, nt, t2))
      else if tkk_ tb t = 27 then bd_ (pva_ tb t1) (fun p => if 10 ≤ tkk_ tb p.2 ∧ tkk_ tb p.2 ≤ 13 then bd_ (ac_ tb (tkk_ tb p.2) p.2) (fun t3 => bd_ (pva_ tb t3) (fun q => bd_ (ac_ tb 2 q.2) (fun t5 => .inr ((7, nI 0, p.1, q.1, nI (tkk_ tb p.2 - 10), lN (tkv_ tb q.2), nI 0), q.2, nt, t5)))) else .inl (1, p.2))
      else if tkk_ tb t = 28 then bd_ (ac_ tb 2 t1) (fun t2 => .inr ((8, nI 0, (nI 0, nI 0), (nI 0, nI 0), nI 0, 0, if fnm_ nms (tkv_ tb t1) < nms.length then nI (fnm_ nms (tkv_ tb t1)) else -1), 0, (if fnm_ nms (tkv_ tb t1) < nms.length then nt else nn_ nt t1), t2))
      else .inr ((tkk_ tb t - 20, nI 0, (nI 0, nI 0), (nI 0, nI 0), nI 0, 0, nI 0), 0, nt, t1))
  else .inl (1, t)
/-- a line: the line, the label's token, the noted fault, the token behind it -/
def pln_ (tb : tb_T) (nms : List Nat) (n : Nat) (nt : Option Nat) (t : Nat) : re_T (ln_T × Nat × Option Nat × Nat) :=
  if tkk_ tb t = 2 ∨ (20 ≤ tkk_ tb t ∧ tkk_ tb t ≤ 30) then
    if n < 16 then
      bd_ (if tkk_ tb t = 2 then bd_ (ac_ tb 2 t) (fun t1 => ac_ tb 5 t1) else .inr t) (fun t1 => bd_ (por_ tb nms nt t1) (fun o => bd_ (ac_ tb 4 o.2.2.2) (fun t3 => .inr (lm_ (nI (o.2.2.2 - t)) (if tkk_ tb t = 2 then lN (tkv_ tb t) else 0) o.1, o.2.1, o.2.2.1, t3))))
    else .inl (2, t)
  else .inl (1, t)
/-- the lines of a row, each with its label's token -/
def pls_ (tb : tb_T) (nms : List Nat) : Nat → List (ln_T × Nat) → Option Nat → Nat → re_T (List (ln_T × Nat) × Option Nat × Nat)
  | 0, _, _, t => .inl (2, t)
  | m + 1, ls, nt, t => if tkk_ tb t = 7 then .inr (ls, nt, t) else bd_ (pln_ tb nms ls.length nt t) (fun o => pls_ tb nms m (ls ++ [(o.1, o.2.1)]) o.2.2.1 o.2.2.2)
/-- labels that no line has -/
def plb_ (ls : List (ln_T × Nat)) : Nat → Option Nat → Option Nat
  | 0, nt => nt
  | m + 1, nt => plb_ ls m (match ls.getD (ls.length - (m + 1)) (ln_0, 0) with
    | (x, lt) => if (ln_or x = nI 6 ∨ ln_or x = nI 7) ∧ ru_find (ln_lb x) 0 (ls.map Prod.fst) = ls.length then nn_ nt lt else nt)
/-- a row: its lines, its name, the noted fault, the token behind it -/
def prw_ (tb : tb_T) (nms : List Nat) (nt : Option Nat) (t : Nat) : re_T (List ln_T × Nat × Option Nat × Nat) :=
  bd_ (ac_ tb 36 t) (fun t1 => bd_ (ac_ tb 2 t1) (fun t2 => bd_ (ac_ tb 6 t2) (fun t3 => bd_ (pls_ tb nms 17 [] (if fnm_ nms (tkv_ tb t1) < nms.length then nn_ nt t1 else nt) t3) (fun o => bd_ (ac_ tb 7 o.2.2) (fun t5 => .inr (o.1.map Prod.fst, tkv_ tb t1, plb_ o.1 o.1.length o.2.1, t5))))))
/-- numbers, as many as there is room for -/
def pnm_ (tb : tb_T) (N : Nat) : Nat → List Int32 → Nat → re_T (List Int32 × Nat)
  | 0, _, t => .inl (2, t)
  | m + 1, xs, t => if tkk_ tb t = 3 ∨ tkk_ tb t = 8 then (if xs.length < N then bd_ (nu_ tb t) (fun p => pnm_ tb N m (xs ++ [p.1]) p.2) else .inl (2, t)) else .inr (xs, t)
def ptr_ (tb : tb_T) (t : Nat) : re_T ((List Int32 × Option (List Int32)) × Nat) :=
  bd_ (ac_ tb 37 t) (fun t1 => bd_ (pnm_ tb 6 7 [] t1) (fun p => bd_ (if tkk_ tb p.2 = 38 then bd_ (ac_ tb 38 p.2) (fun t3 => bd_ (pnm_ tb 8 9 [] t3) (fun q => .inr (some q.1, q.2))) else .inr (none, p.2)) (fun q => bd_ (ac_ tb 4 q.2) (fun t5 => .inr ((p.1, q.1), t5)))))
def pfu_ (tb : tb_T) (nt : Option Nat) (t : Nat) : re_T (Nat × Option Nat × Nat) :=
  bd_ (ac_ tb 39 t) (fun t1 => bd_ (ac_ tb 3 t1) (fun t2 => bd_ (ac_ tb 4 t2) (fun t3 => .inr (tkv_ tb t1, (if 1 ≤ tkv_ tb t1 ∧ tkv_ tb t1 ≤ 300 then nt else nn_ nt t1), t3))))
/-! the whole text: rows, names, trials, fuel, the noted fault, the token -/
abbrev rt_T : Type := px_T × List Nat × tx_T × Nat × Option Nat × Nat
def pst_ (tb : tb_T) (s : rt_T) : re_T rt_T := match s with
  | (p, nms, tr, fu, nt, t) =>
    if tkk_ tb t = 36 then (if p.length < 4 then bd_ (prw_ tb nms nt t) (fun o => .inr (p ++ [o.1], nms ++ [o.2.1], tr, fu, o.2.2.1, o.2.2.2)) else .inl (2, t))
    else if tkk_ tb t = 37 then (if tr.length < 8 then bd_ (ptr_ tb t) (fun o => .inr (p, nms, tr ++ [o.1], fu, nt, o.2)) else .inl (2, t))
    else if tkk_ tb t = 39 then bd_ (pfu_ tb nt t) (fun o => .inr (p, nms, tr, o.1, o.2.1, o.2.2))
    else .inl (1, t)
def pwh_ (tb : tb_T) : Nat → rt_T → re_T rt_T
  | 0, s => .inl (2, s.2.2.2.2.2)
  | m + 1, s => if tkk_ tb s.2.2.2.2.2 = 0 then .inr s else bd_ (pst_ tb s) (fun s' => pwh_ tb m s')
/-! accepting moves on -/
theorem ac_cases (tb : tb_T) (k t : Nat) : (tkk_ tb t = k ∧ t < 400 ∧ ac_ tb k t = .inr (t + 1)) ∨ (tkk_ tb t = k ∧ ¬ t < 400 ∧ ac_ tb k t = .inl (2, t)) ∨ (tkk_ tb t ≠ k ∧ ac_ tb k t = .inl (1, t)) := by
  unfold ac_
  by_cases c : tkk_ tb t = k
  · by_cases c2 : t < 400
    · exact Or.inl ⟨c, c2, by rw [if_pos c, if_pos c2]⟩
    · exact Or.inr (Or.inl ⟨c, c2, by rw [if_pos c, if_neg c2]⟩)
  · exact Or.inr (Or.inr ⟨c, by rw [if_neg c]⟩)
theorem okt_succ {tb : tb_T} {t : Nat} (h : okt_ tb t) (hk : 2 ≤ tkk_ tb t) : okt_ tb (t + 1) := fun i hi => by
  rcases Nat.lt_succ_iff_lt_or_eq.mp hi with q | q
  · exact h i q
  · subst q; exact hk
theorem okt_le {tb : tb_T} {t u : Nat} (h : okt_ tb t) (hu : u ≤ t) : okt_ tb u := fun i hi => h i (by omega)
/-! the component's reader -/
def cTk_ (G : mm_G) (tb : tb_T) : Prop := ∀ j, j ≤ 400 → okt_ tb j → mg_i G 3 j = nI (tkk_ tb j) ∧ mg_i G 4 j = nI (tkp_ tb j) ∧ (tkk_ tb j = 2 ∨ tkk_ tb j = 3 → mg_l G 5 j = lN (tkv_ tb j))
def cNt_ (G : mm_G) (tb : tb_T) (nt : Option Nat) : Prop := (nt = none → mg_i G 7 8 = nI 0) ∧ ∀ j, nt = some j → mg_i G 7 8 = nI (kf_ tb j) ∧ mg_i G 7 9 = nI (tkp_ tb j) ∧ j ≤ 400 ∧ okt_ tb j
def cP_ (G : mm_G) (tb : tb_T) (nt : Option Nat) (t : Nat) : Prop := t ≤ 400 ∧ okt_ tb t ∧ mg_i G 7 6 = nI t ∧ mg_i G 7 2 = nI 0 ∧ cTk_ G tb ∧ cNt_ G tb nt
def cF_ (G : mm_G) (tb : tb_T) (e : Nat × Nat) : Prop := (e.1 = 1 ∨ e.1 = 2) ∧ e.2 ≤ 400 ∧ mg_i G 7 2 = nI e.1 ∧ mg_i G 7 6 = nI e.2 ∧ mg_i G 4 e.2 = nI (tkp_ tb e.2)
theorem cTk_.fr {S : Nat → Nat → Bool} {G G1 : mm_G} {tb : tb_T} (h : cTk_ G tb) (hf : fr_ S G G1) (hS : ∀ c k, (c = 3 ∨ c = 4 ∨ c = 5) → S c k = false) : cTk_ G1 tb := fun j hj ho => by
  obtain ⟨a1, a2, a3⟩ := h j hj ho
  exact ⟨by rw [hf.i _ _ (hS _ _ (by omega))]; exact a1, by rw [hf.i _ _ (hS _ _ (by omega))]; exact a2, fun q => by rw [hf.l _ _ (hS _ _ (by omega))]; exact a3 q⟩
theorem cP_.fr {S : Nat → Nat → Bool} {G G1 : mm_G} {tb : tb_T} {nt : Option Nat} {t : Nat} (h : cP_ G tb nt t) (hf : fr_ S G G1) (hS : ∀ c k, (c = 3 ∨ c = 4 ∨ c = 5 ∨ (c = 7 ∧ k ≠ 7)) → S c k = false) : cP_ G1 tb nt t := by
  obtain ⟨a1, a2, a3, a4, a5, a6, a7⟩ := h
  refine ⟨a1, a2, by rw [hf.i _ _ (hS _ _ (by omega))]; exact a3, by rw [hf.i _ _ (hS _ _ (by omega))]; exact a4, a5.fr hf (fun c k q => hS c k (by omega)), fun q => by rw [hf.i _ _ (hS _ _ (by omega))]; exact a6 q, fun j q => ?_⟩
  obtain ⟨b1, b2, b3⟩ := a7 j q
  exact ⟨by rw [hf.i _ _ (hS _ _ (by omega))]; exact b1, by rw [hf.i _ _ (hS _ _ (by omega))]; exact b2, b3⟩
theorem cF_.fr {S : Nat → Nat → Bool} {G G1 : mm_G} {tb : tb_T} {e : Nat × Nat} (h : cF_ G tb e) (hf : fr_ S G G1) (hS : ∀ c k, (c = 4 ∨ (c = 7 ∧ k ≠ 7)) → S c k = false) : cF_ G1 tb e := by
  obtain ⟨a1, a2, a3, a4, a5⟩ := h
  exact ⟨a1, a2, by rw [hf.i _ _ (hS _ _ (by omega))]; exact a3, by rw [hf.i _ _ (hS _ _ (by omega))]; exact a4, by rw [hf.i _ _ (hS _ _ (by omega))]; exact a5⟩
def fP_ (c k : Nat) : Bool := decide (c = 7) && !decide (k = 7)
theorem fP_F {c k : Nat} (h : c ≠ 7 ∨ k = 7) : fP_ c k = false := by
  unfold fP_
  rcases h with z | z
  · rw [decide_eq_false z]; rfl
  · rw [decide_eq_true z, Bool.not_true, Bool.and_false]
theorem fP_T {k : Nat} (h : k ≠ 7) : fP_ 7 k = true := by
  unfold fP_
  rw [decide_eq_false h]
  rfl
theorem cP_.fail {G : mm_G} {tb : tb_T} {nt : Option Nat} {t k : Nat} (h : cP_ G tb nt t) (hk : k = 1 ∨ k = 2) : cF_ (ms_i G 7 2 (nI k)) tb (k, t) := by
  obtain ⟨a1, a2, a3, a4, a5, a6, a7⟩ := h
  exact ⟨hk, a1, by simp only [mg_i_i, mg_i_l, mg_i_r, mg_i_b, mg_l_i, mg_l_l, mg_l_r, mg_l_b, mg_r_i, mg_r_l, mg_r_r, mg_r_b, false_and, and_false, true_and, and_true, reduceCtorEq, if_true, if_false, reduceIte, Nat.reduceEqDiff, Nat.reduceAdd, Nat.succ_ne_self, ne_eq, not_false_eq_true, not_true_eq_false], by simp only [mg_i_i, mg_i_l, mg_i_r, mg_i_b, mg_l_i, mg_l_l, mg_l_r, mg_l_b, mg_r_i, mg_r_l, mg_r_r, mg_r_b, false_and, and_false, true_and, and_true, reduceCtorEq, if_true, if_false, reduceIte, Nat.reduceEqDiff, Nat.reduceAdd, Nat.succ_ne_self, ne_eq, not_false_eq_true, not_true_eq_false]; exact a3, by simp only [mg_i_i, mg_i_l, mg_i_r, mg_i_b, mg_l_i, mg_l_l, mg_l_r, mg_l_b, mg_r_i, mg_r_l, mg_r_r, mg_r_b, false_and, and_false, true_and, and_true, reduceCtorEq, if_true, if_false, reduceIte, Nat.reduceEqDiff, Nat.reduceAdd, Nat.succ_ne_self, ne_eq, not_false_eq_true, not_true_eq_false]; exact (a5 t a1 a2).2.1⟩
theorem cP_.step {G : mm_G} {tb : tb_T} {nt : Option Nat} {t : Nat} (h : cP_ G tb nt t) (ht : t < 400) (hk : 2 ≤ tkk_ tb t) : cP_ (ms_i G 7 6 (nI (t + 1))) tb nt (t + 1) := by
  obtain ⟨a1, a2, a3, a4, a5, a6, a7⟩ := h
  refine ⟨by omega, okt_succ a2 hk, by simp only [mg_i_i, mg_i_l, mg_i_r, mg_i_b, mg_l_i, mg_l_l, mg_l_r, mg_l_b, mg_r_i, mg_r_l, mg_r_r, mg_r_b, false_and, and_false, true_and, and_true, reduceCtorEq, if_true, if_false, reduceIte, Nat.reduceEqDiff, Nat.reduceAdd, Nat.succ_ne_self, ne_eq, not_false_eq_true, not_true_eq_false], by simp only [mg_i_i, mg_i_l, mg_i_r, mg_i_b, mg_l_i, mg_l_l, mg_l_r, mg_l_b, mg_r_i, mg_r_l, mg_r_r, mg_r_b, false_and, and_false, true_and, and_true, reduceCtorEq, if_true, if_false, reduceIte, Nat.reduceEqDiff, Nat.reduceAdd, Nat.succ_ne_self, ne_eq, not_false_eq_true, not_true_eq_false]; exact a4, fun j hj ho => by simp only [mg_i_i, mg_i_l, mg_i_r, mg_i_b, mg_l_i, mg_l_l, mg_l_r, mg_l_b, mg_r_i, mg_r_l, mg_r_r, mg_r_b, false_and, and_false, true_and, and_true, reduceCtorEq, if_true, if_false, reduceIte, Nat.reduceEqDiff, Nat.reduceAdd, Nat.succ_ne_self, ne_eq, not_false_eq_true, not_true_eq_false]; exact a5 j hj ho, fun q => by simp only [mg_i_i, mg_i_l, mg_i_r, mg_i_b, mg_l_i, mg_l_l, mg_l_r, mg_l_b, mg_r_i, mg_r_l, mg_r_r, mg_r_b, false_and, and_false, true_and, and_true, reduceCtorEq, if_true, if_false, reduceIte, Nat.reduceEqDiff, Nat.reduceAdd, Nat.succ_ne_self, ne_eq, not_false_eq_true, not_true_eq_false]; exact a6 q, fun j q => by simp only [mg_i_i, mg_i_l, mg_i_r, mg_i_b, mg_l_i, mg_l_l, mg_l_r, mg_l_b, mg_r_i, mg_r_l, mg_r_r, mg_r_b, false_and, and_false, true_and, and_true, reduceCtorEq, if_true, if_false, reduceIte, Nat.reduceEqDiff, Nat.reduceAdd, Nat.succ_ne_self, ne_eq, not_false_eq_true, not_true_eq_false]; exact a7 j q⟩
theorem s_accept {l : Launch} {κ : mm_K} {d : Nat} {G : mm_G} {K : Int32 → mm_G → Prop} {tb : tb_T} {nt : Option Nat} {t k : Nat} (hT : tg_ tb) (hk2 : 2 ≤ k) (hk : k < 100) (hS : cP_ G tb nt t)
    (h1 : ∀ G', ac_ tb k t = .inr (t + 1) → tkk_ tb t = k → cP_ G' tb nt (t + 1) → fr_ fP_ G G' → K (nI 1) G') (h0 : ∀ G' e, ac_ tb k t = .inl e → cF_ G' tb e → fr_ fP_ G G' → K (nI 0) G') : mC l κ true d 0 0 m_X5_accept [.ref 7, .int (nI k)] G (rI K) := by
  obtain ⟨a1, a2, a3, a4, a5, a6⟩ := id hS
  have hkd := (hT.1 t a1 a2).1
  refine e_X5_accept _ ?_
  rw [a3, nI_clamp (by omega), (a5 t a1 a2).1, nI_eq (by omega) (by omega), nI_ltI (by omega) (by omega), nI_add, a4]
  refine ⟨(ki_vp (by omega)).2 (by omega), fun z => ⟨fun z2 => ⟨fun y => absurd (by decide) y, fun _ => ?_⟩, fun z2 => ⟨fun _ => ?_, fun y => absurd y (by decide)⟩⟩, fun z => ⟨fun _ => ?_, fun y => absurd y (by decide)⟩⟩
  · exact h1 _ (by unfold ac_; rw [if_pos z, if_pos z2]) z (hS.step z2 (by omega)) (fr_.rfl'.si (fP_T (by omega)))
  · exact h0 _ (2, t) (by unfold ac_; rw [if_pos z, if_neg z2]) (hS.fail (Or.inr rfl)) (fr_.rfl'.si (fP_T (by omega)))
  · exact h0 _ (1, t) (by unfold ac_; rw [if_neg z]) (hS.fail (Or.inl rfl)) (fr_.rfl'.si (fP_T (by omega)))
theorem s_refuse {l : Launch} {κ : mm_K} {d : Nat} {G : mm_G} {K : Int32 → mm_G → Prop} {tb : tb_T} {nt : Option Nat} {t k : Nat} (hk : k = 1 ∨ k = 2) (hS : cP_ G tb nt t) (h0 : ∀ G', cF_ G' tb (k, t) → fr_ fP_ G G' → K (nI 0) G') : mC l κ true d 0 0 m_X5_refuse [.ref 7, .int (nI k)] G (rI K) :=
  e_X5_refuse _ (h0 _ (hS.fail hk) (fr_.rfl'.si (fP_T (by omega))))
theorem kf_le {tb : tb_T} {j : Nat} : 3 ≤ kf_ tb j ∧ kf_ tb j ≤ 5 := by
  unfold kf_
  split
  · omega
  · split <;> omega
theorem s_note {l : Launch} {κ : mm_K} {d : Nat} {G : mm_G} {K : mm_G → Prop} {tb : tb_T} {nt : Option Nat} {t j k : Nat} (hT : tg_ tb) (hj : j ≤ 400) (ho : okt_ tb j) (hk : kf_ tb j = k) (hS : cP_ G tb nt t) (h : ∀ G', cP_ G' tb (nn_ nt j) t → fr_ fP_ G G' → K G') : mC l κ true d 0 0 m_X5_note [.ref 7, .int (nI k), .int (nI (tkp_ tb j))] G (rV K) := by
  obtain ⟨a1, a2, a3, a4, a5, a6, a7⟩ := id hS
  have hp := (hT.1 j hj ho).2.1
  refine e_X5_note _ _ ?_
  have hset : cP_ (ms_i (ms_i G 7 8 (nI k)) 7 9 (nI (tkp_ tb j))) tb (some j) t := by
    refine ⟨a1, a2, by simp only [mg_i_i, mg_i_l, mg_i_r, mg_i_b, mg_l_i, mg_l_l, mg_l_r, mg_l_b, mg_r_i, mg_r_l, mg_r_r, mg_r_b, false_and, and_false, true_and, and_true, reduceCtorEq, if_true, if_false, reduceIte, Nat.reduceEqDiff, Nat.reduceAdd, Nat.succ_ne_self, ne_eq, not_false_eq_true, not_true_eq_false]; exact a3, by simp only [mg_i_i, mg_i_l, mg_i_r, mg_i_b, mg_l_i, mg_l_l, mg_l_r, mg_l_b, mg_r_i, mg_r_l, mg_r_r, mg_r_b, false_and, and_false, true_and, and_true, reduceCtorEq, if_true, if_false, reduceIte, Nat.reduceEqDiff, Nat.reduceAdd, Nat.succ_ne_self, ne_eq, not_false_eq_true, not_true_eq_false]; exact a4, fun i hi h => by simp only [mg_i_i, mg_i_l, mg_i_r, mg_i_b, mg_l_i, mg_l_l, mg_l_r, mg_l_b, mg_r_i, mg_r_l, mg_r_r, mg_r_b, false_and, and_false, true_and, and_true, reduceCtorEq, if_true, if_false, reduceIte, Nat.reduceEqDiff, Nat.reduceAdd, Nat.succ_ne_self, ne_eq, not_false_eq_true, not_true_eq_false]; exact a5 i hi h, fun q => (by cases q), fun i q => ?_⟩
    cases q
    exact ⟨by simp only [mg_i_i, mg_i_l, mg_i_r, mg_i_b, mg_l_i, mg_l_l, mg_l_r, mg_l_b, mg_r_i, mg_r_l, mg_r_r, mg_r_b, false_and, and_false, true_and, and_true, reduceCtorEq, if_true, if_false, reduceIte, Nat.reduceEqDiff, Nat.reduceAdd, Nat.succ_ne_self, ne_eq, not_false_eq_true, not_true_eq_false]; rw [hk], by simp only [mg_i_i, mg_i_l, mg_i_r, mg_i_b, mg_l_i, mg_l_l, mg_l_r, mg_l_b, mg_r_i, mg_r_l, mg_r_r, mg_r_b, false_and, and_false, true_and, and_true, reduceCtorEq, if_true, if_false, reduceIte, Nat.reduceEqDiff, Nat.reduceAdd, Nat.succ_ne_self, ne_eq, not_false_eq_true, not_true_eq_false], hj, ho⟩
  have f1 : fr_ fP_ G (ms_i (ms_i G 7 8 (nI k)) 7 9 (nI (tkp_ tb j))) := (fr_.rfl'.si (fP_T (by omega))).si (fP_T (by omega))
  cases nt with
  | none =>
    rw [a6 rfl]
    exact ⟨fun _ => h _ hset f1, fun y => absurd (by decide) y⟩
  | some i =>
    obtain ⟨b1, b2, b3, b4⟩ := a7 i rfl
    have hpi := (hT.1 i b3 b4).2.1
    have hkf := kf_le (tb := tb) (j := i)
    rw [b1, b2, ki_0, nI_eq (by omega) (by omega), nI_leI (by omega) (by omega)]
    refine ⟨fun y => by omega, fun _ => ⟨fun y => ?_, fun y => ?_⟩⟩
    · have hn : ¬ j < i := fun q => by have := hT.2 j i q b3 b4; omega
      have e : nn_ (some i) j = some i := if_neg hn
      rw [e] at h
      exact h G hS fr_.rfl'
    · have hn : j < i := by
        rcases Nat.lt_trichotomy j i with q | q | q
        · exact q
        · subst q; omega
        · have := hT.2 i j q hj ho; omega
      have e : nn_ (some i) j = some j := if_pos hn
      rw [e] at h
      exact h _ hset f1
