/-! reading: a text without fault is in order -/
theorem px_over {p : px_T} {j : Nat} (h : p.length ≤ j) : px_at p j = [] := by
  unfold px_at
  rw [List.getD_eq_getElem?_getD, List.getElem?_eq_none h]
  rfl
theorem tx_over {t : tx_T} {j : Nat} (h : t.length ≤ j) : t.getD j ([], none) = ([], none) := by
  rw [List.getD_eq_getElem?_getD, List.getElem?_eq_none h]
  rfl
def rok_ (tb : tb_T) (s : rt_T) : Prop := okt_ tb s.2.2.2.2.2 ∧ s.2.1.length = s.1.length ∧ s.1.length ≤ 4 ∧ (∀ j, (px_at s.1 j).length ≤ 16) ∧ (s.2.2.2.2.1 = none → ∀ j, j < s.1.length → ∀ x ∈ px_at s.1 j, ln_ok j x ∧ ∃ k, 1 ≤ k ∧ k < 1000 ∧ ln_tk x = nI k) ∧ tx_ok s.2.2.1 ∧ (s.2.2.2.2.1 = none → s.2.2.2.1 ≤ 300)
theorem pst_ok {tb : tb_T} {s s' : rt_T} (hs : rok_ tb s) (h : pst_ tb s = .inr s') : rok_ tb s' := by
  obtain ⟨p, nms, tr, fu, nt, t⟩ := s
  obtain ⟨a1, a2, a3, a4, a5, a6, a7⟩ := hs
  have a1 : okt_ tb t := a1
  have a2 : nms.length = p.length := a2
  have a3 : p.length ≤ 4 := a3
  have a4 : ∀ j, (px_at p j).length ≤ 16 := a4
  have a5 : nt = none → ∀ j, j < p.length → ∀ x ∈ px_at p j, ln_ok j x ∧ ∃ k, 1 ≤ k ∧ k < 1000 ∧ ln_tk x = nI k := a5
  have a6 : tx_ok tr := a6
  have a7 : nt = none → fu ≤ 300 := a7
  unfold pst_ at h
  simp only [] at h
  by_cases c1 : tkk_ tb t = 36
  · rw [if_pos c1] at h
    by_cases c2 : p.length < 4
    · rw [if_pos c2] at h
      obtain ⟨⟨ls, nm, nt', t'⟩, e1, h⟩ := bd_inr h
      obtain ⟨w1, w2, w3, w4, w5, w6⟩ := prw_ok a1 e1
      have h := Sum.inr.inj h
      subst h
      have el : (p ++ [ls]).length = p.length + 1 := List.length_append
      have el2 : (nms ++ [nm]).length = nms.length + 1 := List.length_append
      refine ⟨w1, by show (nms ++ [nm]).length = (p ++ [ls]).length; omega, by show (p ++ [ls]).length ≤ 4; omega, fun j => ?_, fun q j hj x hx => ?_, a6, fun q => a7 (w5 q)⟩
      · show (px_at (p ++ [ls]) j).length ≤ 16
        rcases Nat.lt_trichotomy j p.length with z | z | z
        · rw [px_app z]; exact a4 j
        · rw [z, px_end]; exact w4
        · rw [px_over (by omega)]; exact Nat.zero_le _
      · have hj : j < (p ++ [ls]).length := hj
        have hx : x ∈ px_at (p ++ [ls]) j := hx
        by_cases z : j = p.length
        · rw [z, px_end] at hx
          have := w6 q x hx
          rw [a2] at this
          rw [z]
          exact this
        · rw [px_app (by omega)] at hx
          exact a5 (w5 q) j (by omega) x hx
    · rw [if_neg c2] at h; cases h
  · rw [if_neg c1] at h
    by_cases c2 : tkk_ tb t = 37
    · rw [if_pos c2] at h
      by_cases c3 : tr.length < 8
      · rw [if_pos c3] at h
        obtain ⟨⟨x, t'⟩, e1, h⟩ := bd_inr h
        obtain ⟨w1, w2, w3⟩ := ptr_ok a1 e1
        have h := Sum.inr.inj h
        subst h
        have el : (tr ++ [x]).length = tr.length + 1 := List.length_append
        refine ⟨w1, a2, a3, a4, a5, ⟨by show (tr ++ [x]).length ≤ 8; omega, fun k => ?_⟩, a7⟩
        show ((tr ++ [x]).getD k ([], none)).1.length ≤ 6 ∧ ∀ g, ((tr ++ [x]).getD k ([], none)).2 = some g → g.length ≤ 8
        rcases Nat.lt_trichotomy k tr.length with z | z | z
        · rw [tx_app z]; exact a6.2 k
        · rw [z, tx_end]; exact ⟨w2, w3⟩
        · rw [tx_over (by omega)]; exact ⟨Nat.zero_le _, fun g q => (by cases q)⟩
      · rw [if_neg c3] at h; cases h
    · rw [if_neg c2] at h
      by_cases c3 : tkk_ tb t = 39
      · rw [if_pos c3] at h
        obtain ⟨⟨fu', nt', t'⟩, e1, h⟩ := bd_inr h
        obtain ⟨w1, w2⟩ := pfu_ok a1 e1
        have h := Sum.inr.inj h
        subst h
        exact ⟨w1, a2, a3, a4, fun q => a5 (w2 q).1, a6, fun q => (w2 q).2⟩
      · rw [if_neg c3] at h; cases h
theorem pwh_ok {tb : tb_T} : ∀ (m : Nat) (s s' : rt_T), rok_ tb s → pwh_ tb m s = .inr s' → rok_ tb s'
  | 0, s, s', _, h => by cases h
  | m + 1, s, s', hs, h => by
    unfold pwh_ at h
    by_cases c : tkk_ tb s.2.2.2.2.2 = 0
    · rw [if_pos c] at h
      have h := Sum.inr.inj h
      subst h
      exact hs
    · rw [if_neg c] at h
      obtain ⟨s1, e1, h⟩ := bd_inr h
      exact pwh_ok m s1 s' (pst_ok hs e1) h
def rs0_ : rt_T := ([], [], [], 100, none, 0)
def rdw_ (P : ps_T) : re_T rt_T := pwh_ (tbb_ (ps_b P)) 402 rs0_
theorem rs0_ok {tb : tb_T} : rok_ tb rs0_ := by
  refine ⟨fun i hi => absurd hi (Nat.not_lt_zero i), rfl, Nat.zero_le _, fun j => ?_, fun _ j hj => absurd hj (Nat.not_lt_zero j), ⟨Nat.zero_le _, fun k => ?_⟩, fun _ => (by decide : 100 ≤ 300)⟩
  · show (px_at [] j).length ≤ 16
    rw [px_over (Nat.zero_le _)]; exact Nat.zero_le _
  · show (([] : tx_T).getD k ([], none)).1.length ≤ 6 ∧ ∀ g, (([] : tx_T).getD k ([], none)).2 = some g → g.length ≤ 8
    rw [tx_over (Nat.zero_le _)]; exact ⟨Nat.zero_le _, fun g q => (by cases q)⟩
/-! read: the answer, and the state behind it -/
def wfl_ (P : ps_T) (pl : Nat) : ps_T := (ps_p P, ps_t P, ps_f P, ps_n P, ps_s P, [], nI pl)
def wnw_ (s : rt_T) : ps_T := (s.1, s.2.2.1, s.2.2.2.1, (0, []), fun _ => none, [], -1)
def an_read (P : ps_T) : Int32 := match rdw_ P with
  | .inl e => nI e.1
  | .inr s => match s.2.2.2.2.1 with
    | some j => nI (kf_ (tbb_ (ps_b P)) j)
    | none => nI 0
def st_read (P : ps_T) : ps_T := match rdw_ P with
  | .inl e => wfl_ P (tkp_ (tbb_ (ps_b P)) e.2)
  | .inr s => match s.2.2.2.2.1 with
    | some j => wfl_ P (tkp_ (tbb_ (ps_b P)) j)
    | none => wnw_ s
theorem wfl_ok {P : ps_T} (pl : Nat) (h : ps_ok P) : ps_ok (wfl_ P pl) := by
  obtain ⟨a1, a2, a3, a4, a5, a6, a7⟩ := h
  exact ⟨a1, a2, a3, a4, a5, Nat.zero_le _, fun j hj => absurd hj (Nat.not_lt_zero j)⟩
theorem st_read_ok {P : ps_T} (h : ps_ok P) : ps_ok (st_read P) := by
  unfold st_read
  cases e : rdw_ P with
  | inl q => exact wfl_ok _ h
  | inr s =>
    have hr := pwh_ok 402 rs0_ s rs0_ok e
    simp only []
    cases e2 : s.2.2.2.2.1 with
    | some j => exact wfl_ok _ h
    | none =>
      obtain ⟨a1, a2, a3, a4, a5, a6, a7⟩ := hr
      exact ⟨⟨a3, a5 e2, a4⟩, a6, a7 e2, ⟨Nat.zero_le _, fun q => absurd rfl q, fun k hk => absurd hk (Nat.not_lt_zero k)⟩, fun i p s q => (by cases q), Nat.zero_le _, fun j hj => absurd hj (Nat.not_lt_zero j)⟩
