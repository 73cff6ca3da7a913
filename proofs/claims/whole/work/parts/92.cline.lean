/-! frames where cells are made -/
def fnz_ (S : Nat → Nat → Bool) (G G' : mm_G) : Prop := mg_n G ≤ mg_n G' ∧ ∀ c k, c < mg_n G → S c k = false → mg_i G' c k = mg_i G c k ∧ mg_l G' c k = mg_l G c k ∧ mg_r G' c k = mg_r G c k
theorem fnz_.rfl' {S : Nat → Nat → Bool} {G : mm_G} : fnz_ S G G := ⟨Nat.le_refl _, fun _ _ _ _ => ⟨rfl, rfl, rfl⟩⟩
theorem fnz_.trans {S : Nat → Nat → Bool} {G G1 G2 : mm_G} (h : fnz_ S G G1) (h2 : fnz_ S G1 G2) : fnz_ S G G2 := by
  refine ⟨Nat.le_trans h.1 h2.1, fun c k hc hs => ?_⟩
  obtain ⟨a1, a2, a3⟩ := h.2 c k hc hs
  obtain ⟨b1, b2, b3⟩ := h2.2 c k (Nat.lt_of_lt_of_le hc h.1) hs
  exact ⟨b1.trans a1, b2.trans a2, b3.trans a3⟩
theorem fnz_.mono {S T : Nat → Nat → Bool} {G G1 : mm_G} (h : fnz_ S G G1) (hm : ∀ c k, c < mg_n G → T c k = false → S c k = false) : fnz_ T G G1 := ⟨h.1, fun c k hc hs => h.2 c k hc (hm c k hc hs)⟩
theorem fr_.fz {S : Nat → Nat → Bool} {G G1 : mm_G} (h : fr_ S G G1) : fnz_ S G G1 := ⟨Nat.le_of_eq h.1.symm, fun c k _ hs => h.2 c k hs⟩
theorem fnz_.i {S : Nat → Nat → Bool} {G G1 : mm_G} (h : fnz_ S G G1) (c k : Nat) (hc : c < mg_n G) (hs : S c k = false) : mg_i G1 c k = mg_i G c k := (h.2 c k hc hs).1
theorem fnz_.l {S : Nat → Nat → Bool} {G G1 : mm_G} (h : fnz_ S G G1) (c k : Nat) (hc : c < mg_n G) (hs : S c k = false) : mg_l G1 c k = mg_l G c k := (h.2 c k hc hs).2.1
theorem fnz_.r {S : Nat → Nat → Bool} {G G1 : mm_G} (h : fnz_ S G G1) (c k : Nat) (hc : c < mg_n G) (hs : S c k = false) : mg_r G1 c k = mg_r G c k := (h.2 c k hc hs).2.2
def zG_ (G : mm_G) : Prop := ∀ c k, mg_n G ≤ c → mg_i G c k = nI 0 ∧ mg_l G c k = 0 ∧ mg_r G c k = none
theorem zG_.fr {S : Nat → Nat → Bool} {G G1 : mm_G} (h : zG_ G) (hf : fr_ S G G1) (hS : ∀ c k, mg_n G ≤ c → S c k = false) : zG_ G1 := fun c k hc => by
  rw [hf.1] at hc
  obtain ⟨b1, b2, b3⟩ := h c k hc
  obtain ⟨a1, a2, a3⟩ := hf.2 c k (hS c k hc)
  exact ⟨a1.trans b1, a2.trans b2, a3.trans b3⟩
theorem ro_.fz {S : Nat → Nat → Bool} {G G1 : mm_G} {c : Nat} {ls : List ln_T} (h : ro_ G c ls) (hf : fnz_ S G G1) (hc : c + 1 < mg_n G) (h1 : S c 1 = false) (h2 : ∀ k, S (c + 1) k = false) (h3 : ∀ t k, 285 ≤ t → t < mg_n G → S t k = false) : ro_ G1 c ls := by
  obtain ⟨a1, a2, a3⟩ := h
  refine ⟨by rw [hf.i c 1 (by omega) h1]; exact a1, a2, fun i hi => ?_⟩
  obtain ⟨t, b1, b2, b3, b4⟩ := a3 i hi
  refine ⟨t, by rw [hf.r _ _ hc (h2 i)]; exact b1, b2, Nat.lt_of_lt_of_le b3 hf.1, ?_⟩
  rw [← b4]
  unfold rd_c
  simp only [hf.i t _ b3 (h3 t _ b2 b3), hf.l t _ b3 (h3 t _ b2 b3)]
theorem cNm_.fz {S : Nat → Nat → Bool} {G G1 : mm_G} {nms : List Nat} (h : cNm_ G nms) (hf : fnz_ S G G1) (hn : 285 ≤ mg_n G) (hS : ∀ c k, (c = 8 ∧ k = 1) ∨ ((c = 12 ∨ c = 14 ∨ c = 16 ∨ c = 18) ∧ k = 3) → S c k = false) : cNm_ G1 nms := by
  obtain ⟨a1, a2, a3⟩ := h
  exact ⟨by rw [hf.i _ _ (by omega) (hS _ _ (by omega))]; exact a1, a2, fun i hi => ⟨by rw [hf.l _ _ (by omega) (hS _ _ (by omega))]; exact (a3 i hi).1, (a3 i hi).2⟩⟩
def fLi_ (a i c k : Nat) : Bool := decide (c = 7) || (decide (c = 49) && decide (k = i)) || (decide (c = a) && decide (k = 1)) || decide (c = a + 1)
theorem fLi_iff {a i c k : Nat} : fLi_ a i c k = false ↔ (c ≠ 7 ∧ (c ≠ 49 ∨ k ≠ i) ∧ (c ≠ a ∨ k ≠ 1) ∧ c ≠ a + 1) := by
  unfold fLi_
  simp only [Bool.or_eq_false_iff, Bool.and_eq_false_iff, decide_eq_false_iff_not]
  exact ⟨fun h => ⟨h.1.1.1, h.1.1.2, h.1.2, h.2⟩, fun h => ⟨⟨⟨h.1, h.2.1⟩, h.2.2.1⟩, h.2.2.2⟩⟩
theorem fr_.PLi {a i : Nat} {G G1 : mm_G} (h : fr_ fP_ G G1) : fr_ (fLi_ a i) G G1 := h.mono (fun c k z => by
  have := fLi_iff.1 z
  exact fP_F (by omega))
def f79_ (i c k : Nat) : Bool := decide (c = 7) || (decide (c = 49) && decide (k = i))
theorem f79_iff {i c k : Nat} : f79_ i c k = false ↔ (c ≠ 7 ∧ (c ≠ 49 ∨ k ≠ i)) := by
  unfold f79_
  simp only [Bool.or_eq_false_iff, Bool.and_eq_false_iff, decide_eq_false_iff_not]
theorem fnz_.tr2 {R S T : Nat → Nat → Bool} {G G1 G2 : mm_G} (h : fnz_ S G G1) (h2 : fr_ T G1 G2) (hR : ∀ c k, c < mg_n G → R c k = false → S c k = false ∧ T c k = false) : fnz_ R G G2 := by
  refine ⟨by rw [h2.1]; exact h.1, fun c k hc hs => ?_⟩
  obtain ⟨q1, q2⟩ := hR c k hc hs
  obtain ⟨a1, a2, a3⟩ := h.2 c k hc q1
  obtain ⟨b1, b2, b3⟩ := h2.2 c k q2
  exact ⟨b1.trans a1, b2.trans a2, b3.trans a3⟩
/-- what an order tells -/
theorem ac_inr {tb : tb_T} {k t t' : Nat} (h : ac_ tb k t = .inr t') : t' = t + 1 ∧ tkk_ tb t = k ∧ t < 400 := by
  rcases ac_cases tb k t with ⟨q1, q2, q3⟩ | ⟨q1, q2, q3⟩ | ⟨q1, q3⟩
  · rw [q3] at h
    have := Sum.inr.inj h
    exact ⟨this.symm, q1, q2⟩
  · rw [q3] at h; cases h
  · rw [q3] at h; cases h
theorem bd_inr {α β : Type} {x : re_T α} {f : α → re_T β} {b : β} (h : bd_ x f = .inr b) : ∃ a, x = .inr a ∧ f a = .inr b := by
  cases x with
  | inl e => cases h
  | inr a => exact ⟨a, rfl, h⟩
theorem nu_ok {tb : tb_T} {t t' : Nat} {x : Int32} (ho : okt_ tb t) (h : nu_ tb t = .inr (x, t')) : t < t' ∧ t' ≤ 400 ∧ okt_ tb t' ∧ tkk_ tb (t' - 1) = 3 := by
  unfold nu_ at h
  by_cases c : tkk_ tb t = 8
  · rw [if_pos c] at h
    obtain ⟨t1, e1, h⟩ := bd_inr h
    obtain ⟨t2, e2, h⟩ := bd_inr h
    obtain ⟨rfl, k1, l1⟩ := ac_inr e1
    obtain ⟨rfl, k2, l2⟩ := ac_inr e2
    have h := Sum.inr.inj h
    have e : t + 1 + 1 = t' := congrArg Prod.snd h
    subst e
    exact ⟨by omega, by omega, okt_succ (okt_succ ho (by omega)) (by omega), k2⟩
  · rw [if_neg c] at h
    obtain ⟨t1, e1, h⟩ := bd_inr h
    obtain ⟨rfl, k1, l1⟩ := ac_inr e1
    have h := Sum.inr.inj h
    have e : t + 1 = t' := congrArg Prod.snd h
    subst e
    exact ⟨by omega, by omega, okt_succ ho (by omega), k1⟩
theorem pva_ok {tb : tb_T} {t t' : Nat} {v : Int32 × Int32} (ho : okt_ tb t) (h : pva_ tb t = .inr (v, t')) : ln_okv v ∧ t < t' ∧ t' ≤ 400 ∧ okt_ tb t' ∧ tkk_ tb (t' - 1) ≠ 36 := by
  unfold pva_ at h
  by_cases c : 31 ≤ tkk_ tb t ∧ tkk_ tb t ≤ 34
  · rw [if_pos c] at h
    obtain ⟨t1, e1, h⟩ := bd_inr h
    obtain ⟨rfl, k1, l1⟩ := ac_inr e1
    have h := Sum.inr.inj h
    have e : t + 1 = t' := congrArg Prod.snd h
    have e2 : (nI 1, nI (tkk_ tb t - 31)) = v := congrArg Prod.fst h
    subst e e2
    exact ⟨Or.inr (Or.inl ⟨rfl, tkk_ tb t - 31, by omega, rfl⟩), by omega, by omega, okt_succ ho (by omega), by rw [Nat.add_sub_cancel]; omega⟩
  · rw [if_neg c] at h
    by_cases c2 : tkk_ tb t = 35
    · rw [if_pos c2] at h
      obtain ⟨t1, e1, h⟩ := bd_inr h
      obtain ⟨rfl, k1, l1⟩ := ac_inr e1
      have h := Sum.inr.inj h
      have e : t + 1 = t' := congrArg Prod.snd h
      have e2 : (nI 2, nI 0) = v := congrArg Prod.fst h
      subst e e2
      exact ⟨Or.inr (Or.inr rfl), by omega, by omega, okt_succ ho (by omega), by rw [Nat.add_sub_cancel]; omega⟩
    · rw [if_neg c2] at h
      obtain ⟨⟨x, t1⟩, e1, h⟩ := bd_inr h
      obtain ⟨n1, n2, n3, n4⟩ := nu_ok ho e1
      have h := Sum.inr.inj h
      have e : t1 = t' := congrArg Prod.snd h
      have e2 : (nI 0, x) = v := congrArg Prod.fst h
      subst e e2
      exact ⟨Or.inl rfl, n1, n2, n3, by omega⟩
theorem nn_none {nt : Option Nat} {j : Nat} : nn_ nt j ≠ none := by
  unfold nn_
  cases nt with
  | none => intro h; cases h
  | some i =>
    intro h
    by_cases c : j < i
    · simp only [if_pos c] at h; cases h
    · simp only [if_neg c] at h; cases h
def oo_ (tb : tb_T) (nms : List Nat) (nt nt' : Option Nat) (t t' lt : Nat) (o : ol_T) : Prop := o.1 ≤ 10 ∧ t < t' ∧ (∃ c, c < 4 ∧ o.2.1 = nI c) ∧ ln_okv o.2.2.1 ∧ ln_okv o.2.2.2.1 ∧ (∃ j, j < 4 ∧ o.2.2.2.2.1 = nI j) ∧ (o.1 = 8 → nt' = none → ∃ c, c < nms.length ∧ o.2.2.2.2.2.2 = nI c) ∧ (o.1 = 6 ∨ o.1 = 7 → lt ≤ 400 ∧ okt_ tb lt ∧ kf_ tb lt = 4) ∧ (nt' = none → nt = none)
theorem por_ok {tb : tb_T} {nms : List Nat} {nt nt' : Option Nat} {t t' lt : Nat} {o : ol_T} (ho : okt_ tb t) (h : por_ tb nms nt t = .inr (o, lt, nt', t')) : oo_ tb nms nt nt' t t' lt o := by
  have v0 : ln_okv (nI 0, nI 0) := Or.inl rfl
  have z4 : ∃ c, c < 4 ∧ nI 0 = nI c := ⟨0, by omega, rfl⟩
  unfold por_ at h
  by_cases hk : 20 ≤ tkk_ tb t ∧ tkk_ tb t ≤ 30
  · rw [if_pos hk] at h
    obtain ⟨t1, e1, h⟩ := bd_inr h
    obtain ⟨rfl, k1, l1⟩ := ac_inr e1
    have ho1 : okt_ tb (t + 1) := okt_succ ho (by omega)
    by_cases c1 : tkk_ tb t ≤ 24
    · rw [if_pos c1] at h
      by_cases c2 : 31 ≤ tkk_ tb (t + 1) ∧ tkk_ tb (t + 1) ≤ 34
      · rw [if_pos c2] at h
        obtain ⟨t2, e2, h⟩ := bd_inr h
        obtain ⟨rfl, k2, l2⟩ := ac_inr e2
        obtain ⟨⟨v, t3⟩, e3, h⟩ := bd_inr h
        obtain ⟨n1, n2, n3, n4, n5⟩ := pva_ok (okt_succ ho1 (by omega)) e3
        have h := Sum.inr.inj h
        simp only [Prod.mk.injEq] at h
        obtain ⟨rfl, rfl, rfl, rfl⟩ := h
        exact ⟨by show tkk_ tb t - 20 ≤ 10; omega, by omega, ⟨_, by omega, rfl⟩, n1, v0, z4, fun q => by have q : tkk_ tb t - 20 = 8 := q; omega, fun q => by have q : tkk_ tb t - 20 = 6 ∨ tkk_ tb t - 20 = 7 := q; omega, fun q => q⟩
      · rw [if_neg c2] at h; cases h
    · rw [if_neg c1] at h
      by_cases c2 : tkk_ tb t = 25
      · rw [if_pos c2] at h
        obtain ⟨⟨v, t3⟩, e3, h⟩ := bd_inr h
        obtain ⟨n1, n2, n3, n4, n5⟩ := pva_ok ho1 e3
        have h := Sum.inr.inj h
        simp only [Prod.mk.injEq] at h
        obtain ⟨rfl, rfl, rfl, rfl⟩ := h
        exact ⟨(show (5 : Nat) ≤ 10 by decide), by omega, z4, n1, v0, z4, fun q => absurd (show (5 : Nat) = 8 from q) (by decide), fun q => absurd (show (5 : Nat) = 6 ∨ (5 : Nat) = 7 from q) (by decide), fun q => q⟩
      · rw [if_neg c2] at h
        by_cases c3 : tkk_ tb t = 26
        · rw [if_pos c3] at h
          obtain ⟨t2, e2, h⟩ := bd_inr h
          obtain ⟨rfl, k2, l2⟩ := ac_inr e2
          have h := Sum.inr.inj h
          simp only [Prod.mk.injEq] at h
          obtain ⟨rfl, rfl, rfl, rfl⟩ := h
          exact ⟨(show (6 : Nat) ≤ 10 by decide), by omega, z4, v0, v0, z4, fun q => absurd (show (6 : Nat) = 8 from q) (by decide), fun _ => ⟨by omega, ho1, by unfold kf_; rw [if_neg (by omega), Nat.add_sub_cancel, if_neg (by omega)]⟩, fun q => q⟩
        · rw [if_neg c3] at h
          by_cases c4 : tkk_ tb t = 27
          · rw [if_pos c4] at h
            obtain ⟨⟨v, t3⟩, e3, h⟩ := bd_inr h
            obtain ⟨n1, n2, n3, n4, n5⟩ := pva_ok ho1 e3
            by_cases c5 : 10 ≤ tkk_ tb t3 ∧ tkk_ tb t3 ≤ 13
            · simp only [if_pos c5] at h
              obtain ⟨t4, e4, h⟩ := bd_inr h
              obtain ⟨rfl, k4, l4⟩ := ac_inr e4
              obtain ⟨⟨v', t5⟩, e5, h⟩ := bd_inr h
              obtain ⟨m1, m2, m3, m4, m5⟩ := pva_ok (okt_succ n4 (by omega)) e5
              obtain ⟨t6, e6, h⟩ := bd_inr h
              obtain ⟨rfl, k6, l6⟩ := ac_inr e6
              have k6 : tkk_ tb t5 = 2 := k6
              have h := Sum.inr.inj h
              simp only [Prod.mk.injEq] at h
              obtain ⟨rfl, rfl, rfl, rfl⟩ := h
              exact ⟨(show (7 : Nat) ≤ 10 by decide), by omega, z4, n1, m1, ⟨_, by omega, rfl⟩, fun q => absurd (show (7 : Nat) = 8 from q) (by decide), fun _ => ⟨m3, m4, by unfold kf_; rw [if_neg (by omega), if_neg m5]⟩, fun q => q⟩
            · simp only [if_neg c5] at h; cases h
          · rw [if_neg c4] at h
            by_cases c5 : tkk_ tb t = 28
            · rw [if_pos c5] at h
              obtain ⟨t2, e2, h⟩ := bd_inr h
              obtain ⟨rfl, k2, l2⟩ := ac_inr e2
              have h := Sum.inr.inj h
              simp only [Prod.mk.injEq] at h
              obtain ⟨rfl, rfl, rfl, rfl⟩ := h
              refine ⟨(show (8 : Nat) ≤ 10 by decide), by omega, z4, v0, v0, z4, fun _ q => ?_, fun q => absurd (show (8 : Nat) = 6 ∨ (8 : Nat) = 7 from q) (by decide), fun q => ?_⟩
              · by_cases c6 : fnm_ nms (tkv_ tb (t + 1)) < nms.length
                · exact ⟨_, c6, if_pos c6⟩
                · rw [if_neg c6] at q; exact absurd q nn_none
              · by_cases c6 : fnm_ nms (tkv_ tb (t + 1)) < nms.length
                · rw [if_pos c6] at q; exact q
                · rw [if_neg c6] at q; exact absurd q nn_none
            · rw [if_neg c5] at h
              have h := Sum.inr.inj h
              simp only [Prod.mk.injEq] at h
              obtain ⟨rfl, rfl, rfl, rfl⟩ := h
              exact ⟨by show tkk_ tb t - 20 ≤ 10; omega, by omega, z4, v0, v0, z4, fun q => by have q : tkk_ tb t - 20 = 8 := q; omega, fun q => by have q : tkk_ tb t - 20 = 6 ∨ tkk_ tb t - 20 = 7 := q; omega, fun q => q⟩
  · rw [if_neg hk] at h; cases h
theorem ins_end {ls : List ln_T} {z : ln_T} : ins_ ls ls.length z = ls ++ [z] := by
  unfold ins_
  rw [List.take_length, List.drop_length]
theorem s_line {l : Launch} {κ : mm_K} {d : Nat} {G : mm_G} {K : Int32 → mm_G → Prop} {tb : tb_T} {nms : List Nat} {nt : Option Nat} {t a : Nat} {ls : List ln_T} (hT : tg_ tb) (ha : RowAt a) (ha2 : a = 12 ∨ a = 14 ∨ a = 16 ∨ a = 18) (hz : zG_ G) (hn : 285 ≤ mg_n G) (hN : cNm_ G nms) (hS : cP_ G tb nt t) (hr : ro_ G a ls)
    (h1 : ∀ G' x lt nt' t', pln_ tb nms ls.length nt t = .inr (x, lt, nt', t') → cP_ G' tb nt' t' → t < t' → ro_ G' a (ls ++ [x]) → (ln_or x = nI 6 ∨ ln_or x = nI 7 → mg_i G' 49 ls.length = nI (tkp_ tb lt)) → fnz_ (fLi_ a ls.length) G G' → zG_ G' → K (nI 1) G')
    (h0 : ∀ G' e, pln_ tb nms ls.length nt t = .inl e → cF_ G' tb e → fnz_ (fLi_ a ls.length) G G' → zG_ G' → K (nI 0) G') : mC l κ true (d + 4) 1 11 m_X5_lineTold [.ref 7, .ref a] G (rI K) := by
  obtain ⟨a3, a1, b1, b2, b3⟩ := hS.rd
  have hkd := (hT.1 t a1 hS.2.1).1
  have h16 := hr.2.1
  have zP : ∀ {G1 G2 : mm_G}, 285 ≤ mg_n G1 → zG_ G1 → fr_ fP_ G1 G2 → zG_ G2 := fun hn1 h f => h.fr f (fun c k hc => fP_F (by omega))
  -- behind the name
  have H118 : ∀ G1 t1 (fl : Int32), ls.length < 16 → tkk_ tb t = 2 ∨ (20 ≤ tkk_ tb t ∧ tkk_ tb t ≤ 30) → mg_n G1 = mg_n G + 1 → cP_ G1 tb nt t1 → t ≤ t1 → fnz_ (f79_ ls.length) G G1 → zG_ G1 → mg_l G1 (mg_n G) 0 = (if tkk_ tb t = 2 then lN (tkv_ tb t) else 0) → (if tkk_ tb t = 2 then bd_ (ac_ tb 2 t) (fun t1 => ac_ tb 5 t1) else .inr t) = (.inr t1 : re_T Nat) → mV l κ true (d + 4) 0 0 m_X5_lineTold 118 [some (.ref 7), some (.ref a), some (.int (nI t)), some (.int fl), some (.ref (mg_n G))] [] G1 (rI K) := by
    intro G1 t1 fl hl hk n1 c1 ht1 f1 z1 nm1 e1
    have hro : ∀ G2, fnz_ (f79_ ls.length) G G2 → ro_ G2 a ls := fun G2 f => hr.fz f (by omega) (f79_iff.2 (by omega)) (fun k => f79_iff.2 (by omega)) (fun u k hu _ => f79_iff.2 (by omega))
    have ea1 : mg_i G1 a 1 = nI ls.length := (hro G1 f1).1
    refine p_X5_lineTold_118 a ha _ _ (mg_n G) (ln_At hn) ?_
    rw [ea1]
    have hN1 : cNm_ G1 nms := hN.fz f1 hn (fun c k q => f79_iff.2 (by omega))
    have hp : ∀ {β : Type} (f : Nat → re_T β), bd_ (if tkk_ tb t = 2 then bd_ (ac_ tb 2 t) (fun t1 => ac_ tb 5 t1) else .inr t) f = f t1 := fun f => by rw [e1]; rfl
    refine s_order hT (ln_At hn) hn hl hN1 c1 (fun G2 o lt nt' t' e2 c2 lt2 oc2 lb2 f2 => ⟨fun _ => ?_, fun y => absurd y (by decide)⟩) (fun G2 e e2 c2 f2 => ⟨fun y => absurd (by decide) y, fun _ => ?_⟩)
    · have F2 : fnz_ (f79_ ls.length) G G2 := f1.tr2 f2 (fun c k hc q => by
        have := f79_iff.1 q
        exact ⟨q, fOl_iff.2 (by omega)⟩)
      have z2 : zG_ G2 := z1.fr f2 (fun c k hc => fOl_iff.2 (by omega))
      have n2 : mg_n G2 = mg_n G + 1 := f2.1.trans n1
      have nm2 : mg_l G2 (mg_n G) 0 = (if tkk_ tb t = 2 then lN (tkv_ tb t) else 0) := by rw [f2.l _ _ (fOl_iff.2 (by omega))]; exact nm1
      have e6 : mg_i G2 7 6 = nI t' := c2.2.2.1
      rw [e6, ki_sub (by omega)]
      have fx : fr_ (fun c _ => decide (c = mg_n G)) G2 (ms_i G2 (mg_n G) 2 (nI (t' - t))) := fr_.rfl'.si (decide_eq_true rfl)
      have F3 : fnz_ (f79_ ls.length) G (ms_i G2 (mg_n G) 2 (nI (t' - t))) := F2.tr2 fx (fun c k hc q => ⟨q, decide_eq_false (by omega)⟩)
      have hr3 := hro _ F3
      have z3 : zG_ (ms_i G2 (mg_n G) 2 (nI (t' - t))) := z2.fr fx (fun c k hc => decide_eq_false (by omega))
      rw [hr3.1]
      have hrd : rd_c (ms_i G2 (mg_n G) 2 (nI (t' - t))) (mg_n G) = lm_ (nI (t' - t)) (if tkk_ tb t = 2 then lN (tkv_ tb t) else 0) o := by
        unfold rd_c
        have ek : ∀ k, k ≠ 2 → mg_i (ms_i G2 (mg_n G) 2 (nI (t' - t))) (mg_n G) k = mg_i G2 (mg_n G) k := fun k hk => by rw [mg_i_i, if_neg (by omega)]
        rw [ek 1 (by omega), ek 3 (by omega), ek 4 (by omega), ek 5 (by omega), ek 6 (by omega), ek 7 (by omega), ek 8 (by omega), ek 10 (by omega), mg_i_i, if_pos ⟨rfl, rfl⟩, mg_l_i, mg_l_i, nm2]
        exact oc2 _ _
      refine s_insert ha (by omega) hr3 hl (Nat.le_refl _) hn (by show mg_n G < mg_n G2; omega) hrd (fun G4 r4 f4 => ?_)
      rw [ins_end] at r4
      have c4 : cP_ G4 tb nt' t' := (c2.x hn).fr f4 (fun c k q => fi_F (by omega))
      have z4 : zG_ G4 := z3.fr f4 (fun c k hc => fi_F (by have hc : mg_n G2 ≤ c := hc; omega))
      have F4 : fnz_ (fLi_ a ls.length) G G4 := F3.tr2 f4 (fun c k hc q => by
        have := fLi_iff.1 q
        exact ⟨f79_iff.2 (by omega), fi_F (by omega)⟩)
      have n4 : mg_n G4 = mg_n G + 1 := f4.1.trans n2
      have epl : pln_ tb nms ls.length nt t = bd_ (ac_ tb 4 t') (fun t3 => .inr (lm_ (nI (t' - t)) (if tkk_ tb t = 2 then lN (tkv_ tb t) else 0) o, lt, nt', t3)) := by
        unfold pln_
        rw [if_pos hk, if_pos hl, hp, bd_r _ e2]
      refine s_accept hT (by omega) (by omega) c4 (fun G5 e5 k5 c5 f5 => ⟨Or.inr (by decide), ?_⟩) (fun G5 e e5 c5 f5 => ⟨Or.inl (by decide), h0 G5 e (by rw [epl, bd_l _ e5]) c5 (F4.trans f5.PLi.fz) (zP (by omega) z4 f5)⟩)
      refine h1 G5 _ _ _ _ (by rw [epl, bd_r _ e5]) c5 (by omega) (r4.fz f5.fz (by omega) (fP_F (by omega)) (fun k => fP_F (by omega)) (fun u k hu _ => fP_F (by omega))) (fun q => ?_) (F4.trans f5.PLi.fz) (zP (by omega) z4 f5)
      rw [f5.i _ _ (fP_F (by omega)), f4.i _ _ (fi_F (by omega)), mg_i_i, if_neg (by omega)]
      refine lb2 ?_
      have q : nI o.1 = nI 6 ∨ nI o.1 = nI 7 := q
      have ho := (por_ok c1.2.1 e2).1
      rw [nI_eq (by omega) (by omega), nI_eq (by omega) (by omega)] at q
      exact q
    · refine h0 G2 e (by unfold pln_; rw [if_pos hk, if_pos hl, hp, bd_l _ e2]) c2 (f1.tr2 f2 (fun c k hc q => by
        have := fLi_iff.1 q
        exact ⟨f79_iff.2 (by omega), fOl_iff.2 (by omega)⟩)) (z1.fr f2 (fun c k hc => fOl_iff.2 (by omega)))
  have H55 : ∀ fl : Int32, (fl = nI 1 ∧ tkk_ tb t = 2) ∨ (fl = nI 0 ∧ tkk_ tb t ≠ 2 ∧ 20 ≤ tkk_ tb t ∧ tkk_ tb t ≤ 30) → mV l κ true (d + 4) 1 11 m_X5_lineTold 55 [some (.ref 7), some (.ref a), some (.int (nI t)), some (.int fl), none] [] G (rI K) := by
    intro fl hfl
    have hk : tkk_ tb t = 2 ∨ (20 ≤ tkk_ tb t ∧ tkk_ tb t ≤ 30) := by
      rcases hfl with q | q
      · exact Or.inl q.2
      · exact Or.inr q.2.2
    refine p_X5_lineTold_55 a ha _ _ ?_
    rw [hr.1, nI_ltI (by omega) (by omega)]
    refine ⟨fun y => ⟨0, 0, rfl, rfl, hn, e_X1_init (d := d + 2) (mg_n G) (ln_At hn) ?_⟩, fun y => s_refuse (Or.inr rfl) hS (fun G2 c2 f2 => ⟨Or.inl (by decide), h0 G2 (2, t) (by unfold pln_; rw [if_pos hk, if_neg y]) c2 f2.PLi.fz (zP hn hz f2)⟩)⟩
    have fb : fnz_ (f79_ ls.length) G (mg_b G 1) := ⟨by rw [mg_n_b]; omega, fun c k _ _ => ⟨rfl, rfl, rfl⟩⟩
    have zb : zG_ (mg_b G 1) := fun c k hc => hz c k (by rw [mg_n_b] at hc; omega)
    have cb : cP_ (mg_b G 1) tb nt t := hS
    rcases hfl with ⟨q1, q2⟩ | ⟨q1, q2, q3⟩
    · subst q1
      refine ⟨fun z => absurd z (by decide), fun _ => ?_⟩
      rw [mg_i_b, a3, nI_clamp (by omega), mg_l_b]
      refine ⟨(ki_vp (by omega)).2 (by omega), ?_⟩
      have fl1 : fr_ (fun c _ => decide (c = mg_n G)) (mg_b G 1) (ms_l (mg_b G 1) (mg_n G) 0 (mg_l G 5 t)) := fr_.rfl'.sl (decide_eq_true rfl)
      have F1 : fnz_ (f79_ ls.length) G (ms_l (mg_b G 1) (mg_n G) 0 (mg_l G 5 t)) := fb.tr2 fl1 (fun c k hc q => ⟨q, decide_eq_false (by omega)⟩)
      have Z1 : zG_ (ms_l (mg_b G 1) (mg_n G) 0 (mg_l G 5 t)) := zb.fr fl1 (fun c k hc => decide_eq_false (by rw [mg_n_b] at hc; omega))
      have fP9 : ∀ {G1 G2 : mm_G}, fr_ fP_ G1 G2 → fnz_ (f79_ ls.length) G1 G2 := fun f => (f.mono (T := f79_ ls.length) (fun c k q => by
        have := f79_iff.1 q
        exact fP_F (by omega))).fz
      refine s_accept hT (by omega) (by omega) (cb.xl hn) (fun G2 e2 k2 c2 f2 => ⟨fun z => absurd z (by decide), fun _ => ?_⟩) (fun G2 e e2 c2 f2 => ⟨fun _ => h0 G2 e (by unfold pln_; rw [if_pos hk, if_pos y, if_pos q2, bd_l _ (bd_l _ e2)]) c2 ((F1.mono (fun c k _ q => by
        have := fLi_iff.1 q
        exact f79_iff.2 (by omega))).trans f2.PLi.fz) (zP (by show 285 ≤ mg_n G + 1; omega) Z1 f2), fun z => absurd (by decide) z⟩)
      have n2 : mg_n G2 = mg_n G + 1 := f2.1
      have Z2 := zP (by show 285 ≤ mg_n G + 1; omega) Z1 f2
      have F2 := F1.trans (fP9 f2)
      refine s_accept hT (by omega) (by omega) c2 (fun G3 e3 k3 c3 f3 => ⟨fun _ => ?_, fun z => absurd z (by decide)⟩) (fun G3 e e3 c3 f3 => ⟨fun z => absurd (by decide) z, fun _ => h0 G3 e (by unfold pln_; rw [if_pos hk, if_pos y, if_pos q2, bd_r _ e2, bd_l _ e3]) c3 ((F2.mono (fun c k _ q => by
        have := fLi_iff.1 q
        exact f79_iff.2 (by omega))).trans f3.PLi.fz) (zP (by omega) Z2 f3)⟩)
      refine H118 G3 (t + 1 + 1) _ y hk (f3.1.trans n2) c3 (by omega) (F2.trans (fP9 f3)) (zP (by omega) Z2 f3) ?_ (by rw [if_pos q2, bd_r _ e2, e3])
      rw [if_pos q2, f3.l _ _ (fP_x hn), f2.l _ _ (fP_x hn), mg_l_l, if_pos ⟨rfl, rfl⟩]
      exact b3 (Or.inl q2)
    · subst q1
      refine ⟨fun _ => H118 (mg_b G 1) t _ y hk (mg_n_b G 1) cb (Nat.le_refl _) fb zb ?_ (by rw [if_neg q2]), fun z => absurd (by decide) z⟩
      rw [if_neg q2, mg_l_b]
      exact (hz _ 0 (Nat.le_refl _)).2.1
  refine e_X5_lineTold a ha ?_
  rw [a3, nI_clamp (by omega), b1, nI_eq (by omega) (by omega)]
  refine ⟨(ki_vp (by omega)).2 (by omega), fun y => p_X5_lineTold_27 a ha _ _ ⟨fun z => absurd (by decide) z, fun _ => ?_⟩, fun y => p_X5_lineTold_27 a ha _ _ ⟨fun _ => H55 _ (Or.inl ⟨rfl, y⟩), fun z => absurd z (by decide)⟩⟩
  rw [a3, nI_clamp (by omega), b1]
  refine ⟨(ki_vp (by omega)).2 (by omega), e_X5_isOrder _ ?_⟩
  rw [nI_ltI (by omega) (by omega), nI_ltI (by omega) (by omega)]
  have hno : ¬ (20 ≤ tkk_ tb t ∧ tkk_ tb t ≤ 30) → mC l κ true (d + 3) 0 0 m_X5_refuse [.ref 7, .int (nI 1)] G (rI (fun r1 G2 => (r1 = 0 ∨ r1 = 1) ∧ K r1 G2)) := fun hq => s_refuse (Or.inl rfl) hS (fun G2 c2 f2 => ⟨Or.inl (by decide), h0 G2 (1, t) (by unfold pln_; rw [if_neg (by omega)]) c2 f2.PLi.fz (zP hn hz f2)⟩)
  exact ⟨fun z => ⟨fun z2 => absurd (by decide) z2, fun _ => hno (by omega)⟩, fun z => ⟨fun z3 => ⟨fun z2 => absurd (by decide) z2, fun _ => hno (by omega)⟩, fun z3 => ⟨fun _ => H55 _ (Or.inr ⟨rfl, y, by omega⟩), fun z2 => absurd z2 (by decide)⟩⟩⟩
