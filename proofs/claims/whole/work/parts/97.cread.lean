/-! reading: the component's text -/
def fRd_ (c k : Nat) : Bool := decide (c = 7) || (decide (8 ≤ c) && decide (c ≤ 49) && !(decide (c = 12 ∨ c = 14 ∨ c = 16 ∨ c = 18) && decide (k = 2)))
theorem fRd_iff {c k : Nat} : fRd_ c k = false ↔ (c ≠ 7 ∧ (c < 8 ∨ 49 < c ∨ ((c = 12 ∨ c = 14 ∨ c = 16 ∨ c = 18) ∧ k = 2))) := by
  unfold fRd_
  simp only [Bool.or_eq_false_iff, Bool.and_eq_false_iff, Bool.not_eq_false', Bool.and_eq_true, decide_eq_false_iff_not, decide_eq_true_eq]
  omega
theorem fr_.PRd {G G1 : mm_G} (h : fr_ fP_ G G1) : fr_ fRd_ G G1 := h.mono (fun c k z => by
  have := fRd_iff.1 z
  exact fP_F (by omega))
theorem cTr_.fz {S : Nat → Nat → Bool} {G G1 : mm_G} {tr : tx_T} (h : cTr_ G tr) (hf : fnz_ S G G1) (hn : 285 ≤ mg_n G) (hS : ∀ c k, (c = 20 ∧ k = 4) ∨ (21 ≤ c ∧ c ≤ 48) → S c k = false) : cTr_ G1 tr := by
  obtain ⟨a1, a2, a3⟩ := h
  refine ⟨by rw [hf.i _ _ (by omega) (hS _ _ (by omega))]; exact a1, a2, fun k hk => ⟨?_, (a3 k hk).2⟩⟩
  obtain ⟨b1, b2, b3, b4⟩ := (a3 k hk).1
  refine ⟨by rw [hf.i _ _ (by omega) (hS _ _ (by omega))]; exact b1, fun j hj => by rw [hf.i _ _ (by omega) (hS _ _ (by omega))]; exact b2 j hj, fun q => by rw [hf.i _ _ (by omega) (hS _ _ (by omega))]; exact b3 q, fun g q => ?_⟩
  obtain ⟨d1, ⟨d2, d3, d4⟩, d5⟩ := b4 g q
  exact ⟨by rw [hf.i _ _ (by omega) (hS _ _ (by omega))]; exact d1, ⟨by rw [hf.i _ _ (by omega) (hS _ _ (by omega))]; exact d2, d3, fun j hj => by rw [hf.i _ _ (by omega) (hS _ _ (by omega))]; exact d4 j hj⟩, by rw [hf.i _ _ (by omega) (hS _ _ (by omega))]; exact d5⟩
theorem gz_.fz {S : Nat → Nat → Bool} {G G1 : mm_G} (h : gz_ G) (hf : fnz_ S G G1) (hn : 285 ≤ mg_n G) (hS : ∀ c k, 33 ≤ c → c ≤ 48 → S c k = false) : gz_ G1 := fun k hk => by
  obtain ⟨n, n8, e⟩ := h k hk
  exact ⟨n, n8, by rw [hf.i _ _ (by omega) (hS _ _ (by omega) (by omega))]; exact e⟩
def rdR_ (G : mm_G) (s : rt_T) : Prop := cNm_ G s.2.1 ∧ s.2.1.length = s.1.length ∧ (∀ j, j < s.1.length → ro_ G (12 + 2 * j) (px_at s.1 j)) ∧ cTr_ G s.2.2.1 ∧ (s.2.2.2.2.1 = none → mg_i G 20 5 = nI s.2.2.2.1) ∧ mg_i G 8 4 = nI 0
theorem px_app {p : px_T} {y : List ln_T} {i : Nat} (h : i < p.length) : px_at (p ++ [y]) i = px_at p i := by
  unfold px_at
  rw [List.getD_eq_getElem?_getD, List.getD_eq_getElem?_getD, List.getElem?_append_left h]
theorem px_end {p : px_T} {y : List ln_T} : px_at (p ++ [y]) p.length = y := by
  unfold px_at
  rw [List.getD_eq_getElem?_getD, List.getElem?_append_right (Nat.le_refl _), Nat.sub_self]
  rfl
theorem rdR_.fz {S : Nat → Nat → Bool} {G G1 : mm_G} {s : rt_T} (h : rdR_ G s) (hf : fnz_ S G G1) (hn : 285 ≤ mg_n G) (hS : ∀ c k, 8 ≤ c → c ≠ 49 → S c k = false) : rdR_ G1 s := by
  obtain ⟨a1, a2, a3, a4, a5, a6⟩ := h
  have h4 := a1.2.1
  exact ⟨a1.fz hf hn (fun c k q => hS _ _ (by omega) (by omega)), a2, fun j hj => (a3 j hj).fz hf (by omega) (hS _ _ (by omega) (by omega)) (fun k => hS _ _ (by omega) (by omega)) (fun u k hu _ => hS _ _ (by omega) (by omega)), a4.fz hf hn (fun c k q => hS _ _ (by omega) (by omega)), fun q => by rw [hf.i _ _ (by omega) (hS _ _ (by omega) (by omega))]; exact a5 q, by rw [hf.i _ _ (by omega) (hS _ _ (by omega) (by omega))]; exact a6⟩
theorem nn_nt {nt : Option Nat} {b : Prop} [Decidable b] {j : Nat} (h : (if b then nn_ nt j else nt) = none) : nt = none := by
  by_cases c : b
  · rw [if_pos c] at h; exact absurd h nn_none
  · rw [if_neg c] at h; exact h
theorem plb_nt {L : List (ln_T × Nat)} : ∀ (m : Nat) (nt : Option Nat), plb_ L m nt = none → nt = none
  | 0, _, h => h
  | m + 1, nt, h => by
    rw [plb_succ] at h
    exact nn_nt (plb_nt m _ h)
theorem pls_ok {tb : tb_T} {nms : List Nat} : ∀ (m : Nat) (L : List (ln_T × Nat)) (nt : Option Nat) (t : Nat) (L' : List (ln_T × Nat)) (nt' : Option Nat) (t' : Nat), okt_ tb t → L.length + m = 17 → L.length ≤ 16 → pls_ tb nms m L nt t = .inr (L', nt', t') → okt_ tb t' ∧ t ≤ t' ∧ L'.length ≤ 16 ∧ (nt' = none → nt = none) ∧ ((∀ y ∈ L, ∃ k, 1 ≤ k ∧ k < 1000 ∧ ln_tk y.1 = nI k) → ∀ y ∈ L', ∃ k, 1 ≤ k ∧ k < 1000 ∧ ln_tk y.1 = nI k) ∧ (nt' = none → (∀ y ∈ L, ln_ok nms.length y.1) → ∀ y ∈ L', ln_ok nms.length y.1)
  | 0, L, nt, t, L', nt', t', ho, hl, hl2, h => by omega
  | m + 1, L, nt, t, L', nt', t', ho, hl, hl2, h => by
    unfold pls_ at h
    by_cases c : tkk_ tb t = 7
    · rw [if_pos c] at h
      have h := Sum.inr.inj h
      simp only [Prod.mk.injEq] at h
      obtain ⟨rfl, rfl, rfl⟩ := h
      exact ⟨ho, Nat.le_refl _, hl2, fun q => q, fun q => q, fun _ q => q⟩
    · rw [if_neg c] at h
      obtain ⟨⟨x, lt, nt1, t1⟩, e1, h⟩ := bd_inr h
      obtain ⟨w1, w2, w3, w4, w5, w6, w7, w8⟩ := pln_ok ho e1
      have el : (L ++ [(x, lt)]).length = L.length + 1 := List.length_append
      obtain ⟨v1, v2, v3, v4, v5, v6⟩ := pls_ok m (L ++ [(x, lt)]) nt1 t1 L' nt' t' w4 (by omega) (by omega) h
      refine ⟨v1, by omega, v3, fun q => w6 (v4 q), fun q => v5 (fun y hy => ?_), fun q q2 => v6 q (fun y hy => ?_)⟩
      · rcases List.mem_append.1 hy with z | z
        · exact q y z
        · rw [List.mem_singleton.1 z]; exact w7
      · rcases List.mem_append.1 hy with z | z
        · exact q2 y z
        · rw [List.mem_singleton.1 z]; exact w5 (v4 q)
theorem prw_ok {tb : tb_T} {nms : List Nat} {nt nt' : Option Nat} {t t' nm : Nat} {ls : List ln_T} (ho : okt_ tb t) (h : prw_ tb nms nt t = .inr (ls, nm, nt', t')) : okt_ tb t' ∧ t < t' ∧ t' ≤ 400 ∧ ls.length ≤ 16 ∧ (nt' = none → nt = none) ∧ (nt' = none → ∀ x ∈ ls, ln_ok nms.length x ∧ ∃ k, 1 ≤ k ∧ k < 1000 ∧ ln_tk x = nI k) := by
  unfold prw_ at h
  obtain ⟨t1, e1, h⟩ := bd_inr h
  obtain ⟨rfl, k1, l1⟩ := ac_inr e1
  obtain ⟨t2, e2, h⟩ := bd_inr h
  obtain ⟨rfl, k2, l2⟩ := ac_inr e2
  obtain ⟨t3, e3, h⟩ := bd_inr h
  obtain ⟨rfl, k3, l3⟩ := ac_inr e3
  obtain ⟨⟨L, nt1, t4⟩, e4, h⟩ := bd_inr h
  obtain ⟨t5, e5, h⟩ := bd_inr h
  obtain ⟨rfl, k5, l5⟩ := ac_inr e5
  have k5 : tkk_ tb t4 = 7 := k5
  have l5 : t4 < 400 := l5
  obtain ⟨v1, v2, v3, v4, v5, v6⟩ := pls_ok 17 [] _ _ L nt1 t4 (okt_succ (okt_succ (okt_succ ho (by omega)) (by omega)) (by omega)) rfl (Nat.zero_le _) e4
  have h := Sum.inr.inj h
  simp only [Prod.mk.injEq] at h
  obtain ⟨rfl, rfl, rfl, rfl⟩ := h
  refine ⟨okt_succ v1 (by omega), by omega, by omega, by rw [List.length_map]; exact v3, fun q => nn_nt (v4 (plb_nt _ _ q)), fun q x hx => ?_⟩
  obtain ⟨y, y1, y2⟩ := List.mem_map.1 hx
  rw [← y2]
  exact ⟨v6 (plb_nt _ _ q) (fun y hy => absurd hy List.not_mem_nil) y y1, v5 (fun y hy => absurd hy List.not_mem_nil) y y1⟩
theorem prw_nt {tb : tb_T} {nms : List Nat} {nt nt' : Option Nat} {t t' nm : Nat} {ls : List ln_T} (ho : okt_ tb t) (h : prw_ tb nms nt t = .inr (ls, nm, nt', t')) (q : nt' = none) : nt = none := (prw_ok ho h).2.2.2.2.1 q
theorem s_text {l : Launch} {κ : mm_K} {d : Nat} {G : mm_G} {K : mm_G → Prop} {tb : tb_T} {s0 : rt_T} (hT : tg_ tb) (hs0 : s0 = ([], [], [], 100, none, 0)) (hz : zG_ G) (hn : 285 ≤ mg_n G) (hgz : gz_ G) (hS : cP_ G tb none 0) (hR : rdR_ G s0)
    (h0 : ∀ G' e, pwh_ tb 402 s0 = .inl e → (e.1 = 1 ∨ e.1 = 2) → e.2 ≤ 400 → mg_i G' 7 2 = nI e.1 → mg_i G' 7 3 = nI (tkp_ tb e.2) → fnz_ fRd_ G G' → zG_ G' → gz_ G' → K G')
    (h1 : ∀ G' s, pwh_ tb 402 s0 = .inr s → (s.2.2.2.2.1 = none → mg_i G' 7 2 = nI 0) → (∀ j, s.2.2.2.2.1 = some j → mg_i G' 7 2 = nI (kf_ tb j) ∧ mg_i G' 7 3 = nI (tkp_ tb j)) → rdR_ G' s → fnz_ fRd_ G G' → zG_ G' → gz_ G' → K G') : mV l κ true (d + 6) 64 704 m_X5_readTape 38 [some (.ref 7), some (.int (nI 0))] [] G (rV K) := by
  have zP : ∀ {S : Nat → Nat → Bool} {G1 G2 : mm_G}, 285 ≤ mg_n G1 → zG_ G1 → fr_ S G1 G2 → (∀ c k, 285 ≤ c → S c k = false) → zG_ G2 := fun hn1 h f hq => h.fr f (fun c k hc => hq c k (by omega))
  have HF : ∀ G2 e (v1 : Int32) mc ms, pwh_ tb 402 s0 = .inl e → cF_ G2 tb e → fnz_ fRd_ G G2 → zG_ G2 → 285 ≤ mg_n G2 → gz_ G2 → mV l κ true (d + 6) mc ms m_X5_readTape 38 [some (.ref 7), some (.int v1)] [] G2 (rV K) := by
    intro G2 e v1 mc ms e2 c2 f2 z2 n2 gz2
    have hne := cF_ne c2
    obtain ⟨w1, w2, w3, w4, w5⟩ := c2
    have hK : K (ms_i G2 7 3 (nI (tkp_ tb e.2))) := h0 _ e e2 w1 w2 (by simp only [mg_i_i, mg_i_l, mg_i_r, mg_i_b, mg_l_i, mg_l_l, mg_l_r, mg_l_b, mg_r_i, mg_r_l, mg_r_r, mg_r_b, false_and, and_false, true_and, and_true, reduceCtorEq, if_true, if_false, reduceIte, Nat.reduceEqDiff, Nat.reduceAdd, Nat.succ_ne_self, ne_eq, not_false_eq_true, not_true_eq_false]; exact w3) (by simp only [mg_i_i, mg_i_l, mg_i_r, mg_i_b, mg_l_i, mg_l_l, mg_l_r, mg_l_b, mg_r_i, mg_r_l, mg_r_r, mg_r_b, false_and, and_false, true_and, and_true, reduceCtorEq, if_true, if_false, reduceIte, Nat.reduceEqDiff, Nat.reduceAdd, Nat.succ_ne_self, ne_eq, not_false_eq_true, not_true_eq_false]) (f2.tr2 (T := fun c k => decide (c = 7)) (fr_.rfl'.si (by decide)) (fun c k hc q => ⟨q, decide_eq_false (by have := fRd_iff.1 q; omega)⟩)) (zP (S := fun c k => decide (c = 7)) n2 z2 (fr_.rfl'.si (by decide)) (fun c k hc => decide_eq_false (by omega))) (gz2.fz (S := fun c _ => decide (c = 7)) (fr_.rfl'.si (by decide)).fz n2 (fun c k h1 _ => decide_eq_false (by omega)))
    refine p_X5_readTape_38 _ ?_
    rw [w4, nI_clamp (by omega), w5]
    have hv : vp_in (nI e.2) 401 := (ki_vp (by omega)).2 (by omega)
    exact ⟨fun _ => ⟨hv, fun _ => hK, fun y => absurd y hne⟩, fun _ => ⟨fun _ => ⟨hv, fun _ => hK, fun y => absurd y hne⟩, fun y => absurd y hne⟩⟩
  suffices H : ∀ m i s G1, i + m = 402 → i ≤ s.2.2.2.2.2 → pwh_ tb 402 s0 = pwh_ tb m s → cP_ G1 tb s.2.2.2.2.1 s.2.2.2.2.2 → rdR_ G1 s → zG_ G1 → 285 ≤ mg_n G1 → gz_ G1 → fnz_ fRd_ G G1 → mV l κ true (d + 6) (16 * (4 - s.1.length)) (176 * (4 - s.1.length)) m_X5_readTape 38 [some (.ref 7), some (.int (nI i))] [] G1 (rV K) by
    have hh := H 402 0 s0 G rfl (Nat.zero_le _) rfl (by rw [hs0]; exact hS) hR hz hn hgz fnz_.rfl'
    rw [hs0] at hh
    exact hh
  intro m
  induction m with
  | zero =>
    intro i s G1 hi hit _ c1
    have := c1.1
    omega
  | succ m ih =>
    intro i s G1 hi hit e1 c1 R1 z1 n1 gz1 f1
    obtain ⟨p, nms, tr, fu, nt, t⟩ := s
    have c1 : cP_ G1 tb nt t := c1
    have hit : i ≤ t := hit
    obtain ⟨N1, lp, ro1, T1, fu1, s84⟩ := id R1
    have N1 : cNm_ G1 nms := N1
    have lp : nms.length = p.length := lp
    have ro1 : ∀ j, j < p.length → ro_ G1 (12 + 2 * j) (px_at p j) := ro1
    have T1 : cTr_ G1 tr := T1
    have fu1 : nt = none → mg_i G1 20 5 = nI fu := fu1
    have h4 := N1.2.1
    have h8 := T1.2.1
    obtain ⟨a3, a1, q1, q2, q3⟩ := c1.rd
    have hkd := (hT.1 t a1 c1.2.1).1
    have e1' : pwh_ tb 402 s0 = if tkk_ tb t = 0 then .inr (p, nms, tr, fu, nt, t) else bd_ (pst_ tb (p, nms, tr, fu, nt, t)) (fun s' => pwh_ tb m s') := e1
    have est : pst_ tb (p, nms, tr, fu, nt, t) = if tkk_ tb t = 36 then (if p.length < 4 then bd_ (prw_ tb nms nt t) (fun o => .inr (p ++ [o.1], nms ++ [o.2.1], tr, fu, o.2.2.1, o.2.2.2)) else .inl (2, t)) else if tkk_ tb t = 37 then (if tr.length < 8 then bd_ (ptr_ tb t) (fun o => .inr (p, nms, tr ++ [o.1], fu, nt, o.2)) else .inl (2, t)) else if tkk_ tb t = 39 then bd_ (pfu_ tb nt t) (fun o => .inr (p, nms, tr, o.1, o.2.1, o.2.2)) else .inl (1, t) := rfl
    have F7 : fnz_ fRd_ G1 (ms_i G1 7 2 (nI 1)) := fnz_.rfl'.tr2 (T := fun c k => decide (c = 7)) (fr_.rfl'.si (by decide)) (fun c k hc q => ⟨q, decide_eq_false (by have := fRd_iff.1 q; omega)⟩)
    have Z7 : zG_ (ms_i G1 7 2 (nI 1)) := zP (S := fun c k => decide (c = 7)) n1 z1 (fr_.rfl'.si (by decide)) (fun c k hc => decide_eq_false (by omega))
    -- nothing that may stand there
    have hsyn : ∀ (v : Int32) mc ms, tkk_ tb t ≠ 0 → tkk_ tb t ≠ 36 → tkk_ tb t ≠ 37 → tkk_ tb t ≠ 39 → mV l κ true (d + 6) mc ms m_X5_readTape 38 [some (.ref 7), some (.int v)] [] (ms_i G1 7 2 (nI 1)) (rV K) := fun v mc ms k0 k1 k2 k3 => HF _ (1, t) _ _ _ (by rw [e1', if_neg k0, est, if_neg k1, if_neg k2, if_neg k3]; rfl) (c1.fail (Or.inl rfl)) (f1.trans F7) Z7 n1 (gz1.fz (S := fun c _ => decide (c = 7)) (fr_.rfl'.si (by decide)).fz n1 (fun c k h1 _ => decide_eq_false (by omega)))
    -- a trial
    have htrial : ∀ mc ms, mc = 16 * (4 - p.length) → ms = 176 * (4 - p.length) → tkk_ tb t = 37 → mC l κ true (d + 5) 0 0 m_X5_trialTold [.ref 7] G1 (rI (fun r5 G6 => mV l κ true (d + 6) mc ms m_X5_readTape 38 [some (.ref 7), some (.int (nI (i + 1)))] [] G6 (rV K))) := by
      intro mc ms hmc hms k2
      by_cases c8 : tr.length < 8
      · have Ftr : ∀ {G6 : mm_G}, fr_ (ftr_ tr.length) G1 G6 → fnz_ fRd_ G1 G6 := fun f => (f.mono (T := fRd_) (fun c k q => by
          have := fRd_iff.1 q
          exact ftr_iff.2 (by omega))).fz
        refine s_trial (d := d + 2) hT T1 c8 gz1 c1 (fun G6 x t6 e6 c6 lt6 T6 f6 gz6 => ?_) (fun G6 e e6 c6 f6 gz6 => HF G6 e _ _ _ (by rw [e1', if_neg (by omega), est, if_neg (by omega), if_pos k2, if_pos c8, bd_l _ (bd_l _ e6)]) c6 (f1.trans (Ftr f6)) (zP n1 z1 f6 (fun c k hc => ftr_iff.2 (by omega))) (by rw [f6.1]; exact n1) gz6)
        subst hmc hms
        refine ih (i + 1) (p, nms, tr ++ [x], fu, nt, t6) G6 (by omega) (by show i + 1 ≤ t6; omega) (by rw [e1', if_neg (by omega), est, if_neg (by omega), if_pos k2, if_pos c8, bd_r _ e6]; rfl) c6 ⟨N1.fz f6.fz n1 (fun c k q => ftr_iff.2 (by omega)), lp, fun j (hj : j < p.length) => (ro1 j hj).fz f6.fz (by omega) (ftr_iff.2 (by omega)) (fun k => ftr_iff.2 (by omega)) (fun u k hu _ => ftr_iff.2 (by omega)), T6, fun q => by rw [f6.i _ _ (ftr_iff.2 (by omega))]; exact fu1 q, by rw [f6.i _ _ (ftr_iff.2 (by omega))]; exact s84⟩ (zP n1 z1 f6 (fun c k hc => ftr_iff.2 (by omega))) (by rw [f6.1]; exact n1) gz6 (f1.trans (Ftr f6))
      · refine e_X5_trialTold (d := d + 2) ?_
        rw [T1.1, nI_ltI (by omega) (by omega)]
        refine ⟨fun y => absurd y c8, fun _ => s_refuse (Or.inr rfl) c1 (fun G2 c2 f2 => ⟨Or.inl (by decide), HF G2 (2, t) _ _ _ (by rw [e1', if_neg (by omega), est, if_neg (by omega), if_pos k2, if_neg c8]; rfl) c2 (f1.trans f2.PRd.fz) (zP n1 z1 f2 (fun c k hc => fP_F (by omega))) (by rw [f2.1]; exact n1) (gz1.fz f2.fz n1 (fun c k _ _ => fP_F (by omega)))⟩)⟩
    -- the fuel
    have hfuel : ∀ mc ms, mc = 16 * (4 - p.length) → ms = 176 * (4 - p.length) → tkk_ tb t = 39 → mC l κ true (d + 5) 0 0 m_X5_fuelTold [.ref 7] G1 (rI (fun r5 G6 => mV l κ true (d + 6) mc ms m_X5_readTape 38 [some (.ref 7), some (.int (nI (i + 1)))] [] G6 (rV K))) := by
      intro mc ms hmc hms k2
      have hF : ∀ c k, c ≠ 7 → (c ≠ 20 ∨ k ≠ 5) → (decide (c = 7) || (decide (c = 20) && decide (k = 5))) = false := fun c k z1 z2 => by
        rw [decide_eq_false z1]
        rcases z2 with z2 | z2
        · rw [decide_eq_false z2]; rfl
        · rw [decide_eq_false z2, Bool.and_false]; rfl
      have Ff : ∀ {G6 : mm_G}, fr_ (fun c k => decide (c = 7) || (decide (c = 20) && decide (k = 5))) G1 G6 → fnz_ fRd_ G1 G6 := fun f => (f.mono (T := fRd_) (fun c k q => hF c k (by have := fRd_iff.1 q; omega) (by have := fRd_iff.1 q; omega))).fz
      refine s_fuel (d := d + 4) hT c1 (fun G6 fu' nt' t6 e6 c6 lt6 fu6 f6 => ?_) (fun G6 e e6 c6 f6 => HF G6 e _ _ _ (by rw [e1', if_neg (by omega), est, if_neg (by omega), if_neg (by omega), if_pos k2, bd_l _ (bd_l _ e6)]) c6 (f1.trans (Ff f6)) (zP n1 z1 f6 (fun c k hc => hF c k (by omega) (by omega))) (by rw [f6.1]; exact n1) (gz1.fz f6.fz n1 (fun c k _ _ => hF _ _ (by omega) (by omega))))
      subst hmc hms
      refine ih (i + 1) (p, nms, tr, fu', nt', t6) G6 (by omega) (by show i + 1 ≤ t6; omega) (by rw [e1', if_neg (by omega), est, if_neg (by omega), if_neg (by omega), if_pos k2, bd_r _ e6]; rfl) c6 ⟨N1.fz f6.fz n1 (fun c k q => hF c k (by omega) (by omega)), lp, fun j (hj : j < p.length) => (ro1 j hj).fz f6.fz (by omega) (hF _ _ (by omega) (by omega)) (fun k => hF _ _ (by omega) (by omega)) (fun u k hu _ => hF _ _ (by omega) (by omega)), T1.fz f6.fz n1 (fun c k q => hF _ _ (by omega) (by omega)), fun q => (fu6 q).2.2, by rw [f6.i _ _ (hF _ _ (by omega) (by omega))]; exact s84⟩ (zP n1 z1 f6 (fun c k hc => hF c k (by omega) (by omega))) (by rw [f6.1]; exact n1) (gz1.fz f6.fz n1 (fun c k _ _ => hF _ _ (by omega) (by omega))) (f1.trans (Ff f6))
    -- the text ends
    have hfin : tkk_ tb t = 0 → K (ms_i (ms_i (ms_i G1 7 3 (nI (tkp_ tb t))) 7 2 (mg_i G1 7 8)) 7 3 (mg_i G1 7 9)) := by
      intro k0
      have g7 : fr_ (fun c k => decide (c = 7)) G1 (ms_i (ms_i (ms_i G1 7 3 (nI (tkp_ tb t))) 7 2 (mg_i G1 7 8)) 7 3 (mg_i G1 7 9)) := ((fr_.rfl'.si (by decide)).si (by decide)).si (by decide)
      obtain ⟨u1, u2⟩ := c1.2.2.2.2.2
      refine h1 _ (p, nms, tr, fu, nt, t) (by rw [e1', if_pos k0]) (fun q => ?_) (fun j q => ?_) (R1.fz g7.fz n1 (fun c k hc _ => decide_eq_false (by omega))) (f1.tr2 g7 (fun c k hc q => ⟨q, decide_eq_false (by have := fRd_iff.1 q; omega)⟩)) (zP n1 z1 g7 (fun c k hc => decide_eq_false (by omega))) (gz1.fz g7.fz n1 (fun c k _ _ => decide_eq_false (by omega)))
      · have q : nt = none := q
        simp only [mg_i_i, mg_i_l, mg_i_r, mg_i_b, mg_l_i, mg_l_l, mg_l_r, mg_l_b, mg_r_i, mg_r_l, mg_r_r, mg_r_b, false_and, and_false, true_and, and_true, reduceCtorEq, if_true, if_false, reduceIte, Nat.reduceEqDiff, Nat.reduceAdd, Nat.succ_ne_self, ne_eq, not_false_eq_true, not_true_eq_false]
        exact u1 q
      · have q : nt = some j := q
        obtain ⟨w1, w2, w3⟩ := u2 j q
        simp only [mg_i_i, mg_i_l, mg_i_r, mg_i_b, mg_l_i, mg_l_l, mg_l_r, mg_l_b, mg_r_i, mg_r_l, mg_r_r, mg_r_b, false_and, and_false, true_and, and_true, reduceCtorEq, if_true, if_false, reduceIte, Nat.reduceEqDiff, Nat.reduceAdd, Nat.succ_ne_self, ne_eq, not_false_eq_true, not_true_eq_false]
        exact ⟨w1, w2⟩
    have hk20 : ∀ x : Nat, 20 ≤ x → x < 100 → (nI (tkk_ tb t) - nI 20 = nI (x - 20) ↔ tkk_ tb t = x) := fun x hx hx2 => by
      constructor
      · intro e
        have h2 := congrArg (fun z => z + nI 20) e
        simp only [Int32.sub_add_cancel] at h2
        rw [nI_add, nI_eq (by omega) (by omega)] at h2
        omega
      · intro e
        rw [e, ki_sub (by omega)]
    have e16 := hk20 36 (by omega) (by omega)
    have e17 := hk20 37 (by omega) (by omega)
    have e18 := hk20 38 (by omega) (by omega)
    have e19 := hk20 39 (by omega) (by omega)
    simp only [Nat.reduceSub] at e16 e17 e18 e19
    have htoInt : (nI (tkk_ tb t) - nI 20).toInt = (tkk_ tb t : Int) - 20 := by
      rw [Int32.toInt_sub, nI_toInt (n := tkk_ tb t) (by omega), nI_toInt (n := 20) (by omega)]
      exact Int.bmod_eq_of_le (by omega) (by omega)
    have hv : vp_in (nI t) 401 := (ki_vp (by omega)).2 (by omega)
    by_cases c4 : p.length < 4
    · refine p_X5_readTape_38 _ ?_
      rw [a3, nI_clamp (by omega), q1, q2, c1.2.2.2.1, nI_ltI (by omega) (by omega), nI_add, e16, e17, e18, e19, htoInt, ki_0, nI_eq (a := tkk_ tb t) (by omega) (by omega)]
      refine ⟨fun y => by omega, fun _ => ⟨fun y => absurd rfl y, fun _ => ⟨hv, fun k0 => ⟨hv, fun y => absurd rfl y, fun _ => hfin k0⟩, fun k0 => ⟨hv, fun k1 => ⟨16 * (3 - p.length), 176 * (3 - p.length), (by show 16 * (4 - p.length) = _; omega), (by show 176 * (4 - p.length) = _; omega), ?_⟩, htrial _ _ rfl rfl, fun k1 => hsyn _ _ _ (by omega) (by omega) (by omega) (by omega), hfuel _ _ rfl rfl, fun k1 => hsyn _ _ _ (by omega) (by omega) (by omega) (by omega)⟩⟩⟩⟩
      refine s_row (d := d) hT z1 n1 N1 (by omega) c1 (fun G6 ls nm nt' t6 e6 c6 lt6 N6 r6 f6 z6 => ?_) (fun G6 e e6 c6 f6 z6 => HF G6 e _ _ _ (by rw [e1', if_neg (by omega), est, if_pos k1, if_pos c4, bd_l _ (bd_l _ e6)]) c6 (f1.trans (f6.mono (fun c k hc q => fRw_iff.2 (by have := fRd_iff.1 q; omega)))) z6 (Nat.le_trans n1 f6.1) (gz1.fz f6 n1 (fun c k _ _ => fRw_iff.2 (by omega))))
      have el : (p ++ [ls]).length = p.length + 1 := List.length_append
      have el2 : (nms ++ [nm]).length = nms.length + 1 := List.length_append
      have hh := ih (i + 1) (p ++ [ls], nms ++ [nm], tr, fu, nt', t6) G6 (by omega) (by show i + 1 ≤ t6; omega) (by rw [e1', if_neg (by omega), est, if_pos k1, if_pos c4, bd_r _ e6]; rfl) c6 ⟨N6, by show (nms ++ [nm]).length = (p ++ [ls]).length; omega, fun j hj => ?_, T1.fz f6 n1 (fun c k q => fRw_iff.2 (by omega)), fun q => ?_, by rw [f6.i _ _ (by omega) (fRw_iff.2 (by omega))]; exact s84⟩ z6 (Nat.le_trans n1 f6.1) (gz1.fz f6 n1 (fun c k _ _ => fRw_iff.2 (by omega))) (f1.trans (f6.mono (fun c k hc q => fRw_iff.2 (by have := fRd_iff.1 q; omega))))
      · have e3 : 4 - (p ++ [ls]).length = 3 - p.length := by omega
        have hh : mV l κ true (d + 6) (16 * (4 - (p ++ [ls]).length)) (176 * (4 - (p ++ [ls]).length)) m_X5_readTape 38 [some (.ref 7), some (.int (nI (i + 1)))] [] G6 (rV K) := hh
        rw [e3] at hh
        exact hh
      · have hj : j < (p ++ [ls]).length := hj
        show ro_ G6 (12 + 2 * j) (px_at (p ++ [ls]) j)
        by_cases cj : j = p.length
        · rw [cj, px_end, ← lp]; exact r6
        · rw [px_app (by omega)]
          exact (ro1 j (by omega)).fz f6 (by omega) (fRw_iff.2 (by omega)) (fun k => fRw_iff.2 (by omega)) (fun u k hu _ => fRw_iff.2 (by omega))
      · have q : nt' = none := q
        rw [f6.i _ _ (by omega) (fRw_iff.2 (by omega))]
        exact fu1 (prw_nt c1.2.1 e6 q)
    · refine p_X5_readTape0_38 _ ?_
      rw [a3, nI_clamp (by omega), q1, q2, c1.2.2.2.1, nI_ltI (by omega) (by omega), nI_add, e16, e17, e18, e19, htoInt, ki_0, nI_eq (a := tkk_ tb t) (by omega) (by omega)]
      refine ⟨fun y => by omega, fun _ => ⟨fun y => absurd rfl y, fun _ => ⟨hv, fun k0 => ⟨hv, fun y => absurd rfl y, fun _ => hfin k0⟩, fun k0 => ⟨hv, fun k1 => ?_, htrial _ _ rfl rfl, fun k1 => hsyn _ _ _ (by omega) (by omega) (by omega) (by omega), hfuel _ _ rfl rfl, fun k1 => hsyn _ _ _ (by omega) (by omega) (by omega) (by omega)⟩⟩⟩⟩
      refine e_X5_rowTold0 (d := d) ?_
      rw [N1.1, nI_ltI (by omega) (by omega)]
      refine ⟨fun y => by omega, fun _ => s_refuse (Or.inr rfl) c1 (fun G2 c2 f2 => ⟨Or.inl (by decide), HF G2 (2, t) _ _ _ (by rw [e1', if_neg (by omega), est, if_pos k1, if_neg c4]; rfl) c2 (f1.trans f2.PRd.fz) (zP n1 z1 f2 (fun c k hc => fP_F (by omega))) (by rw [f2.1]; exact n1) (gz1.fz f2.fz n1 (fun c k _ _ => fP_F (by omega)))⟩)⟩
