/-! reading: the reference's rows -/
theorem nI_nm1 {n : Nat} (h : n < 1000) : ¬ nI n = -1 := fun q => by
  have e := congrArg Int32.toInt q
  rw [nI_toInt (by omega)] at e
  have e1 : (-1 : Int32).toInt = -1 := by decide
  omega
theorem t_fwith {l : Launch} {κ : mm_K} {d : Nat} {G : mm_G} {K : Int32 → mm_G → Prop} {b r : Nat} {ls : List ln_T} (lb : Int64) (hb : b < 2) (hr : r < 4) (hl : ls.length ≤ 16) (e6 : mg_i G 236 (4 * b + r) = nI ls.length) (hn : ∀ i, i < ls.length → mg_l G 246 (64 * b + 16 * r + i) = ln_nm (ln_at ls i)) (h : K (if ru_find lb 0 ls < ls.length then nI (ru_find lb 0 ls) else -1) G) : mC l κ true d 0 0 m_X13_firstWith [.ref 226, .int (nI b), .int (nI r), .long lb] G (rI K) := by
  refine e_X13_firstWith _ _ _ ?_
  have tb0 : ∀ i, (decide (ln_nm (ln_at ls i) = lb) && !(0 : Nat).testBit i) = decide (ln_nm (ln_at ls i) = lb) := fun i => by rw [Nat.zero_testBit]; exact Bool.and_true _
  suffices H : ∀ m i, i + m = ls.length → (∀ j, j < i → (decide (ln_nm (ln_at ls j) = lb) && !(0 : Nat).testBit j) = false) → mV l κ true d 0 0 m_X13_firstWith 3 [some (.ref 226), some (.int (nI b)), some (.int (nI r)), some (.long lb), none, some (.int (nI i))] [] G (rI K) from H _ 0 (Nat.zero_add _) (fun j hj => absurd hj (Nat.not_lt_zero j))
  intro m
  induction m with
  | zero =>
    intro i hi hno
    refine p_X13_firstWith_3 _ _ _ _ ?_
    rw [ki_mul, nI_add, nI_clamp (n := 4 * b + r) (by omega), e6, nI_leI (by omega) (by omega)]
    refine ⟨(ki_vp (by omega)).2 (by omega), fun _ => ?_, fun y => absurd (by omega) y⟩
    have e : ru_find lb 0 ls = ls.length := ff_no (fun j hj => hno j (by omega))
    rw [e, if_neg (Nat.lt_irrefl _)] at h
    exact h
  | succ m ih =>
    intro i hi hno
    refine p_X13_firstWith_3 _ _ _ _ ?_
    rw [ki_mul, ki_mul, ki_mul, nI_add, nI_add, nI_add, nI_add, nI_clamp (n := 4 * b + r) (by omega), nI_clamp (n := 64 * b + 16 * r + i) (by omega), e6, nI_leI (by omega) (by omega), hn i (by omega), ki_0, ki_cmp]
    refine ⟨(ki_vp (by omega)).2 (by omega), fun y => by omega, fun _ => ⟨(ki_vp (by omega)).2 (by omega), fun z => ih (i + 1) (by omega) (fun j hj => ?_), fun z => ?_⟩⟩
    · rcases Nat.lt_succ_iff_lt_or_eq.mp hj with q | q
      · exact hno j q
      · subst q; rw [tb0]; exact decide_eq_false z
    · have e : ru_find lb 0 ls = i := ff_at hno (by rw [tb0]; exact decide_eq_true z) (by omega)
      rw [e, if_pos (show i < ls.length by omega)] at h
      exact h
/-- the lines read so far, and their labels' tokens -/
def rwl_ (G : mm_G) (b r : Nat) (L : List (ln_T × Nat)) : Prop := mg_i G 236 (4 * b + r) = nI L.length ∧ ∀ i, i < L.length → rd_m G (64 * b + 16 * r + i) = (L.getD i (ln_0, 0)).1
def lbm_ (G : mm_G) (tb : tb_T) (L : List (ln_T × Nat)) : Prop := ∀ i, i < L.length → lo_ tb (L.getD i (ln_0, 0)).1 (L.getD i (ln_0, 0)).2 ∧ (ln_or (L.getD i (ln_0, 0)).1 = nI 6 ∨ ln_or (L.getD i (ln_0, 0)).1 = nI 7 → mg_i G 248 i = nI (L.getD i (ln_0, 0)).2) ∧ (¬ (ln_or (L.getD i (ln_0, 0)).1 = nI 6 ∨ ln_or (L.getD i (ln_0, 0)).1 = nI 7) → mg_i G 248 i = -1)
theorem rd_m.at {S : Nat → Nat → Bool} {G G1 : mm_G} {p : Nat} (hf : fr_ S G G1) (hS : ∀ c, 237 ≤ c → c ≤ 247 → S c p = false) : rd_m G1 p = rd_m G p := by
  unfold rd_m
  rw [hf.i 237 _ (hS _ (by omega) (by omega)), hf.i 238 _ (hS _ (by omega) (by omega)), hf.i 239 _ (hS _ (by omega) (by omega)), hf.i 240 _ (hS _ (by omega) (by omega)), hf.i 241 _ (hS _ (by omega) (by omega)), hf.i 242 _ (hS _ (by omega) (by omega)), hf.i 243 _ (hS _ (by omega) (by omega)), hf.i 244 _ (hS _ (by omega) (by omega)), hf.i 245 _ (hS _ (by omega) (by omega)), hf.l 246 _ (hS _ (by omega) (by omega)), hf.l 247 _ (hS _ (by omega) (by omega))]
theorem rwl_.fr {S : Nat → Nat → Bool} {G G1 : mm_G} {b r : Nat} {L : List (ln_T × Nat)} (h : rwl_ G b r L) (hf : fr_ S G G1) (h1 : S 236 (4 * b + r) = false) (h2 : ∀ c i, 237 ≤ c → c ≤ 247 → i < L.length → S c (64 * b + 16 * r + i) = false) : rwl_ G1 b r L :=
  ⟨by rw [hf.i _ _ h1]; exact h.1, fun i hi => by rw [rd_m.at hf (fun c x y => h2 c i x y hi)]; exact h.2 i hi⟩
theorem lbm_.fr {S : Nat → Nat → Bool} {G G1 : mm_G} {tb : tb_T} {L : List (ln_T × Nat)} (h : lbm_ G tb L) (hf : fr_ S G G1) (h1 : ∀ i, i < L.length → S 248 i = false) : lbm_ G1 tb L := fun i hi => by
  obtain ⟨a, b, c⟩ := h i hi
  rw [hf.i _ _ (h1 i hi)]
  exact ⟨a, b, c⟩
theorem L_map {L : List (ln_T × Nat)} {i : Nat} (h : i < L.length) : ln_at (L.map Prod.fst) i = (L.getD i (ln_0, 0)).1 := by
  unfold ln_at
  rw [List.getD_eq_getElem?_getD, List.getD_eq_getElem?_getD, List.getElem?_map, List.getElem?_eq_getElem h]
  rfl
theorem t_labels {l : Launch} {κ : mm_K} {d : Nat} {G : mm_G} {K : mm_G → Prop} {tb : tb_T} {nt : Option Nat} {t b r v : Nat} {L : List (ln_T × Nat)} (hT : tg_ tb) (hb : b < 2) (hr : r < 4) (hv : v ≤ 400) (hl : L.length ≤ 16) (e19 : mg_i G 226 19 = nI b) (hR : rwl_ G b r L) (hB : lbm_ G tb L) (hS : mP_ G tb nt t)
    (h : ∀ G', mP_ G' tb (plb_ L L.length nt) t → fr_ fmr_ G G' → K (ms_i (ms_l G' 235 (4 * b + r) (mg_l G' 232 v)) 234 b (mg_i G' 234 b + nI 1))) : mV l κ true (d + 7) 0 0 m_X13_tellRow 106 [some (.ref 226), some (.int (nI r)), some (.int (nI v)), some (.int (nI 0)), none] [] G (rV K) := by
  suffices H : ∀ m i G1 nt1, i + m = L.length → fr_ fmr_ G G1 → mP_ G1 tb nt1 t → plb_ L L.length nt = plb_ L m nt1 → mV l κ true (d + 7) 0 0 m_X13_tellRow 106 [some (.ref 226), some (.int (nI r)), some (.int (nI v)), some (.int (nI i)), none] [] G1 (rV K) from H _ 0 G nt (Nat.zero_add _) fr_.rfl' hS rfl
  intro m
  induction m with
  | zero =>
    intro i G1 nt1 hi f1 p1 e1
    have R1 : rwl_ G1 b r L := hR.fr f1 (fmr_F (by omega)) (fun c i x y _ => fmr_F (by omega))
    have E19 : mg_i G1 226 19 = nI b := by rw [f1.i _ _ (fmr_F (by omega))]; exact e19
    refine p_X13_tellRow_106 _ _ _ ?_
    rw [E19, ki_mul, nI_add, nI_clamp (n := 4 * b + r) (by omega), nI_clamp (n := b) (by omega), nI_clamp (n := v) (by omega), R1.1, nI_leI (by omega) (by omega)]
    refine ⟨(ki_vp (by omega)).2 (by omega), fun _ => ⟨(ki_vp (by omega)).2 (by omega), (ki_vp (by omega)).2 (by omega), (ki_vp (by omega)).2 (by omega), (ki_vp (by omega)).2 (by omega), h G1 (by rw [e1]; exact p1) f1⟩, fun y => absurd (by omega) y⟩
  | succ m ih =>
    intro i G1 nt1 hi f1 p1 e1
    have R1 : rwl_ G1 b r L := hR.fr f1 (fmr_F (by omega)) (fun c i x y _ => fmr_F (by omega))
    have B1 : lbm_ G1 tb L := hB.fr f1 (fun i _ => fmr_F (by omega))
    have E19 : mg_i G1 226 19 = nI b := by rw [f1.i _ _ (fmr_F (by omega))]; exact e19
    rw [plb_succ, show L.length - (m + 1) = i by omega] at e1
    obtain ⟨b1, b2, b3⟩ := B1 i (by omega)
    refine p_X13_tellRow_106 _ _ _ ?_
    rw [E19, ki_mul, ki_mul, ki_mul, nI_add, nI_add, nI_add, nI_add, nI_clamp (n := 4 * b + r) (by omega), nI_clamp (n := 64 * b + 16 * r + i) (by omega), nI_clamp (n := i) (by omega), R1.1, nI_leI (by omega) (by omega)]
    refine ⟨(ki_vp (by omega)).2 (by omega), fun y => by omega, fun _ => ⟨(ki_vp (by omega)).2 (by omega), fun z => ?_, fun z => ?_⟩⟩
    · by_cases c : ln_or (L.getD i (ln_0, 0)).1 = nI 6 ∨ ln_or (L.getD i (ln_0, 0)).1 = nI 7
      · have := b1 c
        rw [b2 c] at z
        exact absurd z (nI_nm1 (by omega))
      · rw [if_neg (fun q => c q.1)] at e1
        exact ih (i + 1) G1 nt1 (by omega) f1 p1 e1
    · have c : ln_or (L.getD i (ln_0, 0)).1 = nI 6 ∨ ln_or (L.getD i (ln_0, 0)).1 = nI 7 := Decidable.by_contra (fun q => z (b3 q))
      have hx := R1.2 i (by omega)
      have hor : mg_i G1 237 (64 * b + 16 * r + i) = ln_or (L.getD i (ln_0, 0)).1 := by rw [← hx]; rfl
      have hlb : mg_l G1 247 (64 * b + 16 * r + i) = ln_lb (L.getD i (ln_0, 0)).1 := by
        rw [← hx]
        show _ = (if mg_i G1 237 (64 * b + 16 * r + i) = nI 6 ∨ mg_i G1 237 (64 * b + 16 * r + i) = nI 7 then mg_l G1 247 (64 * b + 16 * r + i) else 0)
        rw [if_pos (by rw [hor]; exact c)]
      have hll : (L.map Prod.fst).length = L.length := List.length_map _
      refine ⟨(ki_vp (by omega)).2 (by omega), ?_⟩
      rw [hlb]
      refine t_fwith (ls := L.map Prod.fst) _ hb hr (by omega) (by rw [hll]; exact R1.1) (fun j hj => ?_) ?_
      · rw [L_map (by omega), ← R1.2 j (by omega)]; rfl
      · rw [hll]
        have hle := ru_find_le (ln_lb (L.getD i (ln_0, 0)).1) 0 (L.map Prod.fst)
        by_cases cf : ru_find (ln_lb (L.getD i (ln_0, 0)).1) 0 (L.map Prod.fst) < L.length
        · rw [if_pos cf]
          rw [if_neg (fun q => by omega)] at e1
          exact ⟨fun _ => ih (i + 1) G1 nt1 (by omega) f1 p1 e1, fun y => absurd y (nI_nm1 (by omega))⟩
        · rw [if_neg cf]
          rw [if_pos ⟨c, by omega⟩] at e1
          refine ⟨fun y => absurd rfl y, fun _ => ⟨(ki_vp (by omega)).2 (by omega), ?_⟩⟩
          rw [b2 c]
          obtain ⟨w1, w2, w3⟩ := b1 c
          exact t_wrong hT w1 w2 w3 p1 (fun G4 p4 f4 => ih (i + 1) G4 _ (by omega) (f1.trans f4) p4 e1)
def fRm_ (b r c k : Nat) : Bool := decide ((c = 226 ∧ (k = 11 ∨ k = 13 ∨ k = 14 ∨ k = 15 ∨ k = 16 ∨ k = 41 ∨ k = 42)) ∨ (c = 236 ∧ k = 4 * b + r) ∨ (237 ≤ c ∧ c ≤ 247 ∧ 64 * b + 16 * r ≤ k ∧ k < 64 * b + 16 * r + 16) ∨ c = 248 ∨ (c = 235 ∧ k = 4 * b + r) ∨ (c = 234 ∧ k = b))
theorem fRm_F {b r c k : Nat} (h : ¬ ((c = 226 ∧ (k = 11 ∨ k = 13 ∨ k = 14 ∨ k = 15 ∨ k = 16 ∨ k = 41 ∨ k = 42)) ∨ (c = 236 ∧ k = 4 * b + r) ∨ (237 ≤ c ∧ c ≤ 247 ∧ 64 * b + 16 * r ≤ k ∧ k < 64 * b + 16 * r + 16) ∨ c = 248 ∨ (c = 235 ∧ k = 4 * b + r) ∨ (c = 234 ∧ k = b))) : fRm_ b r c k = false := decide_eq_false h
theorem fRm_T {b r c k : Nat} (h : (c = 226 ∧ (k = 11 ∨ k = 13 ∨ k = 14 ∨ k = 15 ∨ k = 16 ∨ k = 41 ∨ k = 42)) ∨ (c = 236 ∧ k = 4 * b + r) ∨ (237 ≤ c ∧ c ≤ 247 ∧ 64 * b + 16 * r ≤ k ∧ k < 64 * b + 16 * r + 16) ∨ c = 248 ∨ (c = 235 ∧ k = 4 * b + r) ∨ (c = 234 ∧ k = b)) : fRm_ b r c k = true := decide_eq_true h
theorem fr_.rRm {b r : Nat} {G G1 : mm_G} (h : fr_ fmr_ G G1) : fr_ (fRm_ b r) G G1 := h.mono (fun c k q => by
  have := of_decide_eq_false q
  exact fmr_F (by omega))
theorem fr_.LRm {b r n : Nat} {G G1 : mm_G} (hn : n ≤ 16) (h : fr_ (fLn_ b r n) G G1) (h16 : n < 16) : fr_ (fRm_ b r) G G1 := h.mono (fun c k q => by
  have := of_decide_eq_false q
  exact fLn_F (by omega))
theorem t_row66F {l : Launch} {κ : mm_K} {d : Nat} {G : mm_G} {K : mm_G → Prop} {tb : tb_T} {e : Nat × Nat} (v1 v2 : Int32) (hS : mF_ G tb e) (h : K G) : mV l κ true (d + 7) 0 0 m_X13_tellRow 66 [some (.ref 226), some (.int v1), some (.int v2), none, none] [] G (rV K) :=
  p_X13_tellRow_66 _ _ ⟨fun _ => t_mustF (d := d + 4) _ hS ⟨fun y => absurd y hS.ne.2.1, fun _ => h⟩, fun y => absurd y hS.ne.1⟩
theorem t_row66 {l : Launch} {κ : mm_K} {d : Nat} {K : mm_G → Prop} {tb : tb_T} {nms : List Nat} {b r v : Nat} (hT : tg_ tb) (hb : b < 2) (hr : r < 4) (hv : v ≤ 400) : ∀ (m : Nat) (G : mm_G) (L : List (ln_T × Nat)) (nt : Option Nat) (t : Nat), L.length + m = 17 → L.length ≤ 16 → mP_ G tb nt t → mNm_ G b nms → rwl_ G b r L → lbm_ G tb L
    → (∀ G' L' nt' t', pls_ tb nms m L nt t = .inr (L', nt', t') → ac_ tb 7 t' = .inr (t' + 1) → mP_ G' tb (plb_ L' L'.length nt') (t' + 1) → L'.length ≤ 16 → mNm_ G' b nms → rwl_ G' b r L' → fr_ (fRm_ b r) G G' → K (ms_i (ms_l G' 235 (4 * b + r) (mg_l G' 232 v)) 234 b (mg_i G' 234 b + nI 1)))
    → (∀ G' e, (∀ f : (List (ln_T × Nat) × Option Nat × Nat) → Nat → re_T (List ln_T × Nat × Option Nat × Nat), bd_ (pls_ tb nms m L nt t) (fun o => bd_ (ac_ tb 7 o.2.2) (fun t5 => f o t5)) = .inl e) → mF_ G' tb e → fr_ (fRm_ b r) G G' → K G')
    → mV l κ true (d + 7) 0 0 m_X13_tellRow 66 [some (.ref 226), some (.int (nI r)), some (.int (nI v)), none, none] [] G (rV K)
  | 0, G, L, nt, t, hm, hl, hS, hN, hR, hB, h1, h0 => by omega
  | m + 1, G, L, nt, t, hm, hl, hS, hN, hR, hB, h1, h0 => by
    have e8 : nI 8 = nI (mkk_ 7) := rfl
    refine p_X13_tellRow_66 _ _ ⟨fun y => absurd (by rw [hS.2.2.2.1]; decide) y, fun _ => ?_⟩
    rw [e8]
    refine t_is hT (by omega) hS ?_
    by_cases c : tkk_ tb t = 7
    · rw [if_pos c]
      have epl : pls_ tb nms (m + 1) L nt t = .inr (L, nt, t) := by unfold pls_; rw [if_pos c]
      refine ⟨fun _ => t_must (d := d + 4) hT (by omega) (by omega) hS (fun G2 a2 k2 p2 f2 => ⟨fun _ => ?_, fun y => absurd (by rw [p2.2.2.2.1]; decide) y⟩) (fun G2 e a2 p2 f2 => ⟨fun y => absurd y p2.ne.2.1, fun _ => h0 G2 e (fun f => by rw [bd_r _ epl, bd_l _ a2]) p2 f2.rRm⟩), fun y => absurd y (by decide)⟩
      have N2 : mNm_ G2 b nms := hN.fr f2 (fun c k q => fmr_F (by omega))
      have R2 : rwl_ G2 b r L := hR.fr f2 (fmr_F (by omega)) (fun c i x y _ => fmr_F (by omega))
      refine t_labels hT hb hr hv hl N2.1 R2 (hB.fr f2 (fun i _ => fmr_F (by omega))) p2 (fun G3 p3 f3 => ?_)
      exact h1 G3 L nt t epl a2 p3 hl (N2.fr f3 (fun c k q => fmr_F (by omega))) (R2.fr f3 (fmr_F (by omega)) (fun c i x y _ => fmr_F (by omega))) (f2.rRm.trans f3.rRm)
    · rw [if_neg c]
      refine ⟨fun y => absurd (by decide) y, fun _ => ?_⟩
      have epl : pls_ tb nms (m + 1) L nt t = bd_ (pln_ tb nms L.length nt t) (fun o => pls_ tb nms m (L ++ [(o.1, o.2.1)]) o.2.2.1 o.2.2.2) := by
        show (if _ then _ else _) = _
        rw [if_neg c]
      refine t_line (d := d) hT hb hr hl hN hR.1 hS (fun G2 x lt nt' t' a2 p2 y1 y2 y3 y4 f2 => ?_) (fun G2 e a2 p2 f2 => t_row66F _ _ p2 (h0 G2 e (fun f => by rw [epl, bd_l _ (bd_l _ a2)]) p2 ?_))
      · obtain ⟨w1, w2, w3, w4, w5, w6, w7, w8⟩ := pln_ok hS.2.1 a2
        have el : (L ++ [(x, lt)]).length = L.length + 1 := List.length_append
        have ep2 : pls_ tb nms (m + 1) L nt t = pls_ tb nms m (L ++ [(x, lt)]) nt' t' := by rw [epl, bd_r _ a2]
        rw [ep2] at h1 h0
        refine t_row66 hT hb hr hv m G2 (L ++ [(x, lt)]) nt' t' (by omega) (by omega) p2 (hN.fr f2 (fun c k q => fLn_F (by omega))) ⟨by rw [el]; exact y1, fun i hi => ?_⟩ (fun i hi => ?_) (fun G' L' n' u' z1 z2 z3 z4 z5 z6 z7 => h1 G' L' n' u' z1 z2 z3 z4 z5 z6 ((f2.LRm hl w1).trans z7)) (fun G' e z1 z2 z3 => h0 G' e z1 z2 ((f2.LRm hl w1).trans z3))
        · rw [el] at hi
          by_cases ci : i = L.length
          · rw [ci, L_end]; exact y2
          · rw [L_app (by omega), rd_m.at f2 (fun c x y => fLn_F (by omega))]
            exact hR.2 i (by omega)
        · rw [el] at hi
          by_cases ci : i = L.length
          · rw [ci, L_end]; exact ⟨w8, y3, y4⟩
          · rw [L_app (by omega), f2.i _ _ (fLn_F (by omega))]
            exact hB i (by omega)
      · exact f2.mono (fun c k q => by
          have := of_decide_eq_false q
          exact fLn_F (by omega))
