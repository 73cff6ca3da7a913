/-! rows sought: the component -/
def fs_ (c k : Nat) : Bool := fc_ c k || decide (c = 172) || decide (c = 173) || decide (c = 174)
theorem fs_F {c k : Nat} (h : (c < 91 ∨ 97 < c) ∧ (c < 172 ∨ 174 < c)) : fs_ c k = false := by
  unfold fs_
  rw [fc_F h.1]
  simp
  omega
theorem fr_.cs {G G1 : mm_G} (h : fr_ fc_ G G1) : fr_ fs_ G G1 := h.mono (fun c k q => by unfold fs_ at q; simp only [Bool.or_eq_false_iff] at q; exact q.1.1.1)
theorem fs_on {c k : Nat} (h : rgB c k = true) : fs_ c k = false := fs_F (by have := rgB_iff.1 h; omega)
theorem cB_.fs {G G1 : mm_G} {P : ps_T} (h : cB_ G P) (hP : ps_ok P) (hf : fr_ fs_ G G1) : cB_ G1 P := h.on hP (hf.on (fun c k q => fs_on q)) (by rw [hf.1]; exact Nat.le_refl _)
/-- the candidate stands there -/
def kc_ (G : mm_G) (ls : List ln_T) (r n : Nat) (f : Nat → Nat) : Prop := ro_ G 173 (cf_ ls n f) ∧ mg_i G 173 2 = nI r ∧ ∀ i, i < n → mg_i G 172 i = nI (f i)
theorem kc_.fc {G G1 : mm_G} {ls : List ln_T} {r n : Nat} {f : Nat → Nat} (h : kc_ G ls r n f) (hf : fr_ fc_ G G1) : kc_ G1 ls r n f := ⟨h.1.fc hf (by omega), by rw [hf.i _ _ (fc_F (by omega))]; exact h.2.1, fun i hi => by rw [hf.i _ _ (fc_F (by omega))]; exact h.2.2 i hi⟩
theorem s_suffices {l : Launch} {κ : mm_K} {d : Nat} {G : mm_G} {K : Int32 → mm_G → Prop} {P : ps_T} {r m n : Nat} {f : Nat → Nat} (hP : ps_ok P) (hC : cB_ G P) (hr : r < (ps_p P).length) (hm : m ≤ 1) (hn : n ≤ 5) (hd : ∀ i, i < n → f i < (px_at (ps_p P) r).length) (hk : kc_ G (px_at (ps_p P) r) r n f)
    (h : ∀ G', fr_ fc_ G G' → (sk_ok P (cf_ (px_at (ps_p P) r) n f) r m n = false → mg_i G' 91 5 + nI 1 = nI (sq_ P (cf_ (px_at (ps_p P) r) n f) r m n) ∧ sq_ P (cf_ (px_at (ps_p P) r) n f) r m n ≤ n) → K (if sk_ok P (cf_ (px_at (ps_p P) r) n f) r m n then nI 1 else nI 0) G') : mC l κ true (d + 4) 0 0 m_X8_suffices [.ref 171, .int (nI m)] G (rI K) := by
  have hx : ∀ x ∈ cf_ (px_at (ps_p P) r) n f, ln_ok r x := fun x hq => px_ok hP hr x (cf_mem hd hq)
  have hlen := cf_len (px_at (ps_p P) r) n f
  -- a run that fails
  have hfail : ∀ i G1, i < sn_ m n → (∀ q, q < i → (!dt_ P (cf_ (px_at (ps_p P) r) n f) r (sl_ q)) = false) → dt_ P (cf_ (px_at (ps_p P) r) n f) r (sl_ i) = false → fr_ fc_ G G1 → mg_i G1 91 5 + nI 1 = nI (dq_ P (cf_ (px_at (ps_p P) r) n f) r (sl_ i)) → dq_ P (cf_ (px_at (ps_p P) r) n f) r (sl_ i) ≤ n → K (nI 0) G1 := by
    intro i G1 hi hno hF f1 e5 e6
    have hsf : sf_ P (cf_ (px_at (ps_p P) r) n f) r m n = i := ff_at hno (by rw [hF]; rfl) hi
    have hF2 : sk_ok P (cf_ (px_at (ps_p P) r) n f) r m n = false := decide_eq_false (by rw [hsf]; omega)
    have hk := h G1 f1 (fun _ => by unfold sq_; rw [hsf]; exact ⟨e5, e6⟩)
    rw [hF2] at hk
    exact hk
  have hall : ∀ G1, fr_ fc_ G G1 → (∀ q, q < sn_ m n → (!dt_ P (cf_ (px_at (ps_p P) r) n f) r (sl_ q)) = false) → K (nI 1) G1 := by
    intro G1 f1 hno
    have hT : sk_ok P (cf_ (px_at (ps_p P) r) n f) r m n = true := decide_eq_true (ff_no hno)
    have hk := h G1 f1 (fun y => by rw [hT] at y; cases y)
    rw [hT] at hk
    exact hk
  refine e_X8_suffices _ (s_table hP hC hr (by decide) hk.1 hk.2.1 hx (by decide) (fun G1 f1 e1 => ?_))
  rw [hlen] at e1
  cases c0 : dt_ P (cf_ (px_at (ps_p P) r) n f) r 0 with
  | false =>
    refine ⟨fun y => absurd rfl y, fun _ => ?_⟩
    obtain ⟨e5, e6⟩ := e1 c0
    exact hfail 0 G1 (by unfold sn_; split <;> omega) (fun q hq => absurd hq (Nat.not_lt_zero q)) c0 f1 e5 e6
  | true =>
    refine ⟨fun _ => ?_, fun y => absurd y (by decide)⟩
    suffices H : ∀ w i G2, i + w = n → fr_ fc_ G G2 → (∀ q, q < i + 1 → (!dt_ P (cf_ (px_at (ps_p P) r) n f) r (sl_ q)) = false) → mV l κ true (d + 4) 0 0 m_X8_suffices 16 [some (.ref 171), some (.int (nI m)), some (.int (nI i))] [] G2 (rI K) by
      refine H n 0 G1 (Nat.zero_add _) f1 (fun q hq => ?_)
      obtain rfl : q = 0 := by omega
      show (!dt_ P (cf_ (px_at (ps_p P) r) n f) r 0) = false
      rw [c0]
      rfl
    intro w
    induction w with
    | zero =>
      intro i G2 hi f2 hno
      have h173 : mg_i G2 173 1 = nI n := by
        have := ((hk.fc f2).1).1
        rw [hlen] at this
        exact this
      refine p_X8_suffices_16 _ _ ⟨fun _ => hall G2 f2 (fun q hq => hno q (by unfold sn_ at hq; split at hq <;> omega)), fun y => absurd (by rw [h173]; exact nI_le (by omega) (by omega)) y⟩
    | succ w ih =>
      intro i G2 hi f2 hno
      have hk2 := hk.fc f2
      have h173 : mg_i G2 173 1 = nI n := by
        have := hk2.1.1
        rw [hlen] at this
        exact this
      have hC2 := hC.on hP (f2.on (fun c k q => fc_on q)) (by rw [f2.1]; exact Nat.le_refl _)
      refine p_X8_suffices_16 _ _ ⟨fun y => absurd y (by rw [h173]; exact nI_ge (by omega) (by omega)), fun _ => ⟨fun y => ?_, fun y => ?_⟩⟩
      · rw [ki_0, nI_leI (by omega) (by omega)] at y
        exact hall G2 f2 (fun q hq => hno q (by unfold sn_ at hq; rw [if_neg (by omega)] at hq; omega))
      · rw [ki_0, nI_leI (by omega) (by omega)] at y
        have hm1 : m = 1 := by omega
        rw [ki_shl _ (by omega)]
        have hsl : sl_ (i + 1) = 2 ^ i := by unfold sl_; rw [if_neg (by omega)]; rfl
        refine s_table hP hC2 hr (by decide) hk2.1 hk2.2.1 hx (tp_lt (by omega)) (fun G3 f3 e3 => ?_)
        rw [hlen] at e3
        cases c1 : dt_ P (cf_ (px_at (ps_p P) r) n f) r (2 ^ i) with
        | false =>
          refine ⟨fun y => absurd rfl y, fun _ => ?_⟩
          obtain ⟨e5, e6⟩ := e3 c1
          exact hfail (i + 1) G3 (by unfold sn_; rw [if_pos hm1]; omega) hno (by rw [hsl]; exact c1) (f2.trans f3) (by rw [hsl]; exact e5) (by rw [hsl]; exact e6)
        | true =>
          refine ⟨fun _ => ?_, fun y => absurd y (by decide)⟩
          rw [nI_add]
          refine ih (i + 1) G3 (by omega) (f2.trans f3) (fun q hq => ?_)
          rcases Nat.lt_succ_iff_lt_or_eq.mp hq with z | z
          · exact hno q z
          · rw [z, hsl, c1]; rfl
/-- one line of the candidate is set -/
theorem kc_.set {G : mm_G} {ls : List ln_T} {r n i v t : Nat} {f : Nat → Nat} (h : kc_ G ls r n f) (hi : i < n) (hn : n ≤ 5) (ht : 285 ≤ t) (ht2 : t < mg_n G) (ht3 : rd_c G t = ln_at ls v) : kc_ (ms_r (ms_i G 172 i (nI v)) 174 i (some t)) ls r n (ru_up f i v) := by
  obtain ⟨⟨a1, a2, a3⟩, b, c⟩ := h
  refine ⟨⟨?_, ?_, fun j hj => ?_⟩, ?_, fun j hj => ?_⟩
  · rw [cf_len] at a1 ⊢
    simp only [mg_i_i, mg_i_l, mg_i_r, mg_i_b, mg_l_i, mg_l_l, mg_l_r, mg_l_b, mg_r_i, mg_r_l, mg_r_r, mg_r_b, false_and, and_false, true_and, and_true, reduceCtorEq, if_true, if_false, reduceIte, Nat.reduceEqDiff, Nat.reduceAdd, Nat.succ_ne_self, ne_eq, not_false_eq_true, not_true_eq_false]
    exact a1
  · rw [cf_len]; omega
  · rw [cf_len] at hj
    have hrd : ∀ u, 285 ≤ u → rd_c (ms_r (ms_i G 172 i (nI v)) 174 i (some t)) u = rd_c G u := by
      intro u hu
      have hf : fr_ (fun c _ => decide (c = 172) || decide (c = 174)) G (ms_r (ms_i G 172 i (nI v)) 174 i (some t)) := (fr_.rfl'.si (by simp)).sr (by simp)
      exact rd_c.fr hf (fun k => by simp; omega)
    rw [cf_at hj]
    by_cases z : j = i
    · subst z
      exact ⟨t, by simp [mg_r_r], ht, ht2, by rw [hrd t ht, ru_up_eq]; exact ht3⟩
    · obtain ⟨u, u1, u2, u3, u4⟩ := a3 j (by rw [cf_len]; exact hj)
      rw [cf_at hj] at u4
      exact ⟨u, by rw [mg_r_r, if_neg (by omega), mg_r_i]; exact u1, u2, u3, by rw [hrd u u2, ru_up_ne _ _ z]; exact u4⟩
  · simp only [mg_i_i, mg_i_l, mg_i_r, mg_i_b, mg_l_i, mg_l_l, mg_l_r, mg_l_b, mg_r_i, mg_r_l, mg_r_r, mg_r_b, false_and, and_false, true_and, and_true, reduceCtorEq, if_true, if_false, reduceIte, Nat.reduceEqDiff, Nat.reduceAdd, Nat.succ_ne_self, ne_eq, not_false_eq_true, not_true_eq_false]; exact b
  · simp only [mg_i_i, mg_i_l, mg_i_r, mg_i_b, mg_l_i, mg_l_l, mg_l_r, mg_l_b, mg_r_i, mg_r_l, mg_r_r, mg_r_b, false_and, and_false, true_and, and_true, reduceCtorEq, if_true, if_false, reduceIte, Nat.reduceEqDiff, Nat.reduceAdd, Nat.succ_ne_self, ne_eq, not_false_eq_true, not_true_eq_false]
    by_cases z : j = i
    · subst z; rw [if_pos rfl, ru_up_eq]
    · rw [if_neg z, ru_up_ne _ _ z]; exact c j hj
theorem s_passOn {l : Launch} {κ : mm_K} {d : Nat} {G : mm_G} {K : Int32 → mm_G → Prop} {P : ps_T} {r n q : Nat} {f : Nat → Nat} {at' : Int32} (hP : ps_ok P) (hC : cB_ G P) (hr : r < (ps_p P).length) (hn : n ≤ 5) (hL : n ≠ 0 → 0 < (px_at (ps_p P) r).length) (hd : ∀ i, i < n → f i < (px_at (ps_p P) r).length) (hk : kc_ G (px_at (ps_p P) r) r n f) (hat : at' + nI 1 = nI q) (hq : q ≤ n)
    (h : ∀ G', fr_ fs_ G G' → kc_ G' (px_at (ps_p P) r) r n (po_ (px_at (ps_p P) r).length q n f).2 → K (if (po_ (px_at (ps_p P) r).length q n f).1 then nI 1 else nI 0) G') : mC l κ true d 0 0 m_X8_passOn [.ref 171, .ref (54 + 2 * r), .int at'] G (rI K) := by
  have hp := hP.1.1
  have hlen := hP.1.2.2 r
  have hR : RowAt (54 + 2 * r) := rc_row (rc_54 (by omega))
  refine e_X8_passOn _ hR _ ?_
  have h173 : mg_i G 173 1 = nI n := by
    have := hk.1.1
    rw [cf_len] at this
    exact this
  rw [h173]
  suffices H : ∀ i w G1 g, w + nI 1 = nI i → i ≤ n → fr_ fs_ G G1 → kc_ G1 (px_at (ps_p P) r) r n g → (∀ j, j < n → g j < (px_at (ps_p P) r).length) → po_ (px_at (ps_p P) r).length q i g = po_ (px_at (ps_p P) r).length q n f → mV l κ true d 0 0 m_X8_passOn 10 [some (.ref 171), some (.ref (54 + 2 * r)), some (.int at'), some (.int w), none] [] G1 (rI K) from
    H n _ G f (Int32.sub_add_cancel _ _) (Nat.le_refl _) fr_.rfl' hk hd rfl
  intro i
  induction i with
  | zero =>
    intro w G1 g hw hin f1 k1 d1 e1
    refine p_X8_passOn_10 _ hR _ _ ⟨fun _ => ?_, fun y => ?_⟩
    · have hh := h G1 f1
      rw [← e1] at hh
      exact hh k1
    · exfalso
      rw [fa_lt, ki_q hw (by omega)] at y
      have e0 : (0 : Int32).toInt = 0 := by decide
      omega
  | succ i ih =>
    intro w G1 g hw hin f1 k1 d1 e1
    have hwi : w = nI i := by
      have : w + nI 1 - nI 1 = nI (i + 1) - nI 1 := by rw [hw]
      rw [Int32.add_sub_cancel, ki_sub (by omega)] at this
      exact this
    have hC1 := hC.fs hP f1
    have hro := hC1.1.2.1 r hr
    have hro : ro_ G1 (54 + 2 * r) (px_at (ps_p P) r) := hro
    have hLp := hL (by omega)
    have hgi := d1 i (by omega)
    obtain ⟨t0, t1, t2, t3, t4⟩ := hro.2.2 0 hLp
    have ev : mg_i G1 172 i = nI (g i) := k1.2.2 i (by omega)
    have hvi : vp_in (nI i) 5 := (ki_vp (by omega)).2 (by omega)
    have hvi16 : vp_in (nI i) 16 := (ki_vp (by omega)).2 (by omega)
    have e0 : (nI 0).toNatClampNeg = 0 := nI_clamp (by omega)
    have h00 : ¬ ¬ (nI 0) = 0 := by decide
    have h10 : ¬ (nI 1) = 0 := by decide
    -- it is set back
    have hzero : ¬ (i < q ∧ g i + 1 < (px_at (ps_p P) r).length) → vp_in (nI i) 5 ∧ vp_in (nI i) 5 ∧ vp_in (mg_i (ms_i G1 172 i (nI 0)) 172 i) 16 ∧ ∃ t2, mg_r G1 (54 + 2 * r + 1) ((mg_i (ms_i G1 172 i (nI 0)) 172 i).toNatClampNeg) = some t2 ∧ LineAt t2 ∧ vp_in (nI i) 16 ∧ (((nI 0) = 0 → mV l κ true d 0 0 m_X8_passOn 10 [some (.ref 171), some (.ref (54 + 2 * r)), some (.int at'), some (.int (nI i + (-1))), none] [] (ms_r (ms_i G1 172 i (nI 0)) 174 i (some t2)) (rI K)) ∧ (¬ (nI 0) = 0 → K (nI 1) (ms_r (ms_i G1 172 i (nI 0)) 174 i (some t2)))) := by
      intro hc
      have em : mg_i (ms_i G1 172 i (nI 0)) 172 i = nI 0 := by simp [mg_i_i]
      rw [em, e0]
      refine ⟨hvi, hvi, (ki_vp (by omega)).2 (by omega), t0, t1, ln_At t2, hvi16, fun _ => ?_, fun y => absurd (by decide) y⟩
      refine ih _ _ (ru_up g i 0) ?_ (by omega) ((f1.si (by unfold fs_; simp)).sr (by unfold fs_; simp)) (k1.set (by omega) hn t2 t3 t4) (fun j hj => ?_) ?_
      · rw [Int32.add_assoc, show (-1 : Int32) + nI 1 = 0 by decide, Int32.add_zero]
      · unfold ru_up
        split
        · exact hLp
        · exact d1 j hj
      · rw [← e1]
        exact (if_neg hc).symm
    subst hwi
    refine p_X8_passOn_10 _ hR _ _ ⟨fun y => absurd y (nI_pos (by omega)), fun _ => ?_⟩
    rw [nI_clamp (by omega), ev, hro.1, nI_add, nI_leI (by omega) (by omega)]
    have hqi : at' < nI i ↔ q ≤ i := by
      rw [fa_lt, ki_q hat (by omega), nI_toInt (by omega)]
      omega
    rw [hqi]
    refine ⟨fun y => ⟨fun _ => hzero (fun z => by omega), fun z => absurd z h00⟩, fun y => ⟨hvi, fun y2 => ⟨fun _ => hzero (fun z => by omega), fun z => absurd z h00⟩, fun y2 => ⟨fun z => absurd z h10, fun _ => ?_⟩⟩⟩
    have hc : i < q ∧ g i + 1 < (px_at (ps_p P) r).length := ⟨by omega, by omega⟩
    obtain ⟨u0, u1, u2, u3, u4⟩ := hro.2.2 (g i + 1) hc.2
    have em : mg_i (ms_i G1 172 i (nI (g i + 1))) 172 i = nI (g i + 1) := by simp [mg_i_i]
    rw [em, nI_clamp (by omega)]
    refine ⟨hvi, hvi, hvi, (ki_vp (by omega)).2 (by omega), u0, u1, ln_At u2, hvi16, fun z => absurd z h10, fun _ => ?_⟩
    have e2 : po_ (px_at (ps_p P) r).length q (i + 1) g = (true, ru_up g i (g i + 1)) := if_pos hc
    have hh := h (ms_r (ms_i G1 172 i (nI (g i + 1))) 174 i (some u0)) ((f1.si (by unfold fs_; simp)).sr (by unfold fs_; simp))
    rw [← e1, e2] at hh
    exact hh (k1.set (by omega) hn u2 u3 u4)
