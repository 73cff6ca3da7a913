/-! rows sought: the reference's search, both answers -/
def fh_ (c k : Nat) : Bool := fg_ c k || decide (c = 267)
theorem fh_on {c k : Nat} (h : rgQ c k = true) : fh_ c k = false := by
  unfold fh_
  rw [fg_on h, decide_eq_false (by have := rgQ_iff.1 h; omega)]
  rfl
theorem fr_.gh {G G1 : mm_G} (h : fr_ fg_ G G1) : fr_ fh_ G G1 := h.mono (fun c k q => by unfold fh_ at q; exact (Bool.or_eq_false_iff.1 q).1)
theorem mB_.fh {G G1 : mm_G} {P : ps_T} {m : Nat} (h : mB_ G P m) (hf : fr_ fh_ G G1) : mB_ G1 P m := h.on (hf.on (fun c k q => fh_on q))
theorem fg_267 {k : Nat} : fg_ 267 k = false := by
  unfold fg_
  rw [ft_F (by omega), fm_F (by omega)]
  rfl
theorem fh_267 {k : Nat} : fh_ 267 k = true := by unfold fh_; simp
theorem t_isIt {l : Launch} {κ : mm_K} {d : Nat} {G : mm_G} {K : Int32 → mm_G → Prop} {P : ps_T} {a r m n : Nat} {f : Nat → Nat} (hP : ps_ok P) (hM : mB_ G P a) (hr : r < (ps_p P).length) (hm : m ≤ 1) (hn : n ≤ 5) (hd : ∀ i, i < n → f i < (px_at (ps_p P) r).length) (hk : ∀ i, i < n → mg_i G 267 i = nI (f i))
    (h : ∀ G', fr_ fg_ G G' → K (if sk_ok P (cf_ (px_at (ps_p P) r) n f) r m n then nI 1 else nI 0) G') : mC l κ true (d + 6) 0 0 m_X13_isIt [.ref 226, .int (nI r), .int (nI n), .int (nI m)] G (rI K) := by
  have hp := hP.1.1
  have hlen := cf_len (px_at (ps_p P) r) n f
  have hL := hP.1.2.2 r
  have hx : ∀ x ∈ cf_ (px_at (ps_p P) r) n f, ln_ok r x := fun x hq => px_ok hP hr x (cf_mem hd hq)
  -- a run that fails
  have hfail : ∀ i G1, i < sn_ m n → (∀ q, q < i → (!dt_ P (cf_ (px_at (ps_p P) r) n f) r (sl_ q)) = false) → dt_ P (cf_ (px_at (ps_p P) r) n f) r (sl_ i) = false → fr_ fg_ G G1 → K (nI 0) G1 := by
    intro i G1 hi hno hF f1
    have hsf : sf_ P (cf_ (px_at (ps_p P) r) n f) r m n = i := ff_at hno (by rw [hF]; rfl) hi
    have hF2 : sk_ok P (cf_ (px_at (ps_p P) r) n f) r m n = false := decide_eq_false (by rw [hsf]; omega)
    have hk := h G1 f1
    rw [hF2] at hk
    exact hk
  have hall : ∀ G1, fr_ fg_ G G1 → (∀ q, q < sn_ m n → (!dt_ P (cf_ (px_at (ps_p P) r) n f) r (sl_ q)) = false) → K (nI 1) G1 := by
    intro G1 f1 hno
    have hT : sk_ok P (cf_ (px_at (ps_p P) r) n f) r m n = true := decide_eq_true (ff_no hno)
    have hk := h G1 f1
    rw [hT] at hk
    exact hk
  refine e_X13_isIt _ _ _ ?_
  have f0 : fr_ ft_ G (ms_i (ms_i (ms_i G 226 46 (nI r)) 226 45 (nI n)) 226 47 (nI 0)) := ((fr_.rfl'.si rfl).si rfl).si rfl
  suffices H : ∀ w i G1, i + w = n → fr_ ft_ G G1 → mg_i G1 226 45 = nI n → mg_i G1 226 46 = nI r → mg_i G1 226 47 = nI 0 → (∀ j, j < i → mg_i G1 255 j = nI (64 * a + 16 * r + f j)) → (∀ j, j < i → mg_i G1 256 j = nI (f j)) → mV l κ true (d + 6) 0 0 m_X13_isIt 18 [some (.ref 226), some (.int (nI r)), some (.int (nI n)), some (.int (nI m)), some (.int (nI i))] [] G1 (rI K) from
    H n 0 _ (Nat.zero_add _) f0 (by simp only [mg_i_i, mg_i_l, mg_i_r, mg_i_b, mg_l_i, mg_l_l, mg_l_r, mg_l_b, mg_r_i, mg_r_l, mg_r_r, mg_r_b, false_and, and_false, true_and, and_true, reduceCtorEq, if_true, if_false, reduceIte, Nat.reduceEqDiff, Nat.reduceAdd, Nat.succ_ne_self, ne_eq, not_false_eq_true, not_true_eq_false]) (by simp only [mg_i_i, mg_i_l, mg_i_r, mg_i_b, mg_l_i, mg_l_l, mg_l_r, mg_l_b, mg_r_i, mg_r_l, mg_r_r, mg_r_b, false_and, and_false, true_and, and_true, reduceCtorEq, if_true, if_false, reduceIte, Nat.reduceEqDiff, Nat.reduceAdd, Nat.succ_ne_self, ne_eq, not_false_eq_true, not_true_eq_false]) (by simp only [mg_i_i, mg_i_l, mg_i_r, mg_i_b, mg_l_i, mg_l_l, mg_l_r, mg_l_b, mg_r_i, mg_r_l, mg_r_r, mg_r_b, false_and, and_false, true_and, and_true, reduceCtorEq, if_true, if_false, reduceIte, Nat.reduceEqDiff, Nat.reduceAdd, Nat.succ_ne_self, ne_eq, not_false_eq_true, not_true_eq_false]) (fun j hj => absurd hj (Nat.not_lt_zero j)) (fun j hj => absurd hj (Nat.not_lt_zero j))
  have ha := hM.1
  intro w
  induction w with
  | succ w ih =>
    intro i G1 hi hf q1 q2 q3 q4 q5
    have hM1 := hM.on (hf.on (fun c k hc => ft_on hc))
    refine p_X13_isIt_18 _ _ _ _ ⟨fun y => absurd y (nI_ge (by omega) (by omega)), fun _ => ⟨(ki_vp (by omega)).2 (by omega), ?_⟩⟩
    have e267 : mg_i G1 267 i = nI (f i) := by rw [hf.i _ _ (ft_F (by omega))]; exact hk i (by omega)
    rw [nI_clamp (by omega), e267]
    refine t_lineAt hM1.2.1 ⟨(ki_vp (by omega)).2 (by omega), (ki_vp (by omega)).2 (by omega), (ki_vp (by omega)).2 (by omega), ?_⟩
    rw [nI_add, e267]
    refine ih (i + 1) _ (by omega) ((hf.si rfl).si rfl) (by simp only [mg_i_i, mg_i_l, mg_i_r, mg_i_b, mg_l_i, mg_l_l, mg_l_r, mg_l_b, mg_r_i, mg_r_l, mg_r_r, mg_r_b, false_and, and_false, true_and, and_true, reduceCtorEq, if_true, if_false, reduceIte, Nat.reduceEqDiff, Nat.reduceAdd, Nat.succ_ne_self, ne_eq, not_false_eq_true, not_true_eq_false]; exact q1) (by simp only [mg_i_i, mg_i_l, mg_i_r, mg_i_b, mg_l_i, mg_l_l, mg_l_r, mg_l_b, mg_r_i, mg_r_l, mg_r_r, mg_r_b, false_and, and_false, true_and, and_true, reduceCtorEq, if_true, if_false, reduceIte, Nat.reduceEqDiff, Nat.reduceAdd, Nat.succ_ne_self, ne_eq, not_false_eq_true, not_true_eq_false]; exact q2) (by simp only [mg_i_i, mg_i_l, mg_i_r, mg_i_b, mg_l_i, mg_l_l, mg_l_r, mg_l_b, mg_r_i, mg_r_l, mg_r_r, mg_r_b, false_and, and_false, true_and, and_true, reduceCtorEq, if_true, if_false, reduceIte, Nat.reduceEqDiff, Nat.reduceAdd, Nat.succ_ne_self, ne_eq, not_false_eq_true, not_true_eq_false]; exact q3) (fun j hj => ?_) (fun j hj => ?_)
    · simp only [mg_i_i, mg_i_l, mg_i_r, mg_i_b, mg_l_i, mg_l_l, mg_l_r, mg_l_b, mg_r_i, mg_r_l, mg_r_r, mg_r_b, false_and, and_false, true_and, and_true, reduceCtorEq, if_true, if_false, reduceIte, Nat.reduceEqDiff, Nat.reduceAdd, Nat.succ_ne_self, ne_eq, not_false_eq_true, not_true_eq_false]
      split
      · rename_i z; rw [z]
      · exact q4 j (by omega)
    · simp only [mg_i_i, mg_i_l, mg_i_r, mg_i_b, mg_l_i, mg_l_l, mg_l_r, mg_l_b, mg_r_i, mg_r_l, mg_r_r, mg_r_b, false_and, and_false, true_and, and_true, reduceCtorEq, if_true, if_false, reduceIte, Nat.reduceEqDiff, Nat.reduceAdd, Nat.succ_ne_self, ne_eq, not_false_eq_true, not_true_eq_false]
      split
      · rename_i z; rw [z]
      · exact q5 j (by omega)
  | zero =>
    intro i G1 hi hf q1 q2 q3 q4 q5
    have hM1 := hM.on (hf.on (fun c k hc => ft_on hc))
    have hmp : mp_ G1 (cf_ (px_at (ps_p P) r) n f) 0 r f := by
      refine ⟨by rw [hlen]; exact q1, q2, q3, fun j hj => ?_, fun j hj => q5 j (by omega)⟩
      rw [hlen] at hj
      have := hd j hj
      refine ⟨_, ?_, q4 j (by omega), ?_⟩
      · omega
      · rw [cf_at hj]
        exact (hM1.2.2.1.2 r hr).2 (f j) this
    refine p_X13_isIt_18 _ _ _ _ ⟨fun _ => t_table hP hM1 hr hmp (by omega) hx (by decide) (fun G2 f2 => ?_), fun y => absurd (nI_le (by omega) (by omega)) y⟩
    have f12 : fr_ fg_ G G2 := hf.tg.trans f2.mg
    cases c0 : dt_ P (cf_ (px_at (ps_p P) r) n f) r 0 with
    | false => exact ⟨fun y => absurd rfl y, fun _ => hfail 0 G2 (by unfold sn_; split <;> omega) (fun q hq => absurd hq (Nat.not_lt_zero q)) c0 f12⟩
    | true =>
      refine ⟨fun _ => ?_, fun y => absurd y (by decide)⟩
      suffices H : ∀ w i G3 lo, i + w = n → fr_ fg_ G G3 → mp_ G3 (cf_ (px_at (ps_p P) r) n f) lo r f → (∀ q, q < i + 1 → (!dt_ P (cf_ (px_at (ps_p P) r) n f) r (sl_ q)) = false) → mV l κ true (d + 6) 0 0 m_X13_isIt 75 [some (.ref 226), some (.int (nI r)), some (.int (nI n)), some (.int (nI m)), some (.int (nI i))] [] G3 (rI K) by
        refine H n 0 G2 0 (Nat.zero_add _) f12 (hmp.fm f2) (fun q hq => ?_)
        obtain rfl : q = 0 := by omega
        show (!dt_ P (cf_ (px_at (ps_p P) r) n f) r 0) = false
        rw [c0]
        rfl
      intro w
      induction w with
      | zero =>
        intro i G3 lo hi f3 p3 hno
        refine p_X13_isIt_75 _ _ _ _ ⟨fun _ => hall G3 f3 (fun q hq => hno q (by unfold sn_ at hq; split at hq <;> omega)), fun y => absurd (nI_le (by omega) (by omega)) y⟩
      | succ w ih =>
        intro i G3 lo hi f3 p3 hno
        refine p_X13_isIt_75 _ _ _ _ ⟨fun y => absurd y (nI_ge (by omega) (by omega)), fun _ => ⟨fun y => ?_, fun y => ?_⟩⟩
        · have hm1 : m ≠ 1 := fun z => y (by rw [z])
          exact hall G3 f3 (fun q hq => hno q (by unfold sn_ at hq; rw [if_neg hm1] at hq; omega))
        · have hm1 : m = 1 := (nI_eq (by omega) (by omega)).1 y
          rw [ki_shl _ (by omega)]
          have hsl : sl_ (i + 1) = 2 ^ i := by unfold sl_; rw [if_neg (by omega)]; rfl
          have f4 : fr_ ft_ G3 (ms_i G3 226 47 (nI (2 ^ i))) := fr_.rfl'.si rfl
          have hM4 := (hM.fg f3).on (f4.on (fun c k hc => ft_on hc))
          have p4 : mp_ (ms_i G3 226 47 (nI (2 ^ i))) (cf_ (px_at (ps_p P) r) n f) (2 ^ i) r f := by
            obtain ⟨u1, u2, u3, u4, u5⟩ := p3
            refine ⟨by simp only [mg_i_i, mg_i_l, mg_i_r, mg_i_b, mg_l_i, mg_l_l, mg_l_r, mg_l_b, mg_r_i, mg_r_l, mg_r_r, mg_r_b, false_and, and_false, true_and, and_true, reduceCtorEq, if_true, if_false, reduceIte, Nat.reduceEqDiff, Nat.reduceAdd, Nat.succ_ne_self, ne_eq, not_false_eq_true, not_true_eq_false]; exact u1, by simp only [mg_i_i, mg_i_l, mg_i_r, mg_i_b, mg_l_i, mg_l_l, mg_l_r, mg_l_b, mg_r_i, mg_r_l, mg_r_r, mg_r_b, false_and, and_false, true_and, and_true, reduceCtorEq, if_true, if_false, reduceIte, Nat.reduceEqDiff, Nat.reduceAdd, Nat.succ_ne_self, ne_eq, not_false_eq_true, not_true_eq_false]; exact u2, by simp only [mg_i_i, mg_i_l, mg_i_r, mg_i_b, mg_l_i, mg_l_l, mg_l_r, mg_l_b, mg_r_i, mg_r_l, mg_r_r, mg_r_b, false_and, and_false, true_and, and_true, reduceCtorEq, if_true, if_false, reduceIte, Nat.reduceEqDiff, Nat.reduceAdd, Nat.succ_ne_self, ne_eq, not_false_eq_true, not_true_eq_false], fun j hj => ?_, fun j hj => by simp only [mg_i_i, mg_i_l, mg_i_r, mg_i_b, mg_l_i, mg_l_l, mg_l_r, mg_l_b, mg_r_i, mg_r_l, mg_r_r, mg_r_b, false_and, and_false, true_and, and_true, reduceCtorEq, if_true, if_false, reduceIte, Nat.reduceEqDiff, Nat.reduceAdd, Nat.succ_ne_self, ne_eq, not_false_eq_true, not_true_eq_false]; exact u5 j hj⟩
            obtain ⟨p, v1, v2, v3⟩ := u4 j hj
            refine ⟨p, v1, by simp only [mg_i_i, mg_i_l, mg_i_r, mg_i_b, mg_l_i, mg_l_l, mg_l_r, mg_l_b, mg_r_i, mg_r_l, mg_r_r, mg_r_b, false_and, and_false, true_and, and_true, reduceCtorEq, if_true, if_false, reduceIte, Nat.reduceEqDiff, Nat.reduceAdd, Nat.succ_ne_self, ne_eq, not_false_eq_true, not_true_eq_false]; exact v2, ?_⟩
            rw [rd_m.fr f4 (fun c k y1 y2 => ft_F (by omega))]
            exact v3
          refine t_table hP hM4 hr p4 (by omega) hx (tp_lt (by omega)) (fun G5 f5 => ?_)
          have f35 : fr_ fg_ G G5 := (f3.trans f4.tg).trans f5.mg
          cases c1 : dt_ P (cf_ (px_at (ps_p P) r) n f) r (2 ^ i) with
          | false =>
            refine ⟨fun y => absurd rfl y, fun _ => ?_⟩
            exact hfail (i + 1) G5 (by unfold sn_; rw [if_pos hm1]; omega) hno (by rw [hsl]; exact c1) f35
          | true =>
            refine ⟨fun _ => ?_, fun y => absurd y (by decide)⟩
            rw [nI_add]
            refine ih (i + 1) G5 (2 ^ i) (by omega) f35 (p4.fm f5) (fun q hq => ?_)
            rcases Nat.lt_succ_iff_lt_or_eq.mp hq with z | z
            · exact hno q z
            · rw [z, hsl, c1]; rfl
theorem po_all {L n : Nat} : ∀ i f, i ≤ n → po_ L n i f = po_ L i i f
  | 0, _, _ => rfl
  | i + 1, f, h => by
    unfold po_
    split
    · rename_i c
      rw [if_pos ⟨by omega, c.2⟩]
    · rename_i c
      rw [if_neg (fun y => c ⟨by omega, y.2⟩), po_all i _ (by omega)]
      have : ∀ j g, j ≤ i → po_ L i j g = po_ L (i + 1) j g := by
        intro j
        induction j with
        | zero => intro g _; rfl
        | succ j ih =>
          intro g hj
          unfold po_
          by_cases z : g j + 1 < L
          · rw [if_pos ⟨by omega, z⟩, if_pos ⟨by omega, z⟩]
          · rw [if_neg (fun y => z y.2), if_neg (fun y => z y.2)]
            exact ih _ (by omega)
      exact this i _ (Nat.le_refl _)
theorem t_nextRow {l : Launch} {κ : mm_K} {d : Nat} {G : mm_G} {K : Int32 → mm_G → Prop} {P : ps_T} {a r n : Nat} {f : Nat → Nat} (hP : ps_ok P) (hM : mB_ G P a) (hr : r < (ps_p P).length) (hn : n ≤ 5) (hL : 0 < (px_at (ps_p P) r).length ∨ n = 0) (hd : ∀ i, i < n → f i < (px_at (ps_p P) r).length) (hk : ∀ i, i < n → mg_i G 267 i = nI (f i))
    (h : ∀ G', fr_ fh_ G G' → (∀ i, i < n → mg_i G' 267 i = nI ((po_ (px_at (ps_p P) r).length n n f).2 i)) → K (if (po_ (px_at (ps_p P) r).length n n f).1 then nI 1 else nI 0) G') : mC l κ true (d + 1) 0 0 m_X13_nextRow [.ref 226, .int (nI r), .int (nI n)] G (rI K) := by
  have hlen := hP.1.2.2 r
  refine e_X13_nextRow _ _ ?_
  suffices H : ∀ i g G1 x, i ≤ n → x + nI 1 = nI i → fr_ fh_ G G1 → (∀ j, j < n → g j < (px_at (ps_p P) r).length) → (∀ j, j < n → mg_i G1 267 j = nI (g j)) → po_ (px_at (ps_p P) r).length n n f = po_ (px_at (ps_p P) r).length n i g → mV l κ true (d + 1) 0 0 m_X13_nextRow 4 [some (.ref 226), some (.int (nI r)), some (.int (nI n)), some (.int x)] [] G1 (rI K) from
    H n f G _ (Nat.le_refl _) (Int32.sub_add_cancel _ _) fr_.rfl' hd hk rfl
  intro i
  induction i with
  | zero =>
    intro g G1 x hi hx f1 d1 k1 e1
    have hx1 : x.toInt = ((0 : Nat) : Int) - 1 := ki_q hx (by omega)
    have e0 : (0 : Int32).toInt = 0 := by decide
    have hlt : x < 0 := by rw [fa_lt]; omega
    have hnl : ¬ (0 : Int32) ≤ x := by rw [fa_le]; omega
    refine p_X13_nextRow_4 _ _ _ ⟨fun _ => ⟨fun y => absurd y hnl, fun _ => ?_⟩, fun y => absurd hlt y⟩
    have hh := h G1 f1 (by rw [e1]; exact k1)
    rw [e1] at hh
    exact hh
  | succ i ih =>
    intro g G1 x hi hx f1 d1 k1 e1
    have ex : x = nI i := by
      have : x + nI 1 = nI i + nI 1 := by rw [hx, nI_add]
      have h2 := congrArg (fun z => z - nI 1) this
      simp only [Int32.add_sub_cancel] at h2
      exact h2
    subst ex
    have hdi := d1 i (by omega)
    have hnl : ¬ nI i < 0 := by rw [ki_0, nI_ltI (by omega) (by omega)]; omega
    have hge : (0 : Int32) ≤ nI i := by rw [ki_0, nI_leI (by omega) (by omega)]; omega
    refine p_X13_nextRow_4 _ _ _ ⟨fun y => absurd y hnl, fun _ => ⟨(ki_vp (by omega)).2 (by omega), t_lines hP (hM.fh f1) hr ?_⟩⟩
    rw [nI_clamp (by omega), k1 i (by omega), ki_sub (by omega), nI_eq (by omega) (by omega)]
    refine ⟨fun y => ⟨fun _ => ⟨(ki_vp (by omega)).2 (by omega), (ki_vp (by omega)).2 (by omega), ?_⟩, fun z => absurd hge z⟩, fun y => ⟨(ki_vp (by omega)).2 (by omega), ?_⟩⟩
    · rw [nI_add]
      have e2 : po_ (px_at (ps_p P) r).length n (i + 1) g = (true, ru_up g i (g i + 1)) := if_pos ⟨by omega, by omega⟩
      have hh := h (ms_i G1 267 i (nI (g i + 1))) (f1.si fh_267) (fun j hj => by
        rw [e1, e2]
        simp only [mg_i_i, mg_i_l, mg_i_r, mg_i_b, mg_l_i, mg_l_l, mg_l_r, mg_l_b, mg_r_i, mg_r_l, mg_r_r, mg_r_b, false_and, and_false, true_and, and_true, reduceCtorEq, if_true, if_false, reduceIte, Nat.reduceEqDiff, Nat.reduceAdd, Nat.succ_ne_self, ne_eq, not_false_eq_true, not_true_eq_false]
        show _ = nI (ru_up g i (g i + 1) j)
        unfold ru_up
        by_cases c : j = i
        · rw [if_pos c, if_pos c]
        · rw [if_neg c, if_neg c]; exact k1 j hj)
      rw [e1, e2] at hh
      exact hh
    · have e2 : po_ (px_at (ps_p P) r).length n (i + 1) g = po_ (px_at (ps_p P) r).length n i (ru_up g i 0) := if_neg (by omega)
      refine ih (ru_up g i 0) _ _ (by omega) ?_ (f1.si fh_267) (fun j hj => ?_) (fun j hj => ?_) (e1.trans e2)
      · rw [Int32.add_assoc, show (-1 : Int32) + nI 1 = 0 by decide, Int32.add_zero]
      · unfold ru_up
        split
        · omega
        · exact d1 j hj
      · simp only [mg_i_i, mg_i_l, mg_i_r, mg_i_b, mg_l_i, mg_l_l, mg_l_r, mg_l_b, mg_r_i, mg_r_l, mg_r_r, mg_r_b, false_and, and_false, true_and, and_true, reduceCtorEq, if_true, if_false, reduceIte, Nat.reduceEqDiff, Nat.reduceAdd, Nat.succ_ne_self, ne_eq, not_false_eq_true, not_true_eq_false]
        unfold ru_up
        by_cases c : j = i
        · rw [if_pos c, if_pos c]
        · rw [if_neg c, if_neg c]; exact k1 j hj
theorem t_seeks {l : Launch} {κ : mm_K} {d : Nat} {G : mm_G} {K : Int32 → mm_G → Prop} {P : ps_T} {a r n m : Nat} (hP : ps_ok P) (hM : mB_ G P a) (hr : r < (ps_p P).length) (hn : n ≤ 5) (hm : m ≤ 1)
    (h : ∀ G' v f, fr_ fh_ G G' → isA_ P r n m v f → (∀ z, z ≤ n → v = nI z → ∀ i, i < z → mg_i G' 267 i = nI (f i)) → K v G') : mC l κ true (d + 7) 0 0 m_X13_seeks [.ref 226, .int (nI r), .int (nI n), .int (nI m)] G (rI K) := by
  have hp := hP.1.1
  have hlen := hP.1.2.2 r
  refine e_X13_seeks _ _ _ ?_
  suffices H : ∀ w s G1, s + w = n + 1 → fr_ fh_ G G1 → (∀ y, y < s → (px_at (ps_p P) r).length ^ y ≤ 30000 ∧ nof_ P (px_at (ps_p P) r) r m y) → mV l κ true (d + 7) 0 0 m_X13_seeks 6 [some (.ref 226), some (.int (nI r)), some (.int (nI n)), some (.int (nI m)), some (.int (nI ((px_at (ps_p P) r).length ^ (s - 1)))), some (.int (nI s)), none] [] G1 (rI K) from
    H (n + 1) 0 G (Nat.zero_add _) fr_.rfl' (fun y hy => absurd hy (Nat.not_lt_zero y))
  intro w
  induction w with
  | zero =>
    intro s G1 hs f1 hno
    refine p_X13_seeks_6 _ _ _ _ _ ⟨fun _ => h G1 (-2) (fun _ => 0) f1 (Or.inr (Or.inr ⟨rfl, fun y hy => hno y (by omega)⟩)) (fun z hz e => absurd e.symm (ki_m2 (by omega))), fun y => absurd (nI_lt (by omega) (by omega)) y⟩
  | succ w ih =>
    intro s G1 hs f1 hno
    have hpw1 : (px_at (ps_p P) r).length ^ (s - 1) ≤ 30000 := by
      rcases Nat.eq_zero_or_pos s with z | z
      · subst z; show 1 ≤ 30000; decide
      · exact (hno (s - 1) (by omega)).1
    have hpw2 : (px_at (ps_p P) r).length ^ s ≤ 480000 := by
      rcases Nat.eq_zero_or_pos s with z | z
      · subst z; show 1 ≤ 480000; decide
      · have : (px_at (ps_p P) r).length ^ s = (px_at (ps_p P) r).length ^ (s - 1) * (px_at (ps_p P) r).length := by
          rw [← Nat.pow_succ]; congr 1; omega
        rw [this]
        have : (px_at (ps_p P) r).length ^ (s - 1) * (px_at (ps_p P) r).length ≤ 30000 * 16 := Nat.mul_le_mul hpw1 hlen
        omega
    have hbig : ¬ (px_at (ps_p P) r).length ^ s ≤ 30000 → ∀ G2, fr_ fh_ G G2 → K (-3) G2 := fun y G2 f2 =>
      h G2 (-3) (fun _ => 0) f2 (Or.inr (Or.inl ⟨rfl, s, by omega, hno, by omega⟩)) (fun z hz e => by
        exfalso
        have := congrArg Int32.toInt e
        rw [nI_toInt (by omega)] at this
        have e3 : (-3 : Int32).toInt = -3 := by decide +kernel
        omega)
    -- the candidates of this size
    have hgo : (px_at (ps_p P) r).length ^ s ≤ 30000 → ∀ w2 j G2, j + w2 = s → fr_ fh_ G G2 → (∀ i, i < j → mg_i G2 267 i = nI 0) → mV l κ true (d + 7) 0 0 m_X13_seeks 41 [some (.ref 226), some (.int (nI r)), some (.int (nI n)), some (.int (nI m)), some (.int (nI ((px_at (ps_p P) r).length ^ s))), some (.int (nI s)), some (.int (nI j))] [] G2 (rI K) := by
      intro y2
      have hnone : ∀ G3, fr_ fh_ G G3 → nof_ P (px_at (ps_p P) r) r m s → mV l κ true (d + 7) 0 0 m_X13_seeks 74 [some (.ref 226), some (.int (nI r)), some (.int (nI n)), some (.int (nI m)), some (.int (nI ((px_at (ps_p P) r).length ^ s))), some (.int (nI s)), some (.int (nI 0))] [] G3 (rI K) := by
        intro G3 f3 hn0
        refine p_X13_seeks_74 _ _ _ _ _ _ ⟨fun _ => ?_, fun y => absurd (by decide) y⟩
        rw [nI_add]
        refine ih (s + 1) G3 (by omega) f3 (fun v hv => ?_)
        rcases Nat.lt_succ_iff_lt_or_eq.mp hv with c | c
        · exact hno v c
        · subst c; exact ⟨y2, hn0⟩
      have hloop : ∀ w2 f G2, (0 < (px_at (ps_p P) r).length ∨ s = 0) → (px_at (ps_p P) r).length ^ s - vl_ (px_at (ps_p P) r).length f s ≤ w2 → fr_ fh_ G G2 → (∀ i, i < s → mg_i G2 267 i = nI (f i)) → (∀ i, i < s → f i < (px_at (ps_p P) r).length) → (∀ g, (∀ i, i < s → g i < (px_at (ps_p P) r).length) → vl_ (px_at (ps_p P) r).length g s < vl_ (px_at (ps_p P) r).length f s → sk_ok P (cf_ (px_at (ps_p P) r) s g) r m s = false) → mV l κ true (d + 7) 0 0 m_X13_seeks 74 [some (.ref 226), some (.int (nI r)), some (.int (nI n)), some (.int (nI m)), some (.int (nI ((px_at (ps_p P) r).length ^ s))), some (.int (nI s)), some (.int (nI 1))] [] G2 (rI K) := by
        intro w2
        induction w2 with
        | zero =>
          intro f G2 hLz hw f2 k2 d2 hb
          have := vl_lt s d2
          omega
        | succ w2 ih2 =>
          intro f G2 hLz hw f2 k2 d2 hb
          have hvl := vl_lt s d2
          refine p_X13_seeks_74 _ _ _ _ _ _ ⟨fun y => absurd y (by decide), fun _ => t_isIt hP (hM.fh f2) hr hm (by omega) d2 k2 (fun G3 f3 => ?_)⟩
          have f23 := f2.trans f3.gh
          have k3 : ∀ i, i < s → mg_i G3 267 i = nI (f i) := fun i hi => by rw [f3.i _ _ fg_267]; exact k2 i hi
          cases cs : sk_ok P (cf_ (px_at (ps_p P) r) s f) r m s with
          | true =>
            refine ⟨fun y => absurd y (by decide), fun _ => h G3 (nI s) f f23 (Or.inl ⟨s, by omega, rfl, hno, y2, d2, cs, hb⟩) (fun z hz e i hi => ?_)⟩
            have : s = z := (nI_eq (by omega) (by omega)).1 e
            subst this
            exact k3 i hi
          | false =>
            refine ⟨fun _ => ?_, fun y => absurd rfl y⟩
            refine t_nextRow (d := d + 5) hP (hM.fh f23) hr (by omega) hLz d2 k3 (fun G4 f4 k4 => ?_)
            have f24 := f23.trans f4
            rcases hLz with hLp | y0
            · obtain ⟨p1, p2⟩ := po_next (L := (px_at (ps_p P) r).length) (q := s) hLp s f d2
              have hbefore : ∀ g, (∀ i, i < s → g i < (px_at (ps_p P) r).length) → ((po_ (px_at (ps_p P) r).length s s f).1 = true → vl_ (px_at (ps_p P) r).length g s < vl_ (px_at (ps_p P) r).length (po_ (px_at (ps_p P) r).length s s f).2 s) → sk_ok P (cf_ (px_at (ps_p P) r) s g) r m s = false := by
                intro g hg hlt
                have hsame : (∀ i, i < s → g i = f i) → sk_ok P (cf_ (px_at (ps_p P) r) s g) r m s = false := fun e => by rw [cf_cong e]; exact cs
                rcases Nat.lt_trichotomy (vl_ (px_at (ps_p P) r).length g s) (vl_ (px_at (ps_p P) r).length f s) with y | y | y
                · exact hb g hg y
                · exact hsame (vl_inj s hg d2 y)
                · exact hsame (fun i hi => p2 g hg y hlt i hi hi)
              cases cp : (po_ (px_at (ps_p P) r).length s s f).1 with
              | true =>
                have hp1 := p1 cp
                exact ih2 _ G4 (Or.inl hLp) (by omega) f24 k4 (po_dig hLp s f d2) (fun g hg hlt => hbefore g hg (fun _ => hlt))
              | false =>
                exact hnone G4 f24 (fun g hg => hbefore g hg (fun y => by rw [cp] at y; cases y))
            · subst y0
              exact hnone G4 f24 (fun g hg => by rw [cf_cong (g := f) (fun i hi => absurd hi (Nat.not_lt_zero i))]; exact cs)
      intro w2
      induction w2 with
      | zero =>
        intro j G2 hj f2 k2
        refine p_X13_seeks_41 _ _ _ _ _ _ ⟨fun _ => ⟨fun y => ?_, fun y => ?_⟩, fun y => absurd (nI_le (by omega) (by omega)) y⟩
        · rw [ki_0, nI_leI (by omega) (by omega)] at y
          refine hnone G2 f2 (fun g hg => ?_)
          exfalso
          rcases Nat.eq_zero_or_pos s with z | z
          · subst z; exact absurd y (by show ¬ 1 ≤ 0; decide)
          · have := hg 0 z
            have := Nat.pow_pos (n := s) (show 0 < (px_at (ps_p P) r).length by omega)
            omega
        · rw [ki_0, nI_leI (by omega) (by omega)] at y
          have hLz : 0 < (px_at (ps_p P) r).length ∨ s = 0 := by
            rcases Nat.eq_zero_or_pos s with z | z
            · exact Or.inr z
            · rcases Nat.eq_zero_or_pos (px_at (ps_p P) r).length with c | c
              · rw [c, Nat.zero_pow z] at y
                omega
              · exact Or.inl c
          refine hloop _ (fun _ => 0) G2 hLz (Nat.le_refl _) f2 (fun i hi => k2 i (by omega)) (fun i hi => by omega) (fun g hg hlt => ?_)
          rw [vl_0] at hlt
          omega
      | succ w2 ih2 =>
        intro j G2 hj f2 k2
        refine p_X13_seeks_41 _ _ _ _ _ _ ⟨fun y => absurd y (nI_ge (by omega) (by omega)), fun _ => ⟨(ki_vp (by omega)).2 (by omega), ?_⟩⟩
        rw [nI_add, nI_clamp (by omega)]
        refine ih2 (j + 1) _ (by omega) (f2.si fh_267) (fun i hi => ?_)
        simp only [mg_i_i, mg_i_l, mg_i_r, mg_i_b, mg_l_i, mg_l_l, mg_l_r, mg_l_b, mg_r_i, mg_r_l, mg_r_r, mg_r_b, false_and, and_false, true_and, and_true, reduceCtorEq, if_true, if_false, reduceIte, Nat.reduceEqDiff, Nat.reduceAdd, Nat.succ_ne_self, ne_eq, not_false_eq_true, not_true_eq_false]
        split
        · rfl
        · exact k2 i (by omega)
    refine p_X13_seeks_6 _ _ _ _ _ ⟨fun y => absurd y (nI_nlt (by omega) (by omega)), fun _ => ⟨fun y => ?_, fun y => ?_⟩⟩
    · rw [ki_0, nI_leI (by omega) (by omega)] at y
      obtain rfl : s = 0 := by omega
      refine ⟨fun y2 => hgo (by show 1 ≤ 30000; decide) 0 0 G1 rfl f1 (fun i hi => absurd hi (Nat.not_lt_zero i)), fun y2 => absurd ?_ y2⟩
      rw [nI_leI (by show 1 < _; decide) (by decide)]
      show 1 ≤ 30000
      decide
    · rw [ki_0, nI_leI (by omega) (by omega)] at y
      refine t_lines hP (hM.fh f1) hr ?_
      have e : (px_at (ps_p P) r).length ^ (s - 1) * (px_at (ps_p P) r).length = (px_at (ps_p P) r).length ^ s := by
        rw [← Nat.pow_succ]; congr 1; omega
      rw [ki_mul, e, nI_leI (by omega) (by omega)]
      exact ⟨fun y2 => hgo y2 s 0 G1 (Nat.zero_add _) f1 (fun i hi => absurd hi (Nat.not_lt_zero i)), fun y2 => hbig y2 G1 f1⟩
