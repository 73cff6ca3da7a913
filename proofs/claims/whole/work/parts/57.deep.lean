/-! lines behind the last that a run looked at don't matter -/
theorem rs_q_come (e : en_T) (s : rs_T) : rs_q s ≤ rs_q (ru_come e s) := by
  unfold ru_come
  split
  · split
    · exact Nat.le_max_left _ _
    · exact Nat.le_refl _
  · exact Nat.le_refl _
theorem rs_q_jump (e : en_T) (x : ln_T) (s : rs_T) : rs_q s ≤ rs_q (ru_jump e x s) := by
  show rs_q s ≤ (if rs_d s = 0 then _ else rs_q s)
  split
  · exact Nat.le_max_left _ _
  · exact Nat.le_refl _
theorem rs_q_do (e : en_T) (x : ln_T) (s : rs_T) : rs_q s ≤ rs_q (ru_do e x s).1 := by
  unfold ru_do
  split
  · split
    · exact Nat.le_refl _
    · split <;> exact Nat.le_refl _
  · split
    · exact rs_q_jump e x s
    · split
      · split
        · exact rs_q_jump e x _
        · exact Nat.le_refl _
      · split
        · exact Nat.le_refl _
        · split
          · exact Nat.le_refl _
          · split
            · exact Nat.le_refl _
            · split <;> exact Nat.le_refl _
theorem rs_q_loop (e : en_T) : ∀ n s, rs_q (ru_come e s) ≤ rs_q (ru_loop e n s).1
  | 0, s => Nat.le_refl _
  | n + 1, s => by
    unfold ru_loop
    by_cases hi : ru_is e s = true
    · rw [if_pos hi]
      have h2 : rs_q (ru_come e s) ≤ rs_q (ru_do e (ru_top e (ru_come e s)) (ru_pre (ru_come e s))).1 := rs_q_do e _ (ru_pre (ru_come e s))
      by_cases h0 : (ru_do e (ru_top e (ru_come e s)) (ru_pre (ru_come e s))).2 = 0
      · rw [if_pos h0]
        exact Nat.le_trans h2 (Nat.le_trans (rs_q_come e _) (rs_q_loop e n _))
      · rw [if_neg h0]
        exact h2
    · rw [if_neg hi]
      exact Nat.le_refl _
theorem find_same {ls ls' : List ln_T} {lb : Int64} {lo q : Nat} (hl : ls'.length = ls.length) (h : ∀ i, i < q → ln_at ls' i = ln_at ls i) (h1 : ru_find lb lo ls < ls.length → ru_find lb lo ls + 1 ≤ q) (h2 : ¬ ru_find lb lo ls < ls.length → ls.length ≤ q) : ru_find lb lo ls' = ru_find lb lo ls := by
  by_cases c : ru_find lb lo ls < ls.length
  · have hq := h1 c
    have hy : (decide (ln_nm (ln_at ls (ru_find lb lo ls)) = lb) && !lo.testBit (ru_find lb lo ls)) = true := fa_first_yes (fun i => decide (ln_nm (ln_at ls i) = lb) && !lo.testBit i) ls.length c
    have hno : ∀ k, k < ru_find lb lo ls → (decide (ln_nm (ln_at ls k) = lb) && !lo.testBit k) = false := fun k hk => fa_first_no (fun i => decide (ln_nm (ln_at ls i) = lb) && !lo.testBit i) ls.length k hk
    exact ff_at (fun k hk => by rw [h k (by omega)]; exact hno k hk) (by rw [h _ (by omega)]; exact hy) (by omega)
  · have hq := h2 c
    have e : ru_find lb lo ls = ls.length := by have := ru_find_le lb lo ls; omega
    have hno : ∀ k, k < ls.length → (decide (ln_nm (ln_at ls k) = lb) && !lo.testBit k) = false := fun k hk => fa_first_no (fun i => decide (ln_nm (ln_at ls i) = lb) && !lo.testBit i) ls.length k (by rw [show fa_first _ _ = ru_find lb lo ls from rfl, e]; exact hk)
    rw [e, ← hl]
    exact ff_no (fun k hk => by rw [h k (by omega)]; exact hno k (by omega))
theorem ru_deep {ls ls' : List ln_T} {pg : px_T} {inp : List Int32} {lo : Nat} {am : Option (List Int32)} (hl : ls'.length = ls.length) : ∀ n s, (∀ i, i < rs_q (ru_loop (ls, pg, inp, lo, am) n s).1 → ln_at ls' i = ln_at ls i) → ru_loop (ls', pg, inp, lo, am) n s = ru_loop (ls, pg, inp, lo, am) n s := by
  have hls : ∀ (s : Nat → Nat × Nat) d, (ru_ls (ls', pg, inp, lo, am) s d).length = (ru_ls (ls, pg, inp, lo, am) s d).length := by
    intro s d
    by_cases c : d = 0
    · rw [c, ru_ls_0, ru_ls_0]; exact hl
    · rw [ru_ls_1 c, ru_ls_1 c]; rfl
  have hdp : ∀ (s : Nat → Nat × Nat) d, ru_dp (ls', pg, inp, lo, am) s d = ru_dp (ls, pg, inp, lo, am) s d := by
    intro s d
    induction d with
    | zero => rfl
    | succ d ih =>
      show (if (s (d + 1)).2 < (ru_ls (ls', pg, inp, lo, am) s (d + 1)).length then d + 1 else ru_dp (ls', pg, inp, lo, am) s d) = (if (s (d + 1)).2 < (ru_ls (ls, pg, inp, lo, am) s (d + 1)).length then d + 1 else ru_dp (ls, pg, inp, lo, am) s d)
      rw [hls, ih]
  have hlow : ∀ s, ru_low (ls', pg, inp, lo, am) s = ru_low (ls, pg, inp, lo, am) s := by
    intro s
    show ru_skip lo (ls'.length - _) _ = ru_skip lo (ls.length - _) _
    rw [hl]
  have hlen : (en_ls (ls', pg, inp, lo, am)).length = (en_ls (ls, pg, inp, lo, am)).length := hl
  have hc : ∀ s, ru_come (ls', pg, inp, lo, am) s = ru_come (ls, pg, inp, lo, am) s := by
    intro s
    unfold ru_come
    rw [hdp, hlow, hlen]
  have hi2 : ∀ s, ru_is (ls', pg, inp, lo, am) s = ru_is (ls, pg, inp, lo, am) s := by
    intro s
    unfold ru_is
    rw [hdp, hlow, hlen]
  -- a jump
  have hj : ∀ x s q, (∀ i, i < q → ln_at ls' i = ln_at ls i) → rs_q (ru_jump (ls, pg, inp, lo, am) x s) ≤ q → ru_jump (ls', pg, inp, lo, am) x s = ru_jump (ls, pg, inp, lo, am) x s := by
    intro x s q hq hle
    have e1 : ru_fd (ls', pg, inp, lo, am) x s = ru_fd (ls, pg, inp, lo, am) x s := by
      by_cases hd : rs_d s = 0
      · have l0 : ru_ls (ls, pg, inp, lo, am) (rs_s s) (rs_d s) = ls := by rw [hd, ru_ls_0]; rfl
        have l1 : ru_ls (ls', pg, inp, lo, am) (rs_s s) (rs_d s) = ls' := by rw [hd, ru_ls_0]; rfl
        have f0 : ru_fd (ls, pg, inp, lo, am) x s = ru_find (ln_lb x) lo ls := by unfold ru_fd; rw [if_pos hd, l0]; rfl
        have f1 : ru_fd (ls', pg, inp, lo, am) x s = ru_find (ln_lb x) lo ls' := by unfold ru_fd; rw [if_pos hd, l1]; rfl
        have hle : (if rs_d s = 0 then max (rs_q s) (if ru_fd (ls, pg, inp, lo, am) x s < (ru_ls (ls, pg, inp, lo, am) (rs_s s) (rs_d s)).length then ru_fd (ls, pg, inp, lo, am) x s + 1 else (ru_ls (ls, pg, inp, lo, am) (rs_s s) (rs_d s)).length) else rs_q s) ≤ q := hle
        rw [if_pos hd, f0, l0] at hle
        rw [f0, f1]
        refine find_same hl hq (fun c => ?_) (fun c => ?_)
        · rw [if_pos c] at hle; omega
        · rw [if_neg c] at hle; omega
      · unfold ru_fd
        rw [if_neg hd, if_neg hd, ru_ls_1 hd, ru_ls_1 hd]
        rfl
    unfold ru_jump
    rw [e1, hls]
  intro n
  induction n with
  | zero =>
    intro s _
    unfold ru_loop
    rw [hc, hi2]
  | succ n ih =>
    intro s h
    have hq0 := rs_q_loop (ls, pg, inp, lo, am) (n + 1) s
    unfold ru_loop at h hq0 ⊢
    rw [hc, hi2]
    by_cases hi : ru_is (ls, pg, inp, lo, am) s = true
    · rw [if_pos hi] at h hq0
      rw [if_pos hi, if_pos hi]
      have hlt := ru_come_lt hi
      have htop : ru_top (ls', pg, inp, lo, am) (ru_come (ls, pg, inp, lo, am) s) = ru_top (ls, pg, inp, lo, am) (ru_come (ls, pg, inp, lo, am) s) := by
        unfold ru_top
        by_cases hd : rs_d (ru_come (ls, pg, inp, lo, am) s) = 0
        · rw [hd, ru_ls_0, ru_ls_0]
          refine h _ (Nat.lt_of_lt_of_le ?_ hq0)
          unfold ru_a at hlt ⊢
          unfold ru_come at hd hlt ⊢
          by_cases c : ru_dp (ls, pg, inp, lo, am) (rs_s s) (rs_d s) = 0
          · rw [if_pos c] at hlt ⊢
            by_cases c2 : ru_low (ls, pg, inp, lo, am) s < (en_ls (ls, pg, inp, lo, am)).length
            · rw [if_pos c2]
              show (ru_up (rs_s s) 0 ((rs_s s 0).1, ru_low (ls, pg, inp, lo, am) s) 0).2 < max (rs_q s) (ru_low (ls, pg, inp, lo, am) s + 1)
              rw [ru_up_eq]
              show ru_low (ls, pg, inp, lo, am) s < _
              omega
            · rw [if_neg c2] at hlt
              exfalso
              have hlt : (ru_up (rs_s s) 0 ((rs_s s 0).1, ru_low (ls, pg, inp, lo, am) s) 0).2 < (ru_ls (ls, pg, inp, lo, am) (ru_up (rs_s s) 0 ((rs_s s 0).1, ru_low (ls, pg, inp, lo, am) s)) 0).length := hlt
              rw [ru_up_eq, ru_ls_0] at hlt
              exact c2 hlt
          · rw [if_neg c] at hd
            exact absurd hd c
        · rw [ru_ls_1 hd, ru_ls_1 hd]
          rfl
      rw [htop]
      generalize ru_come (ls, pg, inp, lo, am) s = s1 at h ⊢
      generalize ru_top (ls, pg, inp, lo, am) s1 = x at h ⊢
      have hqd : rs_q (ru_do (ls, pg, inp, lo, am) x (ru_pre s1)).1 ≤ rs_q (if (ru_do (ls, pg, inp, lo, am) x (ru_pre s1)).2 = 0 then ru_loop (ls, pg, inp, lo, am) n (ru_do (ls, pg, inp, lo, am) x (ru_pre s1)).1 else ((ru_do (ls, pg, inp, lo, am) x (ru_pre s1)).1, (ru_do (ls, pg, inp, lo, am) x (ru_pre s1)).2 - 1)).1 := by
        split
        · exact Nat.le_trans (rs_q_come (ls, pg, inp, lo, am) _) (rs_q_loop _ n _)
        · exact Nat.le_refl _
      have hdo : ru_do (ls', pg, inp, lo, am) x (ru_pre s1) = ru_do (ls, pg, inp, lo, am) x (ru_pre s1) := by
        generalize rs_q (if (ru_do (ls, pg, inp, lo, am) x (ru_pre s1)).2 = 0 then ru_loop (ls, pg, inp, lo, am) n (ru_do (ls, pg, inp, lo, am) x (ru_pre s1)).1 else ((ru_do (ls, pg, inp, lo, am) x (ru_pre s1)).1, (ru_do (ls, pg, inp, lo, am) x (ru_pre s1)).2 - 1)).1 = q at h hqd
        by_cases o5 : ln_or x = nI 5
        · unfold ru_do
          rw [if_pos o5, if_pos o5]
          rfl
        · by_cases o6 : ln_or x = nI 6
          · have e0 : ∀ l2, ru_do (l2, pg, inp, lo, am) x (ru_pre s1) = (ru_jump (l2, pg, inp, lo, am) x (ru_pre s1), 0) := fun l2 => by
              unfold ru_do
              rw [if_neg o5, if_pos o6]
            rw [e0] at hqd
            rw [e0, e0, hj x _ q h hqd]
          · by_cases o7 : ln_or x = nI 7
            · have hv : ∀ l2 v s, ru_val (l2, pg, inp, lo, am) v s = ru_val (ls, pg, inp, lo, am) v s := fun _ _ _ => rfl
              by_cases hh : ru_holds (ln_ts x) (ru_val (ls, pg, inp, lo, am) (ln_A x) (ru_pre s1)) (ru_val (ls, pg, inp, lo, am) (ln_B x) (ru_got (ln_A x) (ru_pre s1))) = true
              · have e0 : ∀ l2, ru_do (l2, pg, inp, lo, am) x (ru_pre s1) = (ru_jump (l2, pg, inp, lo, am) x (ru_got (ln_B x) (ru_got (ln_A x) (ru_pre s1))), 0) := fun l2 => by
                  unfold ru_do
                  rw [if_neg o5, if_neg o6, if_pos o7, hv l2 (ln_A x) _, hv l2 (ln_B x) _, if_pos hh]
                rw [e0] at hqd
                rw [e0, e0, hj x _ q h hqd]
              · have e0 : ∀ l2, ru_do (l2, pg, inp, lo, am) x (ru_pre s1) = (ru_got (ln_B x) (ru_got (ln_A x) (ru_pre s1)), 0) := fun l2 => by
                  unfold ru_do
                  rw [if_neg o5, if_neg o6, if_pos o7, hv l2 (ln_A x) _, hv l2 (ln_B x) _, if_neg hh]
                rw [e0, e0]
            · unfold ru_do
              rw [if_neg o5, if_neg o5, if_neg o6, if_neg o6, if_neg o7, if_neg o7, hls]
              rfl
      rw [hdo]
      by_cases h0 : (ru_do (ls, pg, inp, lo, am) x (ru_pre s1)).2 = 0
      · rw [if_pos h0] at h
        rw [if_pos h0, if_pos h0]
        exact ih _ h
      · rw [if_neg h0, if_neg h0]
    · rw [if_neg hi, if_neg hi]
/-! the table -/
def dk_ (P : ps_T) (ls : List ln_T) (r lo k : Nat) : Bool := match tx_gv (ps_t P) k with
  | none => false
  | some g => decide (od2_ (en_of (ps_p P) (ps_t P) ls lo k none) r (ps_f P) ≠ (0, g))
/-- the first trial of the table that these lines don't do -/
def df_ (P : ps_T) (ls : List ln_T) (r lo : Nat) : Nat := fa_first (dk_ P ls r lo) (ps_t P).length
def dt_ (P : ps_T) (ls : List ln_T) (r lo : Nat) : Bool := decide (df_ P ls r lo = (ps_t P).length)
/-- how far the run looked that fails -/
def dq_ (P : ps_T) (ls : List ln_T) (r lo : Nat) : Nat := rs_q (ru_run (en_of (ps_p P) (ps_t P) ls lo (df_ P ls r lo) (tx_gv (ps_t P) (df_ P ls r lo))) r (ps_f P)).1
theorem dt_same {P : ps_T} {ls ls' : List ln_T} {r lo : Nat} (hl : ls'.length = ls.length) (h : dt_ P ls r lo = false) (hq : ∀ i, i < dq_ P ls r lo → ln_at ls' i = ln_at ls i) : dt_ P ls' r lo = false := by
  have hle : df_ P ls r lo ≤ (ps_t P).length := fa_first_le _ _
  have hlt : df_ P ls r lo < (ps_t P).length := by
    have := of_decide_eq_false h
    omega
  have hy : dk_ P ls r lo (df_ P ls r lo) = true := fa_first_yes _ _ hlt
  unfold dq_ at hq
  generalize df_ P ls r lo = f at hlt hy hq
  have hy2 : dk_ P ls' r lo f = true := by
    unfold dk_ at hy ⊢
    split at hy
    · cases hy
    · rename_i g eg
      rw [eg] at hq
      have e1 : ru_run (en_of (ps_p P) (ps_t P) ls' lo f (some g)) r (ps_f P) = ru_run (en_of (ps_p P) (ps_t P) ls lo f (some g)) r (ps_f P) := ru_deep hl _ _ hq
      have i1 := od_aim (p := ps_p P) (t := ps_t P) (ls := ls) (fu := ps_f P) (r := r) (lo := lo) (k := f) (q := 0) (a := g) (by decide)
      have i2 := od_aim (p := ps_p P) (t := ps_t P) (ls := ls') (fu := ps_f P) (r := r) (lo := lo) (k := f) (q := 0) (a := g) (by decide)
      refine decide_eq_true (fun z => ?_)
      have hy := of_decide_eq_true hy
      apply hy
      rw [← i1]
      rw [← i2] at z
      unfold od2_ at z ⊢
      rw [e1] at z
      exact z
  refine decide_eq_false (fun z => ?_)
  have := fa_first_no (dk_ P ls' r lo) (ps_t P).length f (by rw [show fa_first (dk_ P ls' r lo) (ps_t P).length = df_ P ls' r lo from rfl, z]; exact hlt)
  rw [hy2] at this
  cases this
theorem s_table {l : Launch} {κ : mm_K} {d : Nat} {G : mm_G} {K : Int32 → mm_G → Prop} {P : ps_T} {r lo c : Nat} {ls : List ln_T} (hP : ps_ok P) (hC : cB_ G P) (hr : r < (ps_p P).length) (hc : c ∈ rc_L) (hro : ro_ G c ls) (hnm : mg_i G c 2 = nI r) (hx : ∀ x ∈ ls, ln_ok r x) (hlo : lo < 65536)
    (h : ∀ G', fr_ fc_ G G' → (dt_ P ls r lo = false → mg_i G' 91 5 + nI 1 = nI (dq_ P ls r lo) ∧ dq_ P ls r lo ≤ ls.length) → K (if dt_ P ls r lo then nI 1 else nI 0) G') : mC l κ true (d + 3) 0 0 m_X8_doesTable [.ref 171, .ref c, .int (nI lo)] G (rI K) := by
  have ht := hP.2.1.1
  have hR := rc_row hc
  have hcn := (rc_ne hc).1
  refine e_X8_doesTable _ hR _ ?_
  suffices H : ∀ n k G1, k + n = (ps_t P).length → fr_ fc_ G G1 → (∀ q, q < k → dk_ P ls r lo q = false) → mV l κ true (d + 3) 0 0 m_X8_doesTable 2 [some (.ref 171), some (.ref c), some (.int (nI lo)), some (.int (nI k))] [] G1 (rI K) from H _ 0 G (Nat.zero_add _) fr_.rfl' (fun q hq => absurd hq (Nat.not_lt_zero q))
  intro n
  induction n with
  | zero =>
    intro k G1 hk hf hno
    have hC1 := hC.on hP (hf.on (fun c k q => fc_on q)) (by rw [hf.1]; exact Nat.le_refl _)
    refine p_X8_doesTable_2 _ hR _ _ ⟨fun _ => ?_, fun z => absurd (by rw [hC1.2.1.1]; exact nI_le (by omega) (by omega)) z⟩
    have ht2 : dt_ P ls r lo = true := decide_eq_true (ff_no (fun q hq => hno q (by omega)))
    have h := h G1 hf (fun y => by rw [ht2] at y; cases y)
    rw [ht2] at h
    exact h
  | succ n ih =>
    intro k G1 hk hf hno
    have hC1 := hC.on hP (hf.on (fun c k q => fc_on q)) (by rw [hf.1]; exact Nat.le_refl _)
    obtain ⟨-, -, u3, u4⟩ := hC1.2.1.2.2 k (by omega)
    have hstep : ∀ G2, fr_ fc_ G G2 → dk_ P ls r lo k = false → mV l κ true (d + 3) 0 0 m_X8_doesTable 2 [some (.ref 171), some (.ref c), some (.int (nI lo)), some (.int (nI k + nI 1))] [] G2 (rI K) := by
      intro G2 f2 hd
      rw [nI_add]
      refine ih (k + 1) G2 (by omega) f2 (fun q hq => ?_)
      rcases Nat.lt_succ_iff_lt_or_eq.mp hq with y | y
      · exact hno q y
      · subst y; exact hd
    refine p_X8_doesTable_2 _ hR _ _ ⟨fun z => absurd z (by rw [hC1.2.1.1]; exact nI_ge (by omega) (by omega)), fun _ => ⟨(ki_vp (by omega)).2 (by omega), ?_⟩⟩
    rw [nI_clamp (by omega)]
    cases eg : tx_gv (ps_t P) k with
    | none =>
      rw [show mg_i G1 74 k = nI 0 from u3 eg]
      exact ⟨fun _ => hstep G1 hf (by unfold dk_; rw [eg]), fun y => absurd rfl y⟩
    | some g =>
      obtain ⟨g1, g2, g3⟩ := u4 g eg
      rw [show mg_i G1 74 k = nI 1 from g1]
      refine ⟨fun y => absurd y (by decide), fun _ => ⟨(ki_vp (by omega)).2 (by omega), ?_⟩⟩
      have hD : DeedAt (75 + 2 * k) := mm_deedP (mm_deed1 k (by omega)).1
      have hen : en_ok (en_of (ps_p P) (ps_t P) ls lo k (some g)) r := en_of_ok hP.1 hP.2.1 hr hro.2.1 hx hlo
      refine s_runs1 (e := en_of (ps_p P) (ps_t P) ls lo k (some g)) (r := r) hD hen hP.2.2.1 hC1.2.1.2.1 (ce_of hP hC1 hc (hro.fc hf hcn) (by rw [hf.i _ _ (fc_F (by omega))]; exact hnm) (by omega)) ⟨_, rfl, hD, by omega, by omega, g2⟩ (fun G2 k1 k2 k3 => ⟨(ki_vp (by omega)).2 (by omega), ?_⟩)
      obtain ⟨i1, i2, i3, i4⟩ := ru_run_ok (fu := ps_f P) hen
      refine s_isLike (o := od2_ (en_of (ps_p P) (ps_t P) ls lo k (some g)) r (ps_f P)) (p := (0, g)) mm_deed3 hD (k1.cd i1.2.2.2.1) k3 (show cd_ G2 (75 + 2 * k) g from g2.fr k2 (fc_F (by omega)) (fun j => fc_F (by omega))) (by rw [k2.i _ _ (fc_F (by omega))]; exact g3) (by have : (ru_run (en_of (ps_p P) (ps_t P) ls lo k (some g)) r (ps_f P)).2 ≤ 4 := i3; exact Nat.lt_of_le_of_lt this (by decide)) (show 0 < 100 by decide) ?_
      have hiff := od_aim (p := ps_p P) (t := ps_t P) (ls := ls) (fu := ps_f P) (r := r) (lo := lo) (k := k) (q := 0) (a := g) (by decide)
      by_cases ceq : od2_ (en_of (ps_p P) (ps_t P) ls lo k none) r (ps_f P) = (0, g)
      · rw [if_pos (hiff.2 ceq)]
        exact ⟨fun _ => hstep G2 (hf.trans k2) (by unfold dk_; rw [eg]; exact decide_eq_false (fun y => y ceq)), fun y => absurd y (by decide)⟩
      · rw [if_neg (fun q => ceq (hiff.1 q))]
        refine ⟨fun y => absurd rfl y, fun _ => ?_⟩
        have hdf : df_ P ls r lo = k := ff_at hno (by unfold dk_; rw [eg]; exact decide_eq_true ceq) (by omega)
        have hF : dt_ P ls r lo = false := decide_eq_false (by rw [hdf]; omega)
        have hk := h G2 (hf.trans k2) (fun _ => by
          unfold dq_
          rw [hdf, eg]
          exact ⟨k1.2.2.1, i1.2.2.2.2.2.2⟩)
        rw [hF] at hk
        exact hk
theorem t_table {l : Launch} {κ : mm_K} {d : Nat} {G : mm_G} {K : Int32 → mm_G → Prop} {P : ps_T} {m r lo : Nat} {ls : List ln_T} {pl : Nat → Nat} (hP : ps_ok P) (hM : mB_ G P m) (hr : r < (ps_p P).length) (hp : mp_ G ls lo r pl) (hls : ls.length ≤ 16) (hx : ∀ x ∈ ls, ln_ok r x) (hlo : lo < 65536)
    (h : ∀ G', fr_ fm_ G G' → K (if dt_ P ls r lo then nI 1 else nI 0) G') : mC l κ true (d + 5) 0 0 m_X13_doesTable [.ref 226] G (rI K) := by
  have ht := hP.2.1.1
  have hm := hM.1
  refine e_X13_doesTable ?_
  suffices H : ∀ n k G1, k + n = (ps_t P).length → fr_ fm_ G G1 → (∀ q, q < k → dk_ P ls r lo q = false) → mV l κ true (d + 5) 0 0 m_X13_doesTable 2 [some (.ref 226), some (.int (nI k)), none, none] [] G1 (rI K) from H _ 0 G (Nat.zero_add _) fr_.rfl' (fun q hq => absurd hq (Nat.not_lt_zero q))
  intro n
  induction n with
  | zero =>
    intro k G1 hk hf hno
    have hM1 := hM.fm hf
    refine p_X13_doesTable_2 _ ?_
    rw [hM1.2.1, nI_clamp (by omega), hM1.2.2.2.1.1]
    refine ⟨(ki_vp (by omega)).2 (by omega), fun _ => ?_, fun z => absurd (nI_le (by omega) (by omega)) z⟩
    have ht2 : dt_ P ls r lo = true := decide_eq_true (ff_no (fun q hq => hno q (by omega)))
    have h := h G1 hf
    rw [ht2] at h
    exact h
  | succ n ih =>
    intro k G1 hk hf hno
    have hM1 := hM.fm hf
    obtain ⟨-, -, u3, u4⟩ := hM1.2.2.2.1.2.2 k (by omega)
    have hstep : ∀ G2, fr_ fm_ G G2 → dk_ P ls r lo k = false → mV l κ true (d + 5) 0 0 m_X13_doesTable 2 [some (.ref 226), some (.int (nI k + nI 1)), none, none] [] G2 (rI K) := by
      intro G2 f2 hd
      rw [nI_add]
      refine ih (k + 1) G2 (by omega) f2 (fun q hq => ?_)
      rcases Nat.lt_succ_iff_lt_or_eq.mp hq with y | y
      · exact hno q y
      · subst y; exact hd
    have hfail : ∀ G2, fr_ fm_ G G2 → dk_ P ls r lo k = true → K (nI 0) G2 := by
      intro G2 f2 hd
      have hdf : df_ P ls r lo = k := ff_at hno hd (by omega)
      have hF : dt_ P ls r lo = false := decide_eq_false (by rw [hdf]; omega)
      have hk := h G2 f2
      rw [hF] at hk
      exact hk
    refine p_X13_doesTable_2 _ ?_
    rw [hM1.2.1, nI_clamp (by omega), hM1.2.2.2.1.1, ki_mul, nI_add, nI_clamp (by omega)]
    refine ⟨(ki_vp (by omega)).2 (by omega), fun z => absurd z (nI_ge (by omega) (by omega)), fun _ => ⟨(ki_vp (by omega)).2 (by omega), ?_⟩⟩
    cases eg : tx_gv (ps_t P) k with
    | none =>
      rw [u3 eg]
      exact ⟨fun y => absurd rfl y, fun _ => hstep G1 hf (by unfold dk_; rw [eg])⟩
    | some g =>
      obtain ⟨g1, g2⟩ := u4 g eg
      have hg8 := (hP.2.1.2 k).2 g eg
      rw [g1, ki_m1 (by omega)]
      refine ⟨fun _ => ?_, fun y => y.elim⟩
      have hen : en_ok (en_of (ps_p P) (ps_t P) ls lo k none) r := en_of_ok hP.1 hP.2.1 hr hls hx hlo
      obtain ⟨i1, i2, i3, i4⟩ := ru_run_ok (fu := ps_f P) hen
      have o8 := i1.2.2.2.1
      refine t_run1 hP hM1 (hp.fm hf) hr hls hx hlo (by omega) (fun G2 k1 k2 k3 => ?_)
      have e252 : mg_i G2 252 (8 * m + k) = nI g.length := by rw [k2.i _ _ (fm_F (by omega))]; exact g1
      rw [k3, k1.1, e252, ki_0, nI_eq (by omega) (by omega), nI_eq (by omega) (by omega)]
      have hdk : ∀ b, (od2_ (en_of (ps_p P) (ps_t P) ls lo k none) r (ps_f P) = (0, g) ↔ b = false) → dk_ P ls r lo k = b := by
        intro b hb
        unfold dk_
        rw [eg]
        show decide _ = b
        cases b with
        | false => exact decide_eq_false (fun y => y (hb.2 rfl))
        | true => exact decide_eq_true (fun y => by have := hb.1 y; cases this)
      refine ⟨fun z => hfail G2 (hf.trans k2) (hdk true ⟨fun y => absurd (congrArg Prod.fst y) z, fun y => by cases y⟩), fun z => ⟨(ki_vp (by omega)).2 (by omega), fun z2 => ?_, fun z2 => hfail G2 (hf.trans k2) (hdk true ⟨fun y => absurd (by rw [show g = rs_o (ru_run (en_of (ps_p P) (ps_t P) ls lo k none) r (ps_f P)).1 from (congrArg Prod.snd y).symm]) z2, fun y => by cases y⟩)⟩⟩
      suffices H2 : ∀ n2 j, j + n2 = g.length → (∀ q, q < j → (rs_o (ru_run (en_of (ps_p P) (ps_t P) ls lo k none) r (ps_f P)).1).getD q (nI 0) = g.getD q (nI 0)) → mV l κ true (d + 5) 0 0 m_X13_doesTable 67 [some (.ref 226), some (.int (nI k)), some (.int (nI (8 * m + k))), some (.int (nI j))] [] G2 (rI K) from H2 g.length 0 (Nat.zero_add _) (fun q hq => absurd hq (Nat.not_lt_zero q))
      intro n2
      induction n2 with
      | zero =>
        intro j hj hq
        refine p_X13_doesTable_67 _ _ _ ⟨fun _ => hstep G2 (hf.trans k2) (hdk false ⟨fun _ => rfl, fun _ => Prod.ext z (ls_ext z2 (fun q y => hq q (by have y : q < (rs_o (ru_run (en_of (ps_p P) (ps_t P) ls lo k none) r (ps_f P)).1).length := y; omega)))⟩), fun y => absurd (by rw [k1.1]; exact nI_le (by omega) (by omega)) y⟩
      | succ n2 ih2 =>
        intro j hj hq
        refine p_X13_doesTable_67 _ _ _ ⟨fun y => absurd y (by rw [k1.1]; exact nI_ge (by omega) (by omega)), fun _ => ⟨(ki_vp (by omega)).2 (by omega), ?_⟩⟩
        have e253 : mg_i G2 253 (8 * (8 * m + k) + j) = g.getD j (nI 0) := by rw [k2.i _ _ (fm_F (by omega))]; exact g2 j (by omega)
        rw [ki_mul, nI_add, nI_clamp (by omega), nI_clamp (by omega), k1.2.2.1 j (by omega), e253]
        refine ⟨(ki_vp (by omega)).2 (by omega), fun y => ?_, fun y => hfail G2 (hf.trans k2) (hdk true ⟨fun w => absurd (by rw [show g = rs_o (ru_run (en_of (ps_p P) (ps_t P) ls lo k none) r (ps_f P)).1 from (congrArg Prod.snd w).symm]) y, fun w => by cases w⟩)⟩
        rw [nI_add]
        refine ih2 (j + 1) (by omega) (fun q w => ?_)
        rcases Nat.lt_succ_iff_lt_or_eq.mp w with u | u
        · exact hq q u
        · subst u; exact y
def an_does (P : ps_T) (a b : Int32) : Int32 := match ix2_ P two_ a b with
  | none => -1
  | some (r, lo) => if dt_ P (px_at (ps_p P) r) r lo then nI 1 else nI 0
theorem c_does {l : Launch} {κ : mm_K} {d : Nat} {G : mm_G} {K : Int32 → mm_G → Prop} {P : ps_T} (a b : Int32) (hP : ps_ok P) (hC : cB_ G P) (h : ∀ G', fr_ fc_ G G' → K (an_does P a b) G') : mC l κ true (d + 4) 0 0 m_X12_does [.ref 0, .int a, .int b] G (rI K) := by
  have hp := hP.1.1
  unfold an_does at h
  refine e_X12_does a b (s_hasLost a b hP hC (fun e => ⟨fun q => absurd (by decide) q, fun _ => ?_⟩) (fun r lo e hr ea hlo eb => ⟨fun _ => ?_, fun q => absurd q (by decide)⟩))
  · rw [e] at h; exact h G fr_.rfl'
  · rw [e] at h
    subst ea eb
    rw [nI_clamp (by omega)]
    refine ⟨(ki_vp (by omega)).2 (by omega), s_table hP hC hr (rc_54 (by omega)) (hC.1.2.1 r hr) (hC.2.2.1 r (by omega)).2.1 (px_ok hP hr) (lo_lt hP hlo) (fun G2 f2 _ => ?_)⟩
    have hh := h G2 f2
    simp only [] at hh
    cases c : dt_ P (px_at (ps_p P) r) r lo with
    | true => rw [c] at hh; exact ⟨fun z => absurd z (by decide), fun _ => hh⟩
    | false => rw [c] at hh; exact ⟨fun _ => hh, fun z => absurd rfl z⟩
theorem m_does {l : Launch} {κ : mm_K} {d : Nat} {G : mm_G} {K : Int32 → mm_G → Prop} {P : ps_T} {m : Nat} (a b : Int32) (hP : ps_ok P) (hM : mB_ G P m) (h : ∀ G', fr_ fg_ G G' → K (an_does P a b) G') : mC l κ true (d + 6) 0 0 m_X13_does [.ref 226, .int a, .int b] G (rI K) := by
  unfold an_does at h
  refine e_X13_does a b (t_isLost a b hP hM (fun e => ⟨fun q => absurd (by decide) q, fun _ => ?_⟩) (fun r lo e hr ea hlo eb => ⟨fun _ => ?_, fun q => absurd q (by decide)⟩))
  · rw [e] at h; exact h G fr_.rfl'
  · rw [e] at h
    subst ea eb
    refine t_takesRow lo hP hM hr (fun G1 p1 f1 => t_table hP (hM.fg f1.tg) hr p1 (hP.1.2.2 r) (px_ok hP hr) (lo_lt hP hlo) (fun G2 f2 => ?_))
    have hh := h G2 (f1.tg.trans f2.mg)
    simp only [] at hh
    cases c : dt_ P (px_at (ps_p P) r) r lo with
    | true => rw [c] at hh; exact ⟨fun z => absurd z (by decide), fun _ => hh⟩
    | false => rw [c] at hh; exact ⟨fun _ => hh, fun z => absurd rfl z⟩
