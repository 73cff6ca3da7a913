/-! the reference does a line -/
theorem t_valueOf {l : Launch} {κ : mm_K} {d : Nat} {G : mm_G} {K : Int32 → mm_G → Prop} {e : en_T} {a r t : Nat} {pl : Nat → Nat} {s : rs_T} (v : Int32 × Int32) (hv : ln_okv v) (he : en_ok e r) (hE : me_ G e a r t pl) (hS : mt_ G r t pl s) (hk : rs_k s < 2000)
    (h : ∀ G', mt_ G' r t pl (ru_got v s) → fr_ fm_ G G' → mg_i G' 226 55 = mg_i G 226 55 → K (ru_val e v s) G') : mC l κ true d 0 0 m_X13_valueOf [.ref 226, .int v.1, .int v.2] G (rI K) := by
  obtain ⟨a1, a2, a3, a4, a5, a6, a7, a8, a9, a10, a11⟩ := hE
  have hin := he.2.2.2.2.2.2.2
  have hS0 := hS
  obtain ⟨⟨h1, h2, h3, h4, h5⟩, h6, h7, h8, h9, h10⟩ := hS
  refine e_X13_valueOf v.1 v.2 ⟨fun q0 => ⟨fun q1 => ?_, fun q1 => ?_⟩, fun q0 => ?_⟩
  · rw [ki_0] at q0
    have hv0 : ru_val e v s = (en_in e).getD (rs_k s) (nI 0) := by unfold ru_val; rw [if_neg q0, if_neg q1]
    have hg : ru_got v s = (rs_c s, rs_k s + 1, rs_o s, rs_t s, rs_d s, rs_s s, rs_m s, rs_q s) := by unfold ru_got; rw [if_neg q0, if_neg q1]
    rw [hv0, hg] at h
    rw [a2, h7, h6, ki_mul, nI_add, nI_clamp (by omega), a10, nI_leI (by omega) (by omega), nI_add, ki_mul, nI_add, nI_clamp (by omega)]
    have hn : mt_ (ms_i G 226 49 (nI (rs_k s + 1))) r t pl (rs_c s, rs_k s + 1, rs_o s, rs_t s, rs_d s, rs_s s, rs_m s, rs_q s) := by
      refine ⟨⟨?_, ?_, ?_, ?_, ?_⟩, ?_, ?_, ?_, ?_, ?_⟩ <;> try simp only [mg_i_i, mg_i_l, mg_i_r, mg_i_b, mg_l_i, mg_l_l, mg_l_r, mg_l_b, mg_r_i, mg_r_l, mg_r_r, mg_r_b, false_and, and_false, true_and, and_true, reduceCtorEq, if_true, if_false, reduceIte, Nat.reduceEqDiff, Nat.reduceAdd, Nat.succ_ne_self, ne_eq, not_false_eq_true, not_true_eq_false] <;> try assumption
      rfl
    refine ⟨(ki_vp (by omega)).2 (by omega), fun c1 => ?_, fun c1 => ⟨(ki_vp (by omega)).2 (by omega), ?_⟩⟩
    · rw [ld_ge _ c1] at h
      exact h _ hn (fr_.rfl'.si rfl) (by simp only [mg_i_i, mg_i_l, mg_i_r, mg_i_b, mg_l_i, mg_l_l, mg_l_r, mg_l_b, mg_r_i, mg_r_l, mg_r_r, mg_r_b, false_and, and_false, true_and, and_true, reduceCtorEq, if_true, if_false, reduceIte, Nat.reduceEqDiff, Nat.reduceAdd, Nat.succ_ne_self, ne_eq, not_false_eq_true, not_true_eq_false])
    · rw [a11 _ (by omega)]
      exact h _ hn (fr_.rfl'.si rfl) (by simp only [mg_i_i, mg_i_l, mg_i_r, mg_i_b, mg_l_i, mg_l_l, mg_l_r, mg_l_b, mg_r_i, mg_r_l, mg_r_r, mg_r_b, false_and, and_false, true_and, and_true, reduceCtorEq, if_true, if_false, reduceIte, Nat.reduceEqDiff, Nat.reduceAdd, Nat.succ_ne_self, ne_eq, not_false_eq_true, not_true_eq_false])
  · rw [ki_0] at q0
    have hv0 : ru_val e v s = rs_c s v.2.toNatClampNeg := by unfold ru_val; rw [if_neg q0, if_pos q1]
    have hg : ru_got v s = s := by unfold ru_got; rw [if_neg q0, if_pos q1]; rfl
    rw [hv0, hg] at h
    rcases hv with z | ⟨z, j, hj, z2⟩ | z
    · exact absurd z q0
    · rw [z2, nI_clamp (by omega)] at h ⊢
      rw [h4 j hj]
      exact ⟨(ki_vp (by omega)).2 hj, h G hS0 fr_.rfl' rfl⟩
    · rw [z] at q1
      exact absurd ((nI_eq (by omega) (by omega)).1 q1) (by omega)
  · rw [ki_0] at q0
    have hv0 : ru_val e v s = v.2 := by unfold ru_val; rw [if_pos q0]
    have hg : ru_got v s = s := by unfold ru_got; rw [if_pos q0]; rfl
    rw [hv0, hg] at h
    exact h G hS0 fr_.rfl' rfl
theorem mt_.at' {G : mm_G} {r t : Nat} {pl : Nat → Nat} {s : rs_T} (h : mt_ G r t pl s) (a m q : Nat) : mt_ (ms_i G 261 (rs_d s) (nI a)) r t pl (rs_c s, rs_k s, rs_o s, rs_t s, rs_d s, ru_to s a, m, q) := by
  obtain ⟨⟨h1, h2, h3, h4, h5⟩, h6, h7, h8, h9, h10⟩ := h
  refine ⟨⟨?_, ?_, ?_, ?_, ?_⟩, ?_, ?_, ?_, ?_, ?_⟩ <;> try simp only [mg_i_i, mg_i_l, mg_i_r, mg_i_b, mg_l_i, mg_l_l, mg_l_r, mg_l_b, mg_r_i, mg_r_l, mg_r_r, mg_r_b, false_and, and_false, true_and, and_true, reduceCtorEq, if_true, if_false, reduceIte, Nat.reduceEqDiff, Nat.reduceAdd, Nat.succ_ne_self, ne_eq, not_false_eq_true, not_true_eq_false] <;> try assumption
  · intro j hj
    show mg_i G 260 j = if j = 0 then -1 else nI (ru_to s a j).1
    rw [ru_to_1]
    exact h9 j hj
  · intro j hj
    show (if j = rs_d s then nI a else mg_i G 261 j) = nI (ru_to s a j).2
    rw [ru_to_2]
    split
    · rfl
    · exact h10 j hj
theorem mt_.stop {G : mm_G} {r t : Nat} {pl : Nat → Nat} {s : rs_T} (h : mt_ G r t pl s) (x : Int32) : mt_ (ms_i G 226 55 x) r t pl s := by
  obtain ⟨⟨h1, h2, h3, h4, h5⟩, h6, h7, h8, h9, h10⟩ := h
  refine ⟨⟨?_, ?_, ?_, ?_, ?_⟩, ?_, ?_, ?_, ?_, ?_⟩ <;> try simp only [mg_i_i, mg_i_l, mg_i_r, mg_i_b, mg_l_i, mg_l_l, mg_l_r, mg_l_b, mg_r_i, mg_r_l, mg_r_r, mg_r_b, false_and, and_false, true_and, and_true, reduceCtorEq, if_true, if_false, reduceIte, Nat.reduceEqDiff, Nat.reduceAdd, Nat.succ_ne_self, ne_eq, not_false_eq_true, not_true_eq_false] <;> try assumption
theorem mt_.ghost {G : mm_G} {r t : Nat} {pl : Nat → Nat} {s : rs_T} (h : mt_ G r t pl s) (m q : Nat) : mt_ G r t pl (rs_c s, rs_k s, rs_o s, rs_t s, rs_d s, rs_s s, m, q) := h
/-- a jump -/
theorem t_jumps {l : Launch} {κ : mm_K} {d : Nat} {G : mm_G} {K : mm_G → Prop} {e : en_T} {a r t : Nat} {pl : Nat → Nat} {s : rs_T} (x : ln_T) (he : en_ok e r) (hE : me_ G e a r t pl) (hS : mt_ G r t pl s) (hk : rs_ok e r s)
    (h : ∀ G', mt_ G' r t pl (ru_jump e x s) → fr_ fm_ G G' → mg_i G' 226 55 = mg_i G 226 55 → K G') : mC l κ true (d + 2) 0 0 m_X13_jumps [.ref 226, .long (ln_lb x)] G (rV K) := by
  have hr : r < 4 := by have := he.2.2.1; have := he.2.2.2.2.2.1; omega
  have hd := hk.dle
  have hn := ru_ls_le he (rs_s s) (rs_d s)
  have h4 := hS.2.2.2.1
  refine e_X13_jumps _ ?_
  suffices H : ∀ n i, i + n = (ru_ls e (rs_s s) (rs_d s)).length → (∀ k, k < i → (decide (ln_nm (ln_at (ru_ls e (rs_s s) (rs_d s)) k) = ln_lb x) && !(if rs_d s = 0 then en_lo e else 0).testBit k) = false) → mV l κ true (d + 2) 0 0 m_X13_jumps 2 [some (.ref 226), some (.long (ln_lb x)), none, some (.int (nI i))] [] G (rV K) from H _ 0 (Nat.zero_add _) (fun k hk => absurd hk (Nat.not_lt_zero k))
  intro n
  induction n with
  | zero =>
    intro i hi hp
    have e1 : ru_fd e x s = (ru_ls e (rs_s s) (rs_d s)).length := ff_no (fun k hk => hp k (by omega))
    have hj : ru_jump e x s = (rs_c s, rs_k s, rs_o s, rs_t s, rs_d s, rs_s s, rs_m s, rs_q (ru_jump e x s)) := by
      unfold ru_jump
      rw [e1, if_neg (Nat.lt_irrefl _)]
      rfl
    rw [hj] at h
    refine p_X13_jumps_2 _ _ (t_topLines he hE hS hk ⟨fun _ => h G hS fr_.rfl' rfl, fun z => absurd (nI_le (by omega) (by omega)) z⟩)
  | succ n ih =>
    intro i hi hp
    refine p_X13_jumps_2 _ _ (t_topLines he hE hS hk ⟨fun z => absurd z (nI_ge (by omega) (by omega)), fun _ => ?_⟩)
    have hnx : (decide (ln_nm (ln_at (ru_ls e (rs_s s) (rs_d s)) i) = ln_lb x) && !(if rs_d s = 0 then en_lo e else 0).testBit i) = false → mV l κ true (d + 2) 0 0 m_X13_jumps 2 [some (.ref 226), some (.long (ln_lb x)), none, some (.int (nI i + nI 1))] [] G (rV K) := by
      intro hq
      rw [nI_add]
      refine ih (i + 1) (by omega) (fun k hk => ?_)
      rcases Nat.lt_succ_iff_lt_or_eq.mp hk with hk | hk
      · exact hp k hk
      · subst hk; exact hq
    refine t_isThere (a := a) (r := r) (t := t) (pl := pl) he hE.2.2.2.2.1 h4 (by omega) (mt_top he hS hk).1 (by omega) ⟨fun z => ?_, fun z => t_topLine he hE hS hk (by omega) (fun p hp1 hp2 => ?_)⟩
    · refine hnx ?_
      by_cases c0 : rs_d s = 0 ∧ (en_lo e).testBit i = true
      · rw [if_pos c0.1, c0.2]
        simp
      · rw [if_neg c0] at z
        exact absurd z (by decide)
    · have c0 : ¬ (rs_d s = 0 ∧ (en_lo e).testBit i = true) := fun c0 => by rw [if_pos c0] at z; exact absurd rfl z
      have hb : (if rs_d s = 0 then en_lo e else 0).testBit i = false := by
        by_cases c1 : rs_d s = 0
        · rw [if_pos c1]
          by_cases c2 : (en_lo e).testBit i = true
          · exact absurd ⟨c1, c2⟩ c0
          · simpa using c2
        · rw [if_neg c1]; exact Nat.zero_testBit i
      have en : mg_l G 246 p = ln_nm (ln_at (ru_ls e (rs_s s) (rs_d s)) i) := by rw [← hp2]; rfl
      rw [nI_clamp (by omega), en, ki_0, ki_cmp, h4, nI_clamp (by omega)]
      refine ⟨(ki_vp (by omega)).2 hp1, fun z2 => ⟨(ki_vp (by omega)).2 (by omega), ?_⟩, fun z2 => hnx (by rw [decide_eq_false z2]; rfl)⟩
      have e1 : ru_fd e x s = i := ff_at hp (by rw [decide_eq_true z2, hb]; rfl) (by omega)
      have hj : ru_jump e x s = (rs_c s, rs_k s, rs_o s, rs_t s, rs_d s, ru_to s i, rs_m s, rs_q (ru_jump e x s)) := by
        unfold ru_jump
        rw [e1, if_pos (by omega)]
        rfl
      rw [hj] at h
      exact h _ (hS.at' i _ _) (fr_.rfl'.si rfl) (by simp only [mg_i_i, mg_i_l, mg_i_r, mg_i_b, mg_l_i, mg_l_l, mg_l_r, mg_l_b, mg_r_i, mg_r_l, mg_r_r, mg_r_b, false_and, and_false, true_and, and_true, reduceCtorEq, if_true, if_false, reduceIte, Nat.reduceEqDiff, Nat.reduceAdd, Nat.succ_ne_self, ne_eq, not_false_eq_true, not_true_eq_false])
theorem rm_or {G : mm_G} {y : Nat} {x : ln_T} (h : rd_m G y = x) : mg_i G 237 y = ln_or x := by rw [← h]; rfl
theorem rm_A {G : mm_G} {y k : Nat} {x : ln_T} (h : rd_m G y = x) (ho : ln_or x = nI k) (hk : k ≤ 5 ∨ k = 7) : ln_A x = (mg_i G 239 y, mg_i G 240 y) := by
  have e1 := (rm_or h).trans ho
  rw [← h]
  unfold rd_m ln_mk ln_A
  rw [e1]
  refine if_pos ?_
  rcases hk with hk | hk
  · exact Or.inl (nI_le hk (by omega))
  · subst hk; exact Or.inr rfl
theorem rm_ct {G : mm_G} {y k : Nat} {x : ln_T} (h : rd_m G y = x) (ho : ln_or x = nI k) (hk : k ≤ 4) : ln_ct x = mg_i G 238 y := by
  have e1 := (rm_or h).trans ho
  rw [← h]
  unfold rd_m ln_mk ln_ct
  rw [e1]
  exact if_pos (nI_le hk (by omega))
theorem rm_7 {G : mm_G} {y : Nat} {x : ln_T} (h : rd_m G y = x) (ho : ln_or x = nI 7) : ln_B x = (mg_i G 241 y, mg_i G 242 y) ∧ ln_ts x = mg_i G 243 y - nI 9 ∧ ln_lb x = mg_l G 247 y := by
  have e1 := (rm_or h).trans ho
  rw [← h]
  unfold rd_m ln_mk ln_B ln_ts ln_lb
  rw [e1]
  exact ⟨rfl, rfl, rfl⟩
theorem rm_6 {G : mm_G} {y : Nat} {x : ln_T} (h : rd_m G y = x) (ho : ln_or x = nI 6) : ln_lb x = mg_l G 247 y := by
  have e1 := (rm_or h).trans ho
  rw [← h]
  unfold rd_m ln_mk ln_lb
  rw [e1]
  rfl
theorem rm_8 {G : mm_G} {y : Nat} {x : ln_T} (h : rd_m G y = x) (ho : ln_or x = nI 8) : ln_cl x = mg_i G 244 y := by
  have e1 := (rm_or h).trans ho
  rw [← h]
  unfold rd_m ln_mk ln_cl
  rw [e1]
  rfl
