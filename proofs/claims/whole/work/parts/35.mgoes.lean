/-! the reference: what is asked first, and a run of a row -/
theorem t_in {l : Launch} {κ : mm_K} {d : Nat} {G : mm_G} {K : Int32 → mm_G → Prop} {n : Nat} {b : Int32} (a : Int32) (hb : b + nI 1 = nI n) (hn : n < 2 ^ 31) (h0 : ix_ n a = none → K (nI 0) G) (h1 : ∀ r, ix_ n a = some r → r < n → a = nI r → K (nI 1) G) : mC l κ true d 0 0 m_X13_in [.int a, .int (nI 0), .int b] G (rI K) := by
  refine e_X13_in a _ _ ?_
  have e0 : (nI 0).toInt = 0 := nI_toInt (by omega)
  rw [fa_lt, fa_lt, ki_q hb hn, e0]
  cases e : ix_ n a with
  | none =>
    have h0 := h0 e
    refine ⟨fun _ => h0, fun q => ⟨fun _ => h0, fun q2 => ?_⟩⟩
    unfold ix_ at e
    rw [if_pos (by omega)] at e
    cases e
  | some r =>
    obtain ⟨z1, z2⟩ := ix_some hn e
    have hh := h1 r e z1 z2
    have e2 : a.toInt = (r : Int) := by rw [z2]; exact nI_toInt (by omega)
    exact ⟨fun q => absurd q (by omega), fun _ => ⟨fun q => absurd q (by omega), fun _ => hh⟩⟩
theorem t_isRow {l : Launch} {κ : mm_K} {d : Nat} {G : mm_G} {K : Int32 → mm_G → Prop} {P : ps_T} {a : Nat} (b : Int32) (hP : ps_ok P) (hM : mB_ G P a) (h0 : ix_ (ps_p P).length b = none → K (nI 0) G) (h1 : ∀ r, ix_ (ps_p P).length b = some r → r < (ps_p P).length → b = nI r → K (nI 1) G) : mC l κ true (d + 1) 0 0 m_X13_isRow [.ref 226, .int b] G (rI K) := by
  have hp := hP.1.1
  obtain ⟨a1, a2, a3, -⟩ := hM
  refine e_X13_isRow b ?_
  rw [a2, nI_clamp (by omega), a3.1]
  exact ⟨(ki_vp (by omega)).2 (by omega), t_in b (Int32.sub_add_cancel _ _) (by omega) (fun e => ⟨Or.inl rfl, h0 e⟩) (fun r e1 e2 e3 => ⟨Or.inr rfl, h1 r e1 e2 e3⟩)⟩
theorem t_isTrial {l : Launch} {κ : mm_K} {d : Nat} {G : mm_G} {K : Int32 → mm_G → Prop} {P : ps_T} {a : Nat} (b : Int32) (hP : ps_ok P) (hM : mB_ G P a) (h0 : ix_ (ps_t P).length b = none → K (nI 0) G) (h1 : ∀ r, ix_ (ps_t P).length b = some r → r < (ps_t P).length → b = nI r → K (nI 1) G) : mC l κ true (d + 1) 0 0 m_X13_isTrial [.ref 226, .int b] G (rI K) := by
  have ht := hP.2.1.1
  obtain ⟨a1, a2, a3, a4, -⟩ := hM
  refine e_X13_isTrial b ?_
  rw [a2, nI_clamp (by omega), a4.1]
  exact ⟨(ki_vp (by omega)).2 (by omega), t_in b (Int32.sub_add_cancel _ _) (by omega) (fun e => ⟨Or.inl rfl, h0 e⟩) (fun r e1 e2 e3 => ⟨Or.inr rfl, h1 r e1 e2 e3⟩)⟩
theorem t_lines {l : Launch} {κ : mm_K} {d : Nat} {G : mm_G} {K : Int32 → mm_G → Prop} {P : ps_T} {a r : Nat} (hP : ps_ok P) (hM : mB_ G P a) (hr : r < (ps_p P).length) (h : K (nI (px_at (ps_p P) r).length) G) : mC l κ true d 0 0 m_X13_linesOf [.ref 226, .int (nI r)] G (rI K) := by
  have hp := hP.1.1
  refine t_linesOf hM.2.1 hM.1 (by omega) ?_
  rw [(hM.2.2.1.2 r hr).1]
  exact h
theorem t_isLine {l : Launch} {κ : mm_K} {d : Nat} {G : mm_G} {K : Int32 → mm_G → Prop} {P : ps_T} {m : Nat} (a b : Int32) (hP : ps_ok P) (hM : mB_ G P m) (h0 : ix2_ P id a b = none → K (nI 0) G) (h1 : ∀ r i, ix2_ P id a b = some (r, i) → r < (ps_p P).length → a = nI r → i < (px_at (ps_p P) r).length → b = nI i → K (nI 1) G) : mC l κ true (d + 2) 0 0 m_X13_isLine [.ref 226, .int a, .int b] G (rI K) := by
  refine e_X13_isLine a b (t_isRow a hP hM (fun e => ⟨fun _ => h0 (by unfold ix2_; rw [e]), fun q => absurd (by decide) q⟩) (fun r e hr ea => ⟨fun q => absurd q (by decide), fun _ => ?_⟩))
  subst ea
  have hlen := hP.1.2.2 r
  refine t_lines hP hM hr (t_in b (Int32.sub_add_cancel _ _) (by omega) (fun e2 => ⟨fun _ => h0 ?_, fun q => absurd (by decide) q⟩) (fun i e2 hi ei => ⟨fun q => absurd q (by decide), fun _ => h1 r i ?_ hr rfl hi ei⟩))
  · unfold ix2_; rw [e]; simp only [id, e2]
  · unfold ix2_; rw [e]; simp only [id, e2]
theorem t_isLost {l : Launch} {κ : mm_K} {d : Nat} {G : mm_G} {K : Int32 → mm_G → Prop} {P : ps_T} {m : Nat} (a b : Int32) (hP : ps_ok P) (hM : mB_ G P m) (h0 : ix2_ P two_ a b = none → K (nI 0) G) (h1 : ∀ r i, ix2_ P two_ a b = some (r, i) → r < (ps_p P).length → a = nI r → i < 2 ^ (px_at (ps_p P) r).length → b = nI i → K (nI 1) G) : mC l κ true (d + 2) 0 0 m_X13_isLost [.ref 226, .int a, .int b] G (rI K) := by
  refine e_X13_isLost a b (t_isRow a hP hM (fun e => ⟨fun _ => h0 (by unfold ix2_; rw [e]), fun q => absurd (by decide) q⟩) (fun r e hr ea => ⟨fun q => absurd q (by decide), fun _ => ?_⟩))
  subst ea
  have hlen := hP.1.2.2 r
  have h16 := px_len_lt hlen
  refine t_lines hP hM hr ?_
  rw [ki_shl _ (by omega)]
  refine t_in (n := two_ (px_at (ps_p P) r).length) b (Int32.sub_add_cancel _ _) (by unfold two_; omega) (fun e2 => ⟨fun _ => h0 ?_, fun q => absurd (by decide) q⟩) (fun i e2 hi ei => ⟨fun q => absurd q (by decide), fun _ => h1 r i ?_ hr rfl hi ei⟩)
  · unfold ix2_; rw [e]; simp only [e2]
  · unfold ix2_; rw [e]; simp only [e2]
/-- the row that runs -/
def mp_ (G : mm_G) (ls : List ln_T) (lo r : Nat) (pl : Nat → Nat) : Prop := mg_i G 226 45 = nI ls.length ∧ mg_i G 226 46 = nI r ∧ mg_i G 226 47 = nI lo ∧ (∀ i, i < ls.length → ∃ p, p < 320 ∧ mg_i G 255 i = nI p ∧ rd_m G p = ln_at ls i) ∧ ∀ i, i < ls.length → mg_i G 256 i = nI (pl i)
def ft_ (c k : Nat) : Bool := (decide (c = 226) && (decide (k = 45) || decide (k = 46) || decide (k = 47))) || decide (c = 255) || decide (c = 256)
theorem ft_F {c k : Nat} (h : c < 226 ∨ (226 < c ∧ c < 255) ∨ 256 < c) : ft_ c k = false := by
  unfold ft_
  rw [decide_eq_false (p := c = 226) (by omega), decide_eq_false (p := c = 255) (by omega), decide_eq_false (p := c = 256) (by omega)]
  rfl
theorem ft_on {c k : Nat} (h : rgQ c k = true) : ft_ c k = false := by
  have := rgQ_iff.1 h
  rcases this with ⟨rfl, z⟩ | z | z | z | z
  · rcases z with rfl | rfl | rfl | rfl | rfl <;> rfl
  all_goals exact ft_F (by omega)
theorem fm_on {c k : Nat} (h : rgQ c k = true) : fm_ c k = false := by
  have := rgQ_iff.1 h
  rcases this with ⟨rfl, z⟩ | z | z | z | z
  · rcases z with rfl | rfl | rfl | rfl | rfl <;> rfl
  all_goals exact fm_F (by omega)
theorem mp_.fm {G G1 : mm_G} {ls : List ln_T} {lo r : Nat} {pl : Nat → Nat} (h : mp_ G ls lo r pl) (hf : fr_ fm_ G G1) : mp_ G1 ls lo r pl := by
  obtain ⟨h1, h2, h3, h4, h5⟩ := h
  have hm : ∀ p, rd_m G1 p = rd_m G p := fun p => rd_m.fr hf (fun c k q1 q2 => fm_F (by omega))
  refine ⟨?_, ?_, ?_, fun i hi => ?_, fun i hi => ?_⟩
  · rw [hf.i _ _ rfl]; exact h1
  · rw [hf.i _ _ rfl]; exact h2
  · rw [hf.i _ _ rfl]; exact h3
  · obtain ⟨p, q1, q2, q3⟩ := h4 i hi
    exact ⟨p, q1, by rw [hf.i _ _ (fm_F (by omega))]; exact q2, by rw [hm]; exact q3⟩
  · rw [hf.i _ _ (fm_F (by omega))]; exact h5 i hi
theorem me_of {G : mm_G} {P : ps_T} {ls : List ln_T} {a lo r k : Nat} {pl : Nat → Nat} (hP : ps_ok P) (hM : mB_ G P a) (hp : mp_ G ls lo r pl) (hk : k < (ps_t P).length) : me_ G (en_of (ps_p P) (ps_t P) ls lo k none) a r k pl := by
  obtain ⟨a1, a2, a3, a4, -⟩ := hM
  obtain ⟨h1, h2, h3, h4, h5⟩ := hp
  have ht := hP.2.1.1
  obtain ⟨b1, b2, -⟩ := a4.2.2 k hk
  exact ⟨a1, a2, h1, h2, h3, h4, h5, a3.2, by omega, b1, b2⟩
theorem t_takesRow {l : Launch} {κ : mm_K} {d : Nat} {G : mm_G} {K : mm_G → Prop} {P : ps_T} {a r : Nat} (lo : Nat) (hP : ps_ok P) (hM : mB_ G P a) (hr : r < (ps_p P).length)
    (h : ∀ G', mp_ G' (px_at (ps_p P) r) lo r (fun i => i) → fr_ ft_ G G' → K G') : mC l κ true (d + 1) 0 0 m_X13_takesRow [.ref 226, .int (nI r), .int (nI lo)] G (rV K) := by
  have hlen := hP.1.2.2 r
  have hp4 := hP.1.1
  have ha := hM.1
  have hf0 : fr_ ft_ G (ms_i G 226 46 (nI r)) := fr_.rfl'.si rfl
  have hM0 := hM.on (hf0.on (fun c k hc => ft_on hc))
  refine e_X13_takesRow _ _ (t_lines hP hM0 hr ?_)
  suffices H : ∀ n i G1, i + n = (px_at (ps_p P) r).length → fr_ ft_ G G1 → mg_i G1 226 45 = nI (px_at (ps_p P) r).length → mg_i G1 226 46 = nI r → mg_i G1 226 47 = nI lo → (∀ j, j < i → mg_i G1 255 j = nI (64 * a + 16 * r + j)) → (∀ j, j < i → mg_i G1 256 j = nI j) → mV l κ true (d + 1) 0 0 m_X13_takesRow 21 [some (.ref 226), some (.int (nI r)), some (.int (nI lo)), some (.int (nI i))] [] G1 (rV K) from
    H _ 0 _ (Nat.zero_add _) ((hf0.si rfl).si rfl) (by simp only [mg_i_i, mg_i_l, mg_i_r, mg_i_b, mg_l_i, mg_l_l, mg_l_r, mg_l_b, mg_r_i, mg_r_l, mg_r_r, mg_r_b, false_and, and_false, true_and, and_true, reduceCtorEq, if_true, if_false, reduceIte, Nat.reduceEqDiff, Nat.reduceAdd, Nat.succ_ne_self, ne_eq, not_false_eq_true, not_true_eq_false]) (by simp only [mg_i_i, mg_i_l, mg_i_r, mg_i_b, mg_l_i, mg_l_l, mg_l_r, mg_l_b, mg_r_i, mg_r_l, mg_r_r, mg_r_b, false_and, and_false, true_and, and_true, reduceCtorEq, if_true, if_false, reduceIte, Nat.reduceEqDiff, Nat.reduceAdd, Nat.succ_ne_self, ne_eq, not_false_eq_true, not_true_eq_false]) (by simp only [mg_i_i, mg_i_l, mg_i_r, mg_i_b, mg_l_i, mg_l_l, mg_l_r, mg_l_b, mg_r_i, mg_r_l, mg_r_r, mg_r_b, false_and, and_false, true_and, and_true, reduceCtorEq, if_true, if_false, reduceIte, Nat.reduceEqDiff, Nat.reduceAdd, Nat.succ_ne_self, ne_eq, not_false_eq_true, not_true_eq_false]) (fun j hj => absurd hj (Nat.not_lt_zero j)) (fun j hj => absurd hj (Nat.not_lt_zero j))
  intro n
  induction n with
  | zero =>
    intro i G1 hi hf q1 q2 q3 q4 q5
    have hM1 := hM.on (hf.on (fun c k hc => ft_on hc))
    refine p_X13_takesRow_21 _ _ _ ⟨fun _ => h G1 ⟨q1, q2, q3, fun j hj => ?_, fun j hj => q5 j (by omega)⟩ hf, fun z => absurd ?_ z⟩
    · exact ⟨_, by omega, q4 j (by omega), (hM1.2.2.1.2 r hr).2 j hj⟩
    · rw [q1]; exact nI_le (by omega) (by omega)
  | succ n ih =>
    intro i G1 hi hf q1 q2 q3 q4 q5
    have hM1 := hM.on (hf.on (fun c k hc => ft_on hc))
    refine p_X13_takesRow_21 _ _ _ ⟨fun z => absurd z (by rw [q1]; exact nI_ge (by omega) (by omega)), fun _ => t_lineAt hM1.2.1 ⟨(ki_vp (by omega)).2 (by omega), (ki_vp (by omega)).2 (by omega), ?_⟩⟩
    rw [nI_add, nI_clamp (by omega)]
    refine ih (i + 1) _ (by omega) ((hf.si rfl).si rfl) (by simp only [mg_i_i, mg_i_l, mg_i_r, mg_i_b, mg_l_i, mg_l_l, mg_l_r, mg_l_b, mg_r_i, mg_r_l, mg_r_r, mg_r_b, false_and, and_false, true_and, and_true, reduceCtorEq, if_true, if_false, reduceIte, Nat.reduceEqDiff, Nat.reduceAdd, Nat.succ_ne_self, ne_eq, not_false_eq_true, not_true_eq_false]; exact q1) (by simp only [mg_i_i, mg_i_l, mg_i_r, mg_i_b, mg_l_i, mg_l_l, mg_l_r, mg_l_b, mg_r_i, mg_r_l, mg_r_r, mg_r_b, false_and, and_false, true_and, and_true, reduceCtorEq, if_true, if_false, reduceIte, Nat.reduceEqDiff, Nat.reduceAdd, Nat.succ_ne_self, ne_eq, not_false_eq_true, not_true_eq_false]; exact q2) (by simp only [mg_i_i, mg_i_l, mg_i_r, mg_i_b, mg_l_i, mg_l_l, mg_l_r, mg_l_b, mg_r_i, mg_r_l, mg_r_r, mg_r_b, false_and, and_false, true_and, and_true, reduceCtorEq, if_true, if_false, reduceIte, Nat.reduceEqDiff, Nat.reduceAdd, Nat.succ_ne_self, ne_eq, not_false_eq_true, not_true_eq_false]; exact q3) (fun j hj => ?_) (fun j hj => ?_)
    · simp only [mg_i_i, mg_i_l, mg_i_r, mg_i_b, mg_l_i, mg_l_l, mg_l_r, mg_l_b, mg_r_i, mg_r_l, mg_r_r, mg_r_b, false_and, and_false, true_and, and_true, reduceCtorEq, if_true, if_false, reduceIte, Nat.reduceEqDiff, Nat.reduceAdd, Nat.succ_ne_self, ne_eq, not_false_eq_true, not_true_eq_false]
      split
      · rename_i z; rw [z]
      · exact q4 j (by omega)
    · simp only [mg_i_i, mg_i_l, mg_i_r, mg_i_b, mg_l_i, mg_l_l, mg_l_r, mg_l_b, mg_r_i, mg_r_l, mg_r_r, mg_r_b, false_and, and_false, true_and, and_true, reduceCtorEq, if_true, if_false, reduceIte, Nat.reduceEqDiff, Nat.reduceAdd, Nat.succ_ne_self, ne_eq, not_false_eq_true, not_true_eq_false]
      split
      · rename_i z; rw [z]
      · exact q5 j (by omega)
/-- a run in a trial -/
theorem t_run1 {l : Launch} {κ : mm_K} {d : Nat} {G : mm_G} {K : mm_G → Prop} {P : ps_T} {ls : List ln_T} {a lo r k : Nat} {pl : Nat → Nat} (hP : ps_ok P) (hM : mB_ G P a) (hp : mp_ G ls lo r pl) (hr : r < (ps_p P).length) (hls : ls.length ≤ 16) (hx : ∀ x ∈ ls, ln_ok r x) (hlo : lo < 65536) (hk : k < (ps_t P).length)
    (h : ∀ G', mo_ G' r pl (ru_run (en_of (ps_p P) (ps_t P) ls lo k none) r (ps_f P)).1 → fr_ fm_ G G' → mg_i G' 226 55 = nI (ru_run (en_of (ps_p P) (ps_t P) ls lo k none) r (ps_f P)).2 → K G') : mC l κ true (d + 4) 0 0 m_X13_runs [.ref 226, .int (nI k)] G (rV K) :=
  t_runs (en_of_ok hP.1 hP.2.1 hr hls hx hlo) rfl hP.2.2.1 hM.2.2.2.1.2.1 (me_of hP hM hp hk) h
theorem px_ok {P : ps_T} {r : Nat} (hP : ps_ok P) (hr : r < (ps_p P).length) : ∀ x ∈ px_at (ps_p P) r, ln_ok r x := fun x hx => (hP.1.2.1 r hr x hx).1
theorem lo_lt {P : ps_T} {r lo : Nat} (hP : ps_ok P) (hl : lo < 2 ^ (px_at (ps_p P) r).length) : lo < 65536 := by
  have := px_len_lt (hP.1.2.2 r)
  omega
def fg_ (c k : Nat) : Bool := ft_ c k || fm_ c k
theorem fg_on {c k : Nat} (h : rgQ c k = true) : fg_ c k = false := by
  unfold fg_
  rw [ft_on h, fm_on h]
  rfl
theorem fr_.tg {G G1 : mm_G} (h : fr_ ft_ G G1) : fr_ fg_ G G1 := h.mono (fun c k q => by unfold fg_ at q; exact (Bool.or_eq_false_iff.1 q).1)
theorem fr_.mg {G G1 : mm_G} (h : fr_ fm_ G G1) : fr_ fg_ G G1 := h.mono (fun c k q => by unfold fg_ at q; exact (Bool.or_eq_false_iff.1 q).2)
theorem t_goes {l : Launch} {κ : mm_K} {d : Nat} {G : mm_G} {K : Int32 → mm_G → Prop} {P : ps_T} {m : Nat} (a b c : Int32) (hP : ps_ok P) (hM : mB_ G P m) (h0 : ix3_ P a b c = none → K (nI 0) G)
    (h1 : ∀ G' r lo k, ix3_ P a b c = some (r, lo, k) → r < (ps_p P).length → a = nI r → lo < 2 ^ (px_at (ps_p P) r).length → b = nI lo → k < (ps_t P).length → c = nI k → fr_ fg_ G G' → mo_ G' r (fun i => i) (rr_ (ps_p P) (ps_t P) (ps_f P) r lo k).1 → mg_i G' 226 55 = nI (rr_ (ps_p P) (ps_t P) (ps_f P) r lo k).2 → K (nI 1) G') : mC l κ true (d + 5) 0 0 m_X13_goes [.ref 226, .int a, .int b, .int c] G (rI K) := by
  refine e_X13_goes a b c (t_isLost a b hP hM (fun e => ⟨fun _ => h0 (by unfold ix3_; rw [e]), fun q => absurd (by decide) q⟩) (fun r lo e hr ea hlo eb => ⟨fun q => absurd q (by decide), fun _ => ?_⟩))
  subst ea eb
  refine t_isTrial c hP hM (fun e2 => ⟨fun q => absurd rfl q, fun _ => h0 (by unfold ix3_; rw [e]; simp only [e2])⟩) (fun k e2 hk ek => ⟨fun _ => ?_, fun q => absurd q (by decide)⟩)
  subst ek
  refine t_takesRow lo hP hM hr (fun G1 g1 g2 => ?_)
  exact t_run1 hP (hM.on (g2.on (fun c k hc => ft_on hc))) g1 hr (hP.1.2.2 r) (px_ok hP hr) (lo_lt hP hlo) hk (fun G2 k1 k2 k3 => h1 G2 r lo k (by unfold ix3_; rw [e]; simp only [e2]) hr rfl hlo rfl hk rfl (g2.tg.trans k2.mg) k1 k3)
/-! the component -/
theorem fc_on {c k : Nat} (h : rgB c k = true) : fc_ c k = false := fc_F (by have := rgB_iff.1 h; omega)
theorem ce_of {G : mm_G} {P : ps_T} {ls : List ln_T} {c r lo k : Nat} {am : Option (List Int32)} (hP : ps_ok P) (hC : cB_ G P) (hc : c ∈ rc_L) (hro : ro_ G c ls) (hn : mg_i G c 2 = nI r) (hk : k < (ps_t P).length) : ce_ G (en_of (ps_p P) (ps_t P) ls lo k am) c r k := by
  obtain ⟨a1, a2, a3, -⟩ := hC
  have ht := hP.2.1.1
  have hp := hP.1.1
  obtain ⟨b1, b2, -⟩ := a2.2.2 k hk
  exact ⟨hc, hro, hn, a1.1, fun j hj => ⟨a1.2.1 j hj, (a3 j (Nat.lt_of_lt_of_le hj hp)).2.1⟩, by omega, b1, b2⟩
theorem s_run1 {l : Launch} {κ : mm_K} {d : Nat} {G : mm_G} {K : mm_G → Prop} {P : ps_T} {ls : List ln_T} {c r lo k : Nat} (hP : ps_ok P) (hC : cB_ G P) (hc : c ∈ rc_L) (hro : ro_ G c ls) (hn : mg_i G c 2 = nI r) (hr : r < (ps_p P).length) (hx : ∀ x ∈ ls, ln_ok r x) (hlo : lo < 65536) (hk : k < (ps_t P).length)
    (h : ∀ G', cs_ G' (en_of (ps_p P) (ps_t P) ls lo k none) c r k none (ru_run (en_of (ps_p P) (ps_t P) ls lo k none) r (ps_f P)).1 → fr_ fc_ G G' → mg_i G' 92 2 = nI (ru_run (en_of (ps_p P) (ps_t P) ls lo k none) r (ps_f P)).2 → K G') : mC l κ true (d + 2) 0 0 m_X3_runs [.ref 91, .ref c, .int (nI lo), .int (nI k), .null] G (rV K) :=
  s_runs0 (e := en_of (ps_p P) (ps_t P) ls lo k none) (r := r) (en_of_ok hP.1 hP.2.1 hr hro.2.1 hx hlo) hP.2.2.1 hC.2.1.2.1 (ce_of hP hC hc hro hn hk) rfl h
theorem s_run0 {l : Launch} {κ : mm_K} {d : Nat} {G : mm_G} {K : mm_G → Prop} {P : ps_T} {r lo k : Nat} (hP : ps_ok P) (hC : cB_ G P) (hr : r < (ps_p P).length) (hlo : lo < 2 ^ (px_at (ps_p P) r).length) (hk : k < (ps_t P).length)
    (h : ∀ G', cs_ G' (en_of (ps_p P) (ps_t P) (px_at (ps_p P) r) lo k none) (54 + 2 * r) r k none (rr_ (ps_p P) (ps_t P) (ps_f P) r lo k).1 → fr_ fc_ G G' → mg_i G' 92 2 = nI (rr_ (ps_p P) (ps_t P) (ps_f P) r lo k).2 → K G') : mC l κ true (d + 2) 0 0 m_X3_runs [.ref 91, .ref (54 + 2 * r), .int (nI lo), .int (nI k), .null] G (rV K) :=
  s_run1 hP hC (rc_54 (Nat.lt_of_lt_of_le hr hP.1.1)) (hC.1.2.1 r hr) (hC.2.2.1 r (Nat.lt_of_lt_of_le hr hP.1.1)).2.1 hr (px_ok hP hr) (lo_lt hP hlo) hk h
