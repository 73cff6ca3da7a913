/-! rows are copied, a line is put in -/
theorem s_rcopy {l : Launch} {κ : mm_K} {d : Nat} {G : mm_G} {K : mm_G → Prop} {x y : Nat} {ls : List ln_T} (hx : RowAt x) (hy : RowAt y) (hxy : x ≠ y ∧ x ≠ y + 1 ∧ y ≠ x + 1) (hx2 : x + 1 < 285) (h1 : ro_ G y ls)
    (h : ∀ G', ro_ G' x ls → mg_i G' x 2 = mg_i G y 2 → fr_ (fx_ x) G G' → K G') : mC l κ true d 0 0 m_X6_copy [.ref x, .ref y] G (rV K) := by
  obtain ⟨a1, a2, a3⟩ := h1
  refine e_X6_copy x hx y hy ?_
  simp only [mg_i_i]
  rw [if_neg (by omega), a1]
  suffices H : ∀ n i G1, i + n = ls.length → fr_ (fx_ x) G G1 → mg_i G1 x 1 = nI ls.length → mg_i G1 x 2 = mg_i G y 2 → (∀ j, j < i → mg_r G1 (x + 1) j = mg_r G (y + 1) j) → mV l κ true d 0 0 m_X6_copy 26 [some (.ref x), some (.ref y), some (.int (nI i))] [] G1 (rV K) from
    H _ 0 _ (Nat.zero_add _) (((fr_.rfl'.si fx_0).si fx_0).sl fx_0) (by simp [mg_i_i, mg_i_l]) (by simp [mg_i_i, mg_i_l]) (fun j hj => absurd hj (Nat.not_lt_zero j))
  intro n
  induction n with
  | zero =>
    intro i G1 hi hf q1 q2 q3
    refine p_X6_copy_26 x hx y hy _ ⟨fun _ => h G1 ⟨q1, a2, fun j hj => ?_⟩ q2 hf, fun z => absurd ?_ z⟩
    · obtain ⟨t, t1, t2, t3, t4⟩ := a3 j hj
      exact ⟨t, by rw [q3 j (by omega)]; exact t1, t2, by rw [hf.1]; exact t3, by rw [rd_c.fr hf (fun k => fx_F (by omega))]; exact t4⟩
    · rw [q1]; exact nI_le (by omega) (by omega)
  | succ n ih =>
    intro i G1 hi hf q1 q2 q3
    obtain ⟨t, t1, t2, t3, t4⟩ := a3 i (by omega)
    refine p_X6_copy_26 x hx y hy _ ⟨fun z => absurd z (by rw [q1]; exact nI_ge (by omega) (by omega)), fun _ => ⟨(ki_vp (by omega)).2 (by omega), t, ?_, ln_At t2, (ki_vp (by omega)).2 (by omega), ?_⟩⟩
    · rw [nI_clamp (by omega), hf.r (y + 1) i (fx_F (by omega))]; exact t1
    · rw [nI_add, nI_clamp (by omega)]
      refine ih (i + 1) _ (by omega) (hf.sr fx_1) q1 q2 (fun j hj => ?_)
      rw [mg_r_r]
      split
      · rename_i z; rw [z.2, t1]
      · exact q3 j (by omega)
def ins_ (ls : List ln_T) (a : Nat) (z : ln_T) : List ln_T := ls.take a ++ z :: ls.drop a
theorem ins_len {ls : List ln_T} {a : Nat} {z : ln_T} (h : a ≤ ls.length) : (ins_ ls a z).length = ls.length + 1 := by
  unfold ins_
  rw [List.length_append, List.length_take, List.length_cons, List.length_drop]
  omega
theorem ins_at {ls : List ln_T} {a : Nat} {z : ln_T} (h : a ≤ ls.length) (p : Nat) : ln_at (ins_ ls a z) p = if p < a then ln_at ls p else if p = a then z else ln_at ls (p - 1) := by
  unfold ins_ ln_at
  have hl : (ls.take a).length = a := by rw [List.length_take]; omega
  rw [List.getD_eq_getElem?_getD]
  split
  · rename_i c
    rw [List.getElem?_append_left (by omega), List.getElem?_take, if_pos c, List.getD_eq_getElem?_getD]
  · rename_i c
    rw [List.getElem?_append_right (by omega), hl]
    split
    · rename_i c2
      rw [c2, Nat.sub_self]
      rfl
    · rename_i c2
      obtain ⟨q, hq⟩ : ∃ q, p - a = q + 1 := ⟨p - a - 1, by omega⟩
      rw [hq, List.getElem?_cons_succ, List.getElem?_drop, List.getD_eq_getElem?_getD, show a + q = p - 1 by omega]
theorem ins_mem {ls : List ln_T} {a : Nat} {z x : ln_T} (hx : x ∈ ins_ ls a z) : x = z ∨ x ∈ ls := by
  unfold ins_ at hx
  rcases List.mem_append.1 hx with q | q
  · exact Or.inr (List.mem_of_mem_take q)
  · rcases List.mem_cons.1 q with q | q
    · exact Or.inl q
    · exact Or.inr (List.mem_of_mem_drop q)
def fi_ (x : Nat) (c k : Nat) : Bool := (decide (c = x) && decide (k = 1)) || decide (c = x + 1)
theorem fi_F {x c k : Nat} (h : (c ≠ x ∨ k ≠ 1) ∧ c ≠ x + 1) : fi_ x c k = false := by
  unfold fi_
  rw [decide_eq_false h.2, Bool.or_false]
  rcases h.1 with q | q
  · rw [decide_eq_false q]; rfl
  · rw [decide_eq_false q, Bool.and_false]
theorem fi_1 {x k : Nat} : fi_ x (x + 1) k = true := by unfold fi_; rw [decide_eq_true (Eq.refl (x + 1)), Bool.or_true]
theorem fi_0 {x : Nat} : fi_ x x 1 = true := by unfold fi_; simp
theorem s_insert {l : Launch} {κ : mm_K} {d : Nat} {G : mm_G} {K : mm_G → Prop} {x t a : Nat} {ls : List ln_T} {z : ln_T} (hx : RowAt x) (hx2 : x + 1 < 285) (h1 : ro_ G x ls) (hl : ls.length < 16) (ha : a ≤ ls.length) (ht : 285 ≤ t) (ht2 : t < mg_n G) (hz : rd_c G t = z)
    (h : ∀ G', ro_ G' x (ins_ ls a z) → fr_ (fi_ x) G G' → K G') : mC l κ true d 0 0 m_X6_insert [.ref x, .ref t, .int (nI a)] G (rV K) := by
  obtain ⟨a1, a2, a3⟩ := h1
  refine e_X6_insert x hx t (ln_At ht) _ ?_
  rw [a1]
  refine ⟨fun q => absurd q (nI_ge (by omega) (by omega)), fun _ => ⟨fun q => absurd q (nI_pos (by omega)), fun _ => ⟨fun _ => ?_, fun q => absurd (nI_le (by omega) (by omega)) q⟩⟩⟩
  suffices H : ∀ n i G1, i = a + n → i ≤ ls.length → fr_ (fi_ x) G G1 → mg_i G1 x 1 = nI ls.length → (∀ p, p < i → mg_r G1 (x + 1) p = mg_r G (x + 1) p) → (∀ p, i < p → p ≤ ls.length → mg_r G1 (x + 1) p = mg_r G (x + 1) (p - 1)) → mV l κ true d 0 0 m_X6_insert 27 [some (.ref x), some (.ref t), some (.int (nI a)), some (.int (nI i))] [] G1 (rV K) from
    H (ls.length - a) ls.length G (by omega) (Nat.le_refl _) fr_.rfl' a1 (fun _ _ => rfl) (fun p q1 q2 => absurd q1 (by omega))
  intro n
  induction n with
  | zero =>
    intro i G1 hi hil hf q1 q2 q3
    obtain rfl : i = a := by omega
    refine p_X6_insert_27 x hx t (ln_At ht) _ _ ⟨fun _ => ⟨(ki_vp (by omega)).2 (by omega), ?_⟩, fun q => absurd (nI_le (by omega) (by omega)) q⟩
    rw [nI_clamp (by omega), q1, nI_add]
    have hf2 : fr_ (fi_ x) G (ms_i (ms_r G1 (x + 1) i (some t)) x 1 (nI (ls.length + 1))) := (hf.sr fi_1).si fi_0
    refine h _ ⟨by rw [ins_len ha]; simp [mg_i_i], by rw [ins_len ha]; omega, fun p hp => ?_⟩ hf2
    rw [ins_len ha] at hp
    rw [ins_at ha]
    have hrd : ∀ u, 285 ≤ u → rd_c (ms_i (ms_r G1 (x + 1) i (some t)) x 1 (nI (ls.length + 1))) u = rd_c G u := fun u hu => rd_c.fr hf2 (fun k => fi_F (by omega))
    have hmr : mg_r (ms_i (ms_r G1 (x + 1) i (some t)) x 1 (nI (ls.length + 1))) (x + 1) p = if p = i then some t else mg_r G1 (x + 1) p := by
      simp [mg_r_i, mg_r_r]
    have hmn : mg_n (ms_i (ms_r G1 (x + 1) i (some t)) x 1 (nI (ls.length + 1))) = mg_n G := hf2.1
    rw [hmr, hmn]
    by_cases c1 : p < i
    · obtain ⟨u, u1, u2, u3, u4⟩ := a3 p (by omega)
      exact ⟨u, by rw [if_neg (by omega), q2 p c1]; exact u1, u2, u3, by rw [hrd u u2, if_pos c1]; exact u4⟩
    · by_cases c2 : p = i
      · exact ⟨t, by rw [if_pos c2], ht, ht2, by rw [hrd t ht, if_neg c1, if_pos c2]; exact hz⟩
      · obtain ⟨u, u1, u2, u3, u4⟩ := a3 (p - 1) (by omega)
        exact ⟨u, by rw [if_neg c2, q3 p (by omega) (by omega)]; exact u1, u2, u3, by rw [hrd u u2, if_neg c1, if_neg c2]; exact u4⟩
  | succ n ih =>
    intro i G1 hi hil hf q1 q2 q3
    obtain ⟨u, u1, u2, u3, u4⟩ := a3 (i - 1) (by omega)
    refine p_X6_insert_27 x hx t (ln_At ht) _ _ ⟨fun q => absurd q (nI_ge (by omega) (by omega)), fun _ => ?_⟩
    rw [ki_sub (by omega), nI_clamp (by omega), nI_clamp (by omega)]
    refine ⟨(ki_vp (by omega)).2 (by omega), u, by rw [q2 (i - 1) (by omega)]; exact u1, ln_At u2, (ki_vp (by omega)).2 (by omega), ?_⟩
    have e4 : nI i + (-1) = nI (i - 1) := by
      have : nI i = nI (i - 1) + nI 1 := by rw [nI_add]; congr 1; omega
      rw [this, Int32.add_assoc, show nI 1 + (-1) = 0 by decide, Int32.add_zero]
    rw [e4]
    refine ih (i - 1) _ (by omega) (by omega) (hf.sr fi_1) (by simp [mg_i_r]; exact q1) (fun p hp => ?_) (fun p hp1 hp2 => ?_)
    · rw [mg_r_r, if_neg (by omega)]; exact q2 p (by omega)
    · rw [mg_r_r]
      by_cases c : p = i
      · rw [if_pos ⟨rfl, c⟩, c]; exact u1.symm
      · rw [if_neg (by omega)]; exact q3 p (by omega) hp2
theorem ins_dx {ls : List ln_T} {i j : Nat} (hi : i < ls.length) (hj : j = i ∨ j = i + 1) : dx_ j ls (ins_ ls (i + 1) (ln_at ls i)) := by
  refine ⟨ins_len (by omega), by omega, fun p hp => ?_, fun p hp1 hp2 => ?_⟩
  · rw [ins_at (by omega)]
    split
    · rfl
    · omega
  · rw [ins_at (by omega)]
    split
    · rename_i c
      obtain rfl : p = i := by omega
      omega
    · split
      · rename_i c c2
        rw [c2]
        rfl
      · rfl
/-! mends -/
def db_ (P : ps_T) (r i : Nat) : List ln_T := ins_ (px_at (ps_p P) r) (i + 1) (ln_at (px_at (ps_p P) r) i)
theorem uf_more {P : ps_T} {r i j : Nat} (hi : i < (px_at (ps_p P) r).length) (hj : j = i ∨ j = i + 1) : uf_ P (db_ P r i) r (2 ^ j) = (ps_t P).length := by
  refine ff_no (fun k _ => decide_eq_false (fun q => q ?_))
  exact od_more (ins_dx hi hj)
theorem ln_mem {ls : List ln_T} {i : Nat} (hi : i < ls.length) : ln_at ls i ∈ ls := by
  unfold ln_at
  rw [List.getD_eq_getElem?_getD, List.getElem?_eq_getElem hi]
  exact List.getElem_mem hi
theorem db_ok {P : ps_T} {r i : Nat} (hP : ps_ok P) (hr : r < (ps_p P).length) (hi : i < (px_at (ps_p P) r).length) : ∀ x ∈ db_ P r i, ln_ok r x := by
  intro x hx
  rcases ins_mem hx with q | q
  · rw [q]; exact px_ok hP hr _ (ln_mem hi)
  · exact px_ok hP hr _ q
def md_ (P : ps_T) (r i : Nat) : Bool := decide (uf_ P (db_ P r i) r 0 = (ps_t P).length)
def mk_ (P : ps_T) (r : Nat) : Nat → Nat
  | 0 => 0
  | i + 1 => if md_ P r i then mk_ P r i ||| 2 ^ i else mk_ P r i
theorem kr_.fr {S : Nat → Nat → Bool} {G G1 : mm_G} {P : ps_T} {r : Nat} (h : kr_ G P r) (hf : fr_ S G G1) (hs : ∀ c k, (c = 100 ∨ c = 101 ∨ 104 ≤ c) → c < 168 → S c k = false) (hr : r < 4) (ht : (ps_t P).length ≤ 8) : kr_ G1 P r := by
  rcases h with h | ⟨h, h2, h3⟩
  · left; rw [hf.i _ _ (hs _ _ (by omega) (by omega))]; exact h
  · right
    refine ⟨?_, ?_, fun k hk => (h3 k hk).fr hf (fun j => hs _ _ (by omega) (by omega)) (fun j => hs _ _ (by omega) (by omega))⟩
    · rw [hf.i _ _ (hs _ _ (by omega) (by omega))]; exact h
    · rw [hf.i _ _ (hs _ _ (by omega) (by omega))]; exact h2
theorem kn_.fr {S : Nat → Nat → Bool} {G G1 : mm_G} {P : ps_T} {r : Nat} (h : kn_ G P r) (hf : fr_ S G G1) (hs : ∀ c k, (c = 100 ∨ c = 101 ∨ 104 ≤ c) → c < 168 → S c k = false) (hr : r < 4) (ht : (ps_t P).length ≤ 8) : kn_ G1 P r := by
  obtain ⟨h2, h3⟩ := h
  refine ⟨?_, fun k hk => (h3 k hk).fr hf (fun j => hs _ _ (by omega) (by omega)) (fun j => hs _ _ (by omega) (by omega))⟩
  rw [hf.i _ _ (hs _ _ (by omega) (by omega))]; exact h2
theorem s_alike {l : Launch} {κ : mm_K} {d : Nat} {G : mm_G} {K : Int32 → mm_G → Prop} {P : ps_T} {r : Nat} {ls : List ln_T} (hP : ps_ok P) (hC : cB_ G P) (hN : kn_ G P r) (hr : r < (ps_p P).length) (hro : ro_ G 102 ls) (hnm : mg_i G 102 2 = nI r) (hx : ∀ x ∈ ls, ln_ok r x)
    (h : ∀ G', fr_ fc_ G G' → K (if uf_ P ls r 0 = (ps_t P).length then nI 1 else nI 0) G') : mC l κ true (d + 3) 0 0 m_X2_doubledDoesAlike [.ref 98, .int (nI r)] G (rI K) := by
  have hp := hP.1.1
  have ht := hP.2.1.1
  refine e_X2_doubledDoesAlike _ ?_
  suffices H : ∀ n k G1, k + n = (ps_t P).length → fr_ fc_ G G1 → (∀ q, q < k → uo_ P ls r 0 q = false) → mV l κ true (d + 3) 0 0 m_X2_doubledDoesAlike 2 [some (.ref 98), some (.int (nI r)), some (.int (nI k)), none] [] G1 (rI K) from H _ 0 G (Nat.zero_add _) fr_.rfl' (fun q hq => absurd hq (Nat.not_lt_zero q))
  intro n
  induction n with
  | zero =>
    intro k G1 hk hf hno
    have hC1 := hC.on hP (hf.on (fun c k q => fc_on q)) (by rw [hf.1]; exact Nat.le_refl _)
    refine p_X2_doubledDoesAlike_2 _ _ ⟨fun _ => ?_, fun z => absurd (by rw [hC1.2.1.1]; exact nI_le (by omega) (by omega)) z⟩
    have h := h G1 hf
    rw [if_pos (show uf_ P ls r 0 = _ from ff_no (fun q hq => hno q (by omega)))] at h
    exact h
  | succ n ih =>
    intro k G1 hk hf hno
    have hC1 := hC.on hP (hf.on (fun c k q => fc_on q)) (by rw [hf.1]; exact Nat.le_refl _)
    obtain ⟨n1, n2⟩ := hN.fc hf
    obtain ⟨d1, d2, d3⟩ := n2 k (by omega)
    obtain ⟨o8, -, o3, om⟩ := rr_ok (k := k) hP hr (by decide : 0 < 65536)
    refine p_X2_doubledDoesAlike_2 _ _ ⟨fun z => absurd z (by rw [hC1.2.1.1]; exact nI_ge (by omega) (by omega)), fun _ => ?_⟩
    rw [ki_mul, nI_add, nI_clamp (by omega), show r * 8 + k = 8 * r + k by omega]
    have hD : DeedAt (104 + 2 * (8 * r + k)) := dd_At (by omega)
    have hro1 := hro.fc hf (by omega)
    have hen : en_ok (en_of (ps_p P) (ps_t P) ls 0 k (some (od_ (ps_p P) (ps_t P) (ps_f P) r 0 k).2)) r := en_of_ok hP.1 hP.2.1 hr hro.2.1 hx (by decide)
    refine ⟨(ki_vp (by omega)).2 (by omega), s_runs1 (e := en_of (ps_p P) (ps_t P) ls 0 k (some (od_ (ps_p P) (ps_t P) (ps_f P) r 0 k).2)) (r := r) hD hen hP.2.2.1 hC1.2.1.2.1 (ce_of hP hC1 (by decide) hro1 (by rw [hf.i _ _ (fc_F (by omega))]; exact hnm) (by omega)) ⟨_, rfl, hD, by omega, by omega, d1⟩ (fun G2 g1 g2 g3 => ?_)⟩
    obtain ⟨i1, i2, i3, i4⟩ := ru_run_ok (fu := ps_f P) hen
    refine s_isLike (o := od2_ (en_of (ps_p P) (ps_t P) ls 0 k (some (od_ (ps_p P) (ps_t P) (ps_f P) r 0 k).2)) r (ps_f P)) (p := od_ (ps_p P) (ps_t P) (ps_f P) r 0 k) mm_deed3 hD (g1.cd i1.2.2.2.1) g3 (d1.fr g2 (fc_F (by omega)) (fun j => fc_F (by omega))) (by rw [g2.i _ _ (fc_F (by omega))]; exact d2) (by have : (ru_run (en_of (ps_p P) (ps_t P) ls 0 k (some (od_ (ps_p P) (ps_t P) (ps_f P) r 0 k).2)) r (ps_f P)).2 ≤ 4 := i3; exact Nat.lt_of_le_of_lt this (by decide)) (Nat.lt_of_le_of_lt o3 (by decide)) ?_
    have hiff := od_aim (p := ps_p P) (t := ps_t P) (ls := ls) (fu := ps_f P) (r := r) (lo := 0) (k := k) (q := (od_ (ps_p P) (ps_t P) (ps_f P) r 0 k).1) (a := (od_ (ps_p P) (ps_t P) (ps_f P) r 0 k).2) o3
    by_cases ceq : od2_ (en_of (ps_p P) (ps_t P) ls 0 k none) r (ps_f P) = od_ (ps_p P) (ps_t P) (ps_f P) r 0 k
    · rw [if_pos (hiff.2 ceq)]
      refine ⟨fun _ => ?_, fun q => absurd q (by decide)⟩
      rw [nI_add]
      refine ih (k + 1) G2 (by omega) (hf.trans g2) (fun q hq => ?_)
      rcases Nat.lt_succ_iff_lt_or_eq.mp hq with c | c
      · exact hno q c
      · subst c; exact decide_eq_false (fun y => y ceq)
    · rw [if_neg (fun q => ceq (hiff.1 q))]
      refine ⟨fun q => absurd rfl q, fun _ => ?_⟩
      have h := h G2 (hf.trans g2)
      rw [if_neg] at h
      · exact h
      · rw [show uf_ P ls r 0 = k from ff_at hno (decide_eq_true ceq) (by omega)]
        omega
theorem s_mending {l : Launch} {κ : mm_K} {d : Nat} {G : mm_G} {K : Int32 → mm_G → Prop} {P : ps_T} {r : Nat} (hP : ps_ok P) (hC : cB_ G P) (hL : cL_ G P) (hr : r < (ps_p P).length) (hl : (px_at (ps_p P) r).length < 16)
    (h : ∀ G', cL_ G' P → fr_ fl_ G G' → K (nI (mk_ P r (px_at (ps_p P) r).length)) G') : mC l κ true (d + 4) 0 0 m_X2_mendingLines [.ref 98, .int (nI r)] G (rI K) := by
  have hp := hP.1.1
  have ht := hP.2.1.1
  refine e_X2_mendingLines _ (s_know hP hC hL hr (fun G1 l1 n1 f1 => ?_))
  rw [nI_clamp (by omega)]
  refine ⟨(ki_vp (by omega)).2 (by omega), ?_⟩
  have hR : RowAt (54 + 2 * r) := rc_row (rc_54 (by omega))
  suffices H : ∀ n i G2, i + n = (px_at (ps_p P) r).length → cL_ G2 P → kn_ G2 P r → fr_ fl_ G G2 → mV l κ true (d + 4) 0 0 m_X2_mendingLines 20 [some (.ref 98), some (.int (nI r)), some (.ref (54 + 2 * r)), some (.int (nI (mk_ P r i))), some (.int (nI i))] [] G2 (rI K) from H _ 0 G1 (Nat.zero_add _) l1 n1 f1
  intro n
  induction n with
  | zero =>
    intro i G2 hi l2 n2 f2
    have hC2 := hC.on hP (f2.on (fun c k q => fl_on q)) (by rw [f2.1]; exact Nat.le_refl _)
    refine p_X2_mendingLines_20 _ _ hR _ _ ⟨fun _ => ?_, fun z => absurd (by rw [(hC2.1.2.1 r hr).1]; exact nI_le (by omega) (by omega)) z⟩
    have h := h G2 l2 f2
    rw [show (px_at (ps_p P) r).length = i by omega] at h
    exact h
  | succ n ih =>
    intro i G2 hi l2 n2 f2
    have hC2 := hC.on hP (f2.on (fun c k q => fl_on q)) (by rw [f2.1]; exact Nat.le_refl _)
    have hro := hC2.1.2.1 r hr
    refine p_X2_mendingLines_20 _ _ hR _ _ ⟨fun z => absurd z (by rw [hro.1]; exact nI_ge (by omega) (by omega)), fun _ => ?_⟩
    refine s_rcopy mm_row102 hR (by omega) (by omega) hro (fun G3 o3 e3 f3 => ?_)
    obtain ⟨t, t1, t2, t3, t4⟩ := hro.2.2 i (by omega)
    refine ⟨(ki_vp (by omega)).2 (by omega), t, by rw [nI_clamp (by omega), f3.r _ _ (fx_F (by omega))]; exact t1, ln_At t2, ?_⟩
    rw [nI_add]
    refine s_insert mm_row102 (by omega) o3 hl (by omega) t2 (by rw [f3.1]; exact t3) (show rd_c G3 t = ln_at (px_at (ps_p P) r) i by rw [rd_c.fr f3 (fun k => fx_F (by omega))]; exact t4) (fun G4 o4 f4 => ?_)
    have fl3 : fr_ fl_ G2 G3 := f3.mono (fun c k q => fx_F (by
      rcases Nat.lt_or_ge c 91 with z | z
      · omega
      · rcases Nat.lt_or_ge 167 c with z2 | z2
        · omega
        · rw [fl_T (by omega)] at q; cases q))
    have fl4 : fr_ fl_ G3 G4 := f4.mono (fun c k q => fi_F (by
      rcases Nat.lt_or_ge c 91 with z | z
      · omega
      · rcases Nat.lt_or_ge 167 c with z2 | z2
        · omega
        · rw [fl_T (by omega)] at q; cases q))
    have f24 := f2.trans (fl3.trans fl4)
    have hC4 := hC.on hP (f24.on (fun c k q => fl_on q)) (by rw [f24.1]; exact Nat.le_refl _)
    have n4 := (n2.fr f3 (fun c k q1 q2 => fx_F (by omega)) (by omega) ht).fr f4 (fun c k q1 q2 => fi_F (by omega)) (by omega) ht
    have l4 : cL_ G4 P := fun q hq => ((l2 q hq).fr f3 (fun c k q1 q2 => fx_F (by omega)) hq ht).fr f4 (fun c k q1 q2 => fi_F (by omega)) hq ht
    refine s_alike hP hC4 n4 hr o4 ?_ (db_ok hP hr (by omega)) (fun G5 f5 => ⟨fun z => ?_, fun z => ?_⟩)
    · rw [f4.i _ _ (fi_F (by omega)), e3]
      exact (hC2.2.2.1 r (by omega)).2.1
    · have hI := ih (i + 1) G5 (by omega) (l4.fc f5) (n4.fc f5) (f24.trans f5.cl)
      have hm : md_ P r i = false := by
        refine decide_eq_false (fun q => ?_)
        rw [if_pos (show uf_ P (ins_ (px_at (ps_p P) r) (i + 1) (ln_at (px_at (ps_p P) r) i)) r 0 = _ from q)] at z
        exact absurd z (by decide)
      rw [show mk_ P r (i + 1) = mk_ P r i from if_neg (by rw [hm]; decide)] at hI
      exact hI
    · rw [ki_shl _ (by omega), fa_or]
      have hI := ih (i + 1) G5 (by omega) (l4.fc f5) (n4.fc f5) (f24.trans f5.cl)
      have hm : md_ P r i = true := by
        refine decide_eq_true ?_
        by_cases q : uf_ P (ins_ (px_at (ps_p P) r) (i + 1) (ln_at (px_at (ps_p P) r) i)) r 0 = (ps_t P).length
        · exact q
        · rw [if_neg q] at z; exact absurd rfl z
      rw [show mk_ P r (i + 1) = mk_ P r i ||| 2 ^ i from if_pos hm] at hI
      exact hI
/-! the reference -/
theorem t_takesTwice {l : Launch} {κ : mm_K} {d : Nat} {G : mm_G} {K : mm_G → Prop} {P : ps_T} {m r i : Nat} (lo : Nat) (hP : ps_ok P) (hM : mB_ G P m) (hr : r < (ps_p P).length) (hl : (px_at (ps_p P) r).length < 16) (hi : i < (px_at (ps_p P) r).length)
    (h : ∀ G' pl, mp_ G' (db_ P r i) lo r pl → fr_ ft_ G G' → K G') : mC l κ true (d + 2) 0 0 m_X13_takesTwice [.ref 226, .int (nI r), .int (nI i), .int (nI lo)] G (rV K) := by
  refine e_X13_takesTwice _ _ _ (t_takesRow lo hP hM hr (fun G1 p1 f1 => ?_))
  obtain ⟨a1, a2, a3, a4, a5⟩ := p1
  rw [a1]
  suffices H : ∀ n q G2, q = i + n → q ≤ (px_at (ps_p P) r).length → fr_ ft_ G1 G2 → mg_i G2 226 45 = nI (px_at (ps_p P) r).length → mg_i G2 226 46 = nI r → mg_i G2 226 47 = nI lo → (∀ p, p ≤ q → p < (px_at (ps_p P) r).length → mg_i G2 255 p = mg_i G1 255 p ∧ mg_i G2 256 p = mg_i G1 256 p) → (∀ p, q < p → p ≤ (px_at (ps_p P) r).length → mg_i G2 255 p = mg_i G1 255 (p - 1) ∧ mg_i G2 256 p = mg_i G1 256 (p - 1)) → mV l κ true (d + 2) 0 0 m_X13_takesTwice 12 [some (.ref 226), some (.int (nI r)), some (.int (nI i)), some (.int (nI lo)), some (.int (nI q))] [] G2 (rV K) from
    H ((px_at (ps_p P) r).length - i) _ G1 (by omega) (Nat.le_refl _) fr_.rfl' a1 a2 a3 (fun _ _ _ => ⟨rfl, rfl⟩) (fun p q1 q2 => absurd q1 (by omega))
  intro n
  induction n with
  | zero =>
    intro q G2 hq hql hf b1 b2 b3 b4 b5
    obtain rfl : q = i := by omega
    refine p_X13_takesTwice_12 _ _ _ _ ⟨fun _ => ?_, fun z => absurd (nI_le (by omega) (by omega)) z⟩
    rw [b1, nI_add]
    have hf2 : fr_ ft_ G1 (ms_i G2 226 45 (nI ((px_at (ps_p P) r).length + 1))) := hf.si rfl
    have hlen : (db_ P r q).length = (px_at (ps_p P) r).length + 1 := ins_len (by omega)
    have hat : ∀ p, ln_at (db_ P r q) p = if p ≤ q then ln_at (px_at (ps_p P) r) p else ln_at (px_at (ps_p P) r) (p - 1) := by
      intro p
      unfold db_
      rw [ins_at (by omega)]
      by_cases c1 : p < q + 1
      · rw [if_pos c1, if_pos (by omega)]
      · rw [if_neg c1, if_neg (show ¬ p ≤ q by omega)]
        split
        · rename_i c2; rw [c2]; rfl
        · rfl
    have hm : ∀ p, rd_m (ms_i G2 226 45 (nI ((px_at (ps_p P) r).length + 1))) p = rd_m G1 p := fun p => rd_m.fr hf2 (fun c k q1 q2 => ft_F (by omega))
    refine h _ (fun p => if p ≤ q then p else p - 1) ⟨by rw [hlen]; simp only [mg_i_i, mg_i_l, mg_i_r, mg_i_b, mg_l_i, mg_l_l, mg_l_r, mg_l_b, mg_r_i, mg_r_l, mg_r_r, mg_r_b, false_and, and_false, true_and, and_true, reduceCtorEq, if_true, if_false, reduceIte, Nat.reduceEqDiff, Nat.reduceAdd, Nat.succ_ne_self, ne_eq, not_false_eq_true, not_true_eq_false], by simp only [mg_i_i, mg_i_l, mg_i_r, mg_i_b, mg_l_i, mg_l_l, mg_l_r, mg_l_b, mg_r_i, mg_r_l, mg_r_r, mg_r_b, false_and, and_false, true_and, and_true, reduceCtorEq, if_true, if_false, reduceIte, Nat.reduceEqDiff, Nat.reduceAdd, Nat.succ_ne_self, ne_eq, not_false_eq_true, not_true_eq_false]; exact b2, by simp only [mg_i_i, mg_i_l, mg_i_r, mg_i_b, mg_l_i, mg_l_l, mg_l_r, mg_l_b, mg_r_i, mg_r_l, mg_r_r, mg_r_b, false_and, and_false, true_and, and_true, reduceCtorEq, if_true, if_false, reduceIte, Nat.reduceEqDiff, Nat.reduceAdd, Nat.succ_ne_self, ne_eq, not_false_eq_true, not_true_eq_false]; exact b3, fun p hp => ?_, fun p hp => ?_⟩ (f1.trans hf2)
    · rw [hlen] at hp
      rw [hat]
      by_cases c : p ≤ q
      · obtain ⟨u, u1, u2, u3⟩ := a4 p (by omega)
        refine ⟨u, u1, ?_, by rw [hm, if_pos c]; exact u3⟩
        simp only [mg_i_i, mg_i_l, mg_i_r, mg_i_b, mg_l_i, mg_l_l, mg_l_r, mg_l_b, mg_r_i, mg_r_l, mg_r_r, mg_r_b, false_and, and_false, true_and, and_true, reduceCtorEq, if_true, if_false, reduceIte, Nat.reduceEqDiff, Nat.reduceAdd, Nat.succ_ne_self, ne_eq, not_false_eq_true, not_true_eq_false]
        rw [(b4 p c (by omega)).1]; exact u2
      · obtain ⟨u, u1, u2, u3⟩ := a4 (p - 1) (by omega)
        refine ⟨u, u1, ?_, by rw [hm, if_neg c]; exact u3⟩
        simp only [mg_i_i, mg_i_l, mg_i_r, mg_i_b, mg_l_i, mg_l_l, mg_l_r, mg_l_b, mg_r_i, mg_r_l, mg_r_r, mg_r_b, false_and, and_false, true_and, and_true, reduceCtorEq, if_true, if_false, reduceIte, Nat.reduceEqDiff, Nat.reduceAdd, Nat.succ_ne_self, ne_eq, not_false_eq_true, not_true_eq_false]
        rw [(b5 p (by omega) (by omega)).1]; exact u2
    · rw [hlen] at hp
      simp only [mg_i_i, mg_i_l, mg_i_r, mg_i_b, mg_l_i, mg_l_l, mg_l_r, mg_l_b, mg_r_i, mg_r_l, mg_r_r, mg_r_b, false_and, and_false, true_and, and_true, reduceCtorEq, if_true, if_false, reduceIte, Nat.reduceEqDiff, Nat.reduceAdd, Nat.succ_ne_self, ne_eq, not_false_eq_true, not_true_eq_false]
      by_cases c : p ≤ q
      · rw [(b4 p c (by omega)).2, a5 p (by omega), if_pos c]
      · rw [(b5 p (by omega) (by omega)).2, a5 (p - 1) (by omega), if_neg c]
  | succ n ih =>
    intro q G2 hq hql hf b1 b2 b3 b4 b5
    refine p_X13_takesTwice_12 _ _ _ _ ⟨fun z => absurd z (nI_ge (by omega) (by omega)), fun _ => ?_⟩
    rw [ki_sub (by omega), nI_clamp (by omega), nI_clamp (by omega)]
    have e4 : nI q + (-1) = nI (q - 1) := by
      have : nI q = nI (q - 1) + nI 1 := by rw [nI_add]; congr 1; omega
      rw [this, Int32.add_assoc, show nI 1 + (-1) = 0 by decide, Int32.add_zero]
    rw [e4]
    refine ⟨(ki_vp (by omega)).2 (by omega), (ki_vp (by omega)).2 (by omega), (ki_vp (by omega)).2 (by omega), (ki_vp (by omega)).2 (by omega), ?_⟩
    refine ih (q - 1) _ (by omega) (by omega) ((hf.si rfl).si rfl) (by simp only [mg_i_i, mg_i_l, mg_i_r, mg_i_b, mg_l_i, mg_l_l, mg_l_r, mg_l_b, mg_r_i, mg_r_l, mg_r_r, mg_r_b, false_and, and_false, true_and, and_true, reduceCtorEq, if_true, if_false, reduceIte, Nat.reduceEqDiff, Nat.reduceAdd, Nat.succ_ne_self, ne_eq, not_false_eq_true, not_true_eq_false]; exact b1) (by simp only [mg_i_i, mg_i_l, mg_i_r, mg_i_b, mg_l_i, mg_l_l, mg_l_r, mg_l_b, mg_r_i, mg_r_l, mg_r_r, mg_r_b, false_and, and_false, true_and, and_true, reduceCtorEq, if_true, if_false, reduceIte, Nat.reduceEqDiff, Nat.reduceAdd, Nat.succ_ne_self, ne_eq, not_false_eq_true, not_true_eq_false]; exact b2) (by simp only [mg_i_i, mg_i_l, mg_i_r, mg_i_b, mg_l_i, mg_l_l, mg_l_r, mg_l_b, mg_r_i, mg_r_l, mg_r_r, mg_r_b, false_and, and_false, true_and, and_true, reduceCtorEq, if_true, if_false, reduceIte, Nat.reduceEqDiff, Nat.reduceAdd, Nat.succ_ne_self, ne_eq, not_false_eq_true, not_true_eq_false]; exact b3) (fun p hp hp2 => ?_) (fun p hp1 hp2 => ?_)
    · simp only [mg_i_i, mg_i_l, mg_i_r, mg_i_b, mg_l_i, mg_l_l, mg_l_r, mg_l_b, mg_r_i, mg_r_l, mg_r_r, mg_r_b, false_and, and_false, true_and, and_true, reduceCtorEq, if_true, if_false, reduceIte, Nat.reduceEqDiff, Nat.reduceAdd, Nat.succ_ne_self, ne_eq, not_false_eq_true, not_true_eq_false]
      rw [if_neg (by omega), if_neg (by omega)]
      exact b4 p (by omega) hp2
    · simp only [mg_i_i, mg_i_l, mg_i_r, mg_i_b, mg_l_i, mg_l_l, mg_l_r, mg_l_b, mg_r_i, mg_r_l, mg_r_r, mg_r_b, false_and, and_false, true_and, and_true, reduceCtorEq, if_true, if_false, reduceIte, Nat.reduceEqDiff, Nat.reduceAdd, Nat.succ_ne_self, ne_eq, not_false_eq_true, not_true_eq_false]
      by_cases c : p = q
      · rw [if_pos c, if_pos c, c]
        exact b4 (q - 1) (by omega) (by omega)
      · rw [if_neg c, if_neg c]
        exact b5 p (by omega) hp2
def an_mends (P : ps_T) (a : Int32) : Int32 := an_row P (fun r => if (px_at (ps_p P) r).length < 16 then nI (mk_ P r (px_at (ps_p P) r).length) else -2) a
theorem c_mends {l : Launch} {κ : mm_K} {d : Nat} {G : mm_G} {K : Int32 → mm_G → Prop} {P : ps_T} (a : Int32) (hP : ps_ok P) (hC : cB_ G P) (hL : cL_ G P) (h : ∀ G', cL_ G' P → fr_ fl_ G G' → K (an_mends P a) G') : mC l κ true (d + 5) 0 0 m_X12_mends [.ref 0, .int a] G (rI K) := by
  have hp := hP.1.1
  unfold an_mends an_row at h
  refine e_X12_mends a (s_hasRow a hC.1.1 hP.1.1 (fun e => ⟨fun q => absurd (by decide) q, fun _ => ?_⟩) (fun r e hr ea => ⟨fun _ => ?_, fun q => absurd q (by decide)⟩))
  · rw [e] at h; exact h G hL fr_.rfl'
  · rw [e] at h
    subst ea
    have hlen := hP.1.2.2 r
    rw [nI_clamp (by omega), (hC.1.2.1 r hr).1, nI_ltI (by omega) (by omega)]
    simp only [] at h
    refine ⟨(ki_vp (by omega)).2 (by omega), fun z => ?_, fun z => ?_⟩
    · rw [if_pos z] at h
      exact s_mending hP hC hL hr z h
    · rw [if_neg z] at h
      exact h G hL fr_.rfl'
theorem ki_shs : ∀ i, i < 16 → nI 0 <<< (nI i &&& 31) = nI 0 ∧ nI 1 <<< (nI i &&& 31) = nI (2 ^ i) ∧ nI 2 <<< (nI i &&& 31) = nI (2 ^ (i + 1)) := by decide +kernel
theorem m_mends {l : Launch} {κ : mm_K} {d : Nat} {G : mm_G} {K : Int32 → mm_G → Prop} {P : ps_T} {m : Nat} (a : Int32) (hP : ps_ok P) (hM : mB_ G P m) (h : ∀ G', fr_ fb_ G G' → K (an_mends P a) G') : mC l κ true (d + 6) 0 0 m_X13_mends [.ref 226, .int a] G (rI K) := by
  have ht := hP.2.1.1
  unfold an_mends an_row at h
  refine e_X13_mends a (t_isRow a hP hM (fun e => ⟨fun q => absurd (by decide) q, fun _ => ?_⟩) (fun r e hr ea => ⟨fun _ => ?_, fun q => absurd q (by decide)⟩))
  · rw [e] at h; exact h G fr_.rfl'
  · rw [e] at h
    subst ea
    have hlen := hP.1.2.2 r
    refine t_lines hP hM hr ?_
    rw [nI_eq (by omega) (by omega)]
    simp only [] at h
    refine ⟨fun z => ?_, fun z => ?_⟩
    · have hl : (px_at (ps_p P) r).length < 16 := by omega
      rw [if_pos hl] at h
      refine t_fillBase hP hM hr (fun G1 b1 _ f1 => ?_)
      suffices H : ∀ n i G2, i + n = (px_at (ps_p P) r).length → fr_ fg_ G1 G2 → mV l κ true (d + 6) 0 0 m_X13_mends 32 [some (.ref 226), some (.int (nI r)), some (.int (nI (mk_ P r i))), some (.int (nI i)), none, none] [] G2 (rI K) from H _ 0 G1 (Nat.zero_add _) fr_.rfl'
      intro n
      induction n with
      | zero =>
        intro i G2 hi hf
        refine p_X13_mends_32 _ _ _ (t_lines hP ((hM.fb f1).fg hf) hr ⟨fun _ => ?_, fun z => absurd (nI_le (by omega) (by omega)) z⟩)
        have h := h G2 (f1.trans hf.gb)
        rw [show (px_at (ps_p P) r).length = i by omega] at h
        exact h
      | succ n ih =>
        intro i G2 hi hf
        refine p_X13_mends_32 _ _ _ (t_lines hP ((hM.fb f1).fg hf) hr ⟨fun z => absurd z (nI_ge (by omega) (by omega)), fun _ => ?_⟩)
        obtain ⟨sh0, sh1, sh2⟩ := ki_shs i (by omega)
        have hdl : (db_ P r i).length ≤ 16 := by unfold db_; rw [ins_len (by omega)]; omega
        -- the end of the three
        have hyes : ∀ G3, fr_ fg_ G1 G3 → md_ P r i = true → mV l κ true (d + 6) 0 0 m_X13_mends 32 [some (.ref 226), some (.int (nI r)), some (.int (nI (mk_ P r i) ||| (nI 1 <<< (nI i &&& 31)))), some (.int (nI i + nI 1)), none, none] [] G3 (rI K) := by
          intro G3 f3 hm
          rw [sh1, fa_or, nI_add]
          have hI := ih (i + 1) G3 (by omega) f3
          rw [show mk_ P r (i + 1) = mk_ P r i ||| 2 ^ i from if_pos hm] at hI
          exact hI
        have hno : ∀ G3, fr_ fg_ G1 G3 → md_ P r i = false → mV l κ true (d + 6) 0 0 m_X13_mends 32 [some (.ref 226), some (.int (nI r)), some (.int (nI (mk_ P r i))), some (.int (nI i + nI 1)), none, none] [] G3 (rI K) := by
          intro G3 f3 hm
          rw [nI_add]
          have hI := ih (i + 1) G3 (by omega) f3
          rw [show mk_ P r (i + 1) = mk_ P r i from if_neg (by rw [hm]; decide)] at hI
          exact hI
        -- one of the two is lost
        have hlast : ∀ G3, fr_ fg_ G1 G3 → md_ P r i = true → mV l κ true (d + 6) 0 0 m_X13_mends 47 [some (.ref 226), some (.int (nI r)), some (.int (nI (mk_ P r i))), some (.int (nI i)), some (.int (nI 1)), some (.int (nI 3))] [] G3 (rI K) := by
          intro G3 f3 hm
          exact p_X13_mends_47 _ _ _ _ _ ⟨fun _ => ⟨fun y => absurd y (by decide), fun _ => hyes G3 f3 hm⟩, fun y => absurd (by decide) y⟩
        have hstep : ∀ G3 lo j v5, fr_ fg_ G1 G3 → v5 <<< (nI i &&& 31) = nI lo → lo = 2 ^ j → (j = i ∨ j = i + 1) → ¬ nI 3 ≤ v5 → (∀ G4, fr_ fg_ G1 G4 → mV l κ true (d + 6) 0 0 m_X13_mends 47 [some (.ref 226), some (.int (nI r)), some (.int (nI (mk_ P r i))), some (.int (nI i)), some (.int (nI 1)), some (.int (v5 + nI 1))] [] G4 (rI K)) → mV l κ true (d + 6) 0 0 m_X13_mends 47 [some (.ref 226), some (.int (nI r)), some (.int (nI (mk_ P r i))), some (.int (nI i)), some (.int (nI 1)), some (.int v5)] [] G3 (rI K) := by
          intro G3 lo j v5 f3 hv hlo hj hv3 hnx
          have hM3 := (hM.fb f1).fg f3
          refine p_X13_mends_47 _ _ _ _ _ ⟨fun y => absurd y hv3, fun _ => ⟨fun y => absurd y (by decide), fun _ => ?_⟩⟩
          rw [hv]
          refine t_takesTwice lo hP hM3 hr hl (by omega) (fun G4 pl p4 f4 => ?_)
          have hlo2 : lo < 65536 * 2 := by
            rw [hlo]
            have : 2 ^ j < 2 ^ 17 := Nat.pow_lt_pow_right (by decide) (by omega)
            exact this
          have hlo3 : lo < 65536 := by
            rw [hlo]
            have : 2 ^ j < 2 ^ 16 := Nat.pow_lt_pow_right (by decide) (by omega)
            exact this
          refine t_unlike hP (hM3.fg f4.tg) hr (b1.fg (f3.trans f4.tg)) p4 hdl (db_ok hP hr (by omega)) hlo3 (fun G5 f5 => ?_)
          rw [hlo, uf_more (by omega) hj, if_neg (Nat.lt_irrefl _)]
          exact ⟨fun y => absurd y (by decide), fun _ => hnx G5 ((f3.trans f4.tg).trans f5.mg)⟩
        have hM2 := (hM.fb f1).fg hf
        refine p_X13_mends_47 _ _ _ _ _ ⟨fun y => absurd y (by decide), fun _ => ⟨fun y => absurd y (by decide), fun _ => ?_⟩⟩
        rw [sh0]
        refine t_takesTwice 0 hP hM2 hr hl (by omega) (fun G4 pl p4 f4 => ?_)
        refine t_unlike hP (hM2.fg f4.tg) hr (b1.fg (hf.trans f4.tg)) p4 hdl (db_ok hP hr (by omega)) (by decide) (fun G5 f5 => ?_)
        have hle : uf_ P (db_ P r i) r 0 ≤ (ps_t P).length := fa_first_le _ _
        have f15 := (hf.trans f4.tg).trans f5.mg
        split
        · rename_i c
          refine ⟨fun _ => ?_, fun y => absurd (nI_pos' (by omega)) y⟩
          have hm : md_ P r i = false := decide_eq_false (by omega)
          exact p_X13_mends_47 _ _ _ _ _ ⟨fun y => absurd y (by decide), fun _ => ⟨fun _ => ⟨fun _ => hno G5 f15 hm, fun y => absurd rfl y⟩, fun y => absurd rfl y⟩⟩
        · rename_i c
          refine ⟨fun y => absurd y (by decide), fun _ => ?_⟩
          have hm : md_ P r i = true := decide_eq_true (by omega)
          refine hstep G5 (2 ^ i) i (nI 1) f15 sh1 rfl (Or.inl rfl) (by decide) (fun G6 f6 => ?_)
          exact hstep G6 (2 ^ (i + 1)) (i + 1) (nI 2) f6 sh2 rfl (Or.inr rfl) (by decide) (fun G7 f7 => hlast G7 f7 hm)
    · rw [if_neg (by omega)] at h
      exact h G fr_.rfl'
