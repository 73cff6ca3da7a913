/-! deeds; what the whole row does is kept -/
def od2_ (e : en_T) (r fu : Nat) : Nat × List Int32 := ((ru_run e r fu).2, rs_o (ru_run e r fu).1)
theorem fc_T {c k : Nat} (h : 91 ≤ c ∧ c ≤ 97) : fc_ c k = true := by
  unfold fc_
  rw [decide_eq_true h.1, decide_eq_true h.2]
  rfl
def fx_ (x : Nat) (c _k : Nat) : Bool := decide (c = x) || decide (c = x + 1)
theorem fx_F {x c k : Nat} (h : c ≠ x ∧ c ≠ x + 1) : fx_ x c k = false := by
  unfold fx_
  rw [decide_eq_false h.1, decide_eq_false h.2]
  rfl
theorem fx_0 {x k : Nat} : fx_ x x k = true := by
  unfold fx_
  rw [decide_eq_true (Eq.refl x)]
  rfl
theorem fx_1 {x k : Nat} : fx_ x (x + 1) k = true := by
  unfold fx_
  rw [decide_eq_true (Eq.refl (x + 1)), Bool.or_true]
/-- a deed is copied -/
theorem s_copy {l : Launch} {κ : mm_K} {d : Nat} {G : mm_G} {K : mm_G → Prop} {x y m : Nat} {o : Nat × List Int32} (hx : DeedAt x) (hy : DeedAt y) (hxy : x ≠ y ∧ x ≠ y + 1 ∧ y ≠ x + 1) (h1 : cd_ G y o.2) (h2 : mg_i G y 2 = nI o.1) (h3 : mg_i G y 3 = nI m)
    (h : ∀ G', cd_ G' x o.2 → mg_i G' x 2 = nI o.1 → mg_i G' x 3 = nI m → fr_ (fx_ x) G G' → K G') : mC l κ true d 0 0 m_X0_copy [.ref x, .ref y] G (rV K) := by
  obtain ⟨a1, a2, a3⟩ := h1
  refine e_X0_copy x hx y hy ?_
  simp only [mg_i_i]
  rw [if_neg (by omega), if_neg (by omega), if_neg (by omega), a1, h2, h3]
  suffices H : ∀ n i G1, i + n = o.2.length → fr_ (fx_ x) G G1 → mg_i G1 x 1 = nI o.2.length → mg_i G1 x 2 = nI o.1 → mg_i G1 x 3 = nI m → (∀ j, j < i → mg_i G1 (x + 1) j = o.2.getD j (nI 0)) → mV l κ true d 0 0 m_X0_copy 26 [some (.ref x), some (.ref y), some (.int (nI i))] [] G1 (rV K) from
    H _ 0 _ (Nat.zero_add _) (((fr_.rfl'.si fx_0).si fx_0).si fx_0) (by simp [mg_i_i]) (by simp [mg_i_i]) (by simp [mg_i_i]) (fun j hj => absurd hj (Nat.not_lt_zero j))
  intro n
  induction n with
  | zero =>
    intro i G1 hi hf q1 q2 q3 q4
    refine p_X0_copy_26 x hx y hy _ ⟨fun _ => h G1 ⟨q1, a2, fun j hj => q4 j (by omega)⟩ q2 q3 hf, fun z => absurd ?_ z⟩
    rw [q1]; exact nI_le (by omega) (by omega)
  | succ n ih =>
    intro i G1 hi hf q1 q2 q3 q4
    refine p_X0_copy_26 x hx y hy _ ⟨fun z => absurd z (by rw [q1]; exact nI_ge (by omega) (by omega)), fun _ => ⟨(ki_vp (by omega)).2 (by omega), (ki_vp (by omega)).2 (by omega), ?_⟩⟩
    rw [nI_add, nI_clamp (by omega), hf.i (y + 1) i (fx_F (by omega)), a3 i (by omega)]
    refine ih (i + 1) _ (by omega) (hf.si fx_1) (by simp [mg_i_i]; exact q1) (by simp [mg_i_i]; exact q2) (by simp [mg_i_i]; exact q3) (fun j hj => ?_)
    rw [mg_i_i]
    split
    · rename_i z; rw [z.2]
    · exact q4 j (by omega)
theorem ls_ext {a b : List Int32} (h1 : a.length = b.length) (h2 : ∀ j, j < a.length → a.getD j (nI 0) = b.getD j (nI 0)) : a = b := by
  apply List.ext_getElem h1
  intro i q1 q2
  have := h2 i q1
  rw [List.getD_eq_getElem?_getD, List.getD_eq_getElem?_getD, List.getElem?_eq_getElem q1, List.getElem?_eq_getElem q2] at this
  exact this
/-- two deeds are compared -/
theorem s_isLike {l : Launch} {κ : mm_K} {d : Nat} {G : mm_G} {K : Int32 → mm_G → Prop} {x y : Nat} {o p : Nat × List Int32} (hx : DeedAt x) (hy : DeedAt y) (h1 : cd_ G x o.2) (h2 : mg_i G x 2 = nI o.1) (h3 : cd_ G y p.2) (h4 : mg_i G y 2 = nI p.1) (ho : o.1 < 100) (hp : p.1 < 100)
    (h : K (if o = p then nI 1 else nI 0) G) : mC l κ true d 0 0 m_X0_isLike [.ref x, .ref y] G (rI K) := by
  obtain ⟨a1, a2, a3⟩ := h1
  obtain ⟨b1, b2, b3⟩ := h3
  refine e_X0_isLike x hx y hy ?_
  rw [h2, h4, a1, b1, nI_eq (by omega) (by omega), nI_eq (by omega) (by omega)]
  refine ⟨fun z => ?_, fun z => ⟨fun z2 => ?_, fun z2 => ?_⟩⟩
  · rw [if_neg (fun q => z (congrArg Prod.fst q))] at h; exact h
  · suffices H : ∀ n i, i + n = o.2.length → (∀ j, j < i → o.2.getD j (nI 0) = p.2.getD j (nI 0)) → mV l κ true d 0 0 m_X0_isLike 26 [some (.ref x), some (.ref y), some (.int (nI i))] [] G (rI K) from H _ 0 (Nat.zero_add _) (fun j hj => absurd hj (Nat.not_lt_zero j))
    intro n
    induction n with
    | zero =>
      intro i hi hj
      refine p_X0_isLike_26 x hx y hy _ ⟨fun _ => ?_, fun q => absurd ?_ q⟩
      · rw [if_pos (Prod.ext z (ls_ext z2 (fun j q => hj j (by omega))))] at h; exact h
      · rw [a1]; exact nI_le (by omega) (by omega)
    | succ n ih =>
      intro i hi hj
      refine p_X0_isLike_26 x hx y hy _ ⟨fun q => absurd q (by rw [a1]; exact nI_ge (by omega) (by omega)), fun _ => ⟨(ki_vp (by omega)).2 (by omega), (ki_vp (by omega)).2 (by omega), fun q => ?_, fun q => ?_⟩⟩
      · rw [nI_clamp (by omega), a3 i (by omega), b3 i (by omega)] at q
        rw [nI_add]
        refine ih (i + 1) (by omega) (fun j hj2 => ?_)
        rcases Nat.lt_succ_iff_lt_or_eq.mp hj2 with c | c
        · exact hj j c
        · subst c; exact q
      · rw [nI_clamp (by omega), a3 i (by omega), b3 i (by omega)] at q
        rw [if_neg (fun q2 => q (by rw [q2]))] at h; exact h
  · rw [if_neg (fun q => z2 (by rw [q]))] at h; exact h
/-! losses -/
def rch_ (P : ps_T) (r : Nat) : Nat → Nat
  | 0 => 0
  | n + 1 => rch_ P r n ||| ru_dn (rs_t (rr_ (ps_p P) (ps_t P) (ps_f P) r 0 n).1)
def kd_ (G : mm_G) (P : ps_T) (r k : Nat) : Prop := cd_ G (104 + 2 * (8 * r + k)) (od_ (ps_p P) (ps_t P) (ps_f P) r 0 k).2 ∧ mg_i G (104 + 2 * (8 * r + k)) 2 = nI (od_ (ps_p P) (ps_t P) (ps_f P) r 0 k).1 ∧ mg_i G (104 + 2 * (8 * r + k)) 3 = nI (rs_m (rr_ (ps_p P) (ps_t P) (ps_f P) r 0 k).1)
def kn_ (G : mm_G) (P : ps_T) (r : Nat) : Prop := mg_i G 100 r = nI (rch_ P r (ps_t P).length) ∧ ∀ k, k < (ps_t P).length → kd_ G P r k
def kr_ (G : mm_G) (P : ps_T) (r : Nat) : Prop := mg_i G 101 r = nI 0 ∨ (mg_i G 101 r = nI 1 ∧ kn_ G P r)
def cL_ (G : mm_G) (P : ps_T) : Prop := ∀ r, r < 4 → kr_ G P r
def fl_ (c _k : Nat) : Bool := decide (91 ≤ c) && decide (c ≤ 167)
theorem fl_F {c k : Nat} (h : c < 91 ∨ 167 < c) : fl_ c k = false := by
  unfold fl_
  rcases h with h | h
  · rw [decide_eq_false (by omega)]; rfl
  · rw [decide_eq_false (p := c ≤ 167) (by omega), Bool.and_false]
theorem fl_T {c k : Nat} (h : 91 ≤ c ∧ c ≤ 167) : fl_ c k = true := by
  unfold fl_
  rw [decide_eq_true h.1, decide_eq_true h.2]
  rfl
theorem fl_on {c k : Nat} (h : rgB c k = true) : fl_ c k = false := fl_F (by have := rgB_iff.1 h; omega)
theorem fr_.cl {G G1 : mm_G} (h : fr_ fc_ G G1) : fr_ fl_ G G1 := h.mono (fun c k q => by
  rcases Nat.lt_or_ge c 91 with z | z
  · exact fc_F (Or.inl z)
  · rcases Nat.lt_or_ge 97 c with z2 | z2
    · exact fc_F (Or.inr z2)
    · rw [fl_T (by omega)] at q; cases q)
theorem kd_.fr {S : Nat → Nat → Bool} {G G1 : mm_G} {P : ps_T} {r k : Nat} (h : kd_ G P r k) (hf : fr_ S G G1) (h0 : ∀ j, S (104 + 2 * (8 * r + k)) j = false) (h1 : ∀ j, S (104 + 2 * (8 * r + k) + 1) j = false) : kd_ G1 P r k := by
  obtain ⟨a1, a2, a3⟩ := h
  refine ⟨a1.fr hf (h0 _) h1, ?_, ?_⟩
  · rw [hf.i _ _ (h0 _)]; exact a2
  · rw [hf.i _ _ (h0 _)]; exact a3
theorem kr_.fc {G G1 : mm_G} {P : ps_T} {r : Nat} (h : kr_ G P r) (hf : fr_ fc_ G G1) : kr_ G1 P r := by
  rcases h with h | ⟨h, h2, h3⟩
  · left; rw [hf.i _ _ (fc_F (by omega))]; exact h
  · right
    refine ⟨?_, ?_, fun k hk => (h3 k hk).fr hf (fun j => fc_F (by omega)) (fun j => fc_F (by omega))⟩
    · rw [hf.i _ _ (fc_F (by omega))]; exact h
    · rw [hf.i _ _ (fc_F (by omega))]; exact h2
theorem cL_.fc {G G1 : mm_G} {P : ps_T} (h : cL_ G P) (hf : fr_ fc_ G G1) : cL_ G1 P := fun r hr => (h r hr).fc hf
theorem kn_.fc {G G1 : mm_G} {P : ps_T} {r : Nat} (h : kn_ G P r) (hf : fr_ fc_ G G1) : kn_ G1 P r := by
  obtain ⟨h2, h3⟩ := h
  refine ⟨?_, fun k hk => (h3 k hk).fr hf (fun j => fc_F (by omega)) (fun j => fc_F (by omega))⟩
  rw [hf.i _ _ (fc_F (by omega))]; exact h2
theorem dd_At {i : Nat} (h : i < 32) : DeedAt (104 + 2 * i) := mm_deedP (mm_deed2 i h).1
theorem cs_.cd {G : mm_G} {e : en_T} {c r t : Nat} {q : Option Nat} {s : rs_T} (h : cs_ G e c r t q s) (ho : (rs_o s).length ≤ 8) : cd_ G 92 (rs_o s) := ⟨h.2.2.2.2.2.2.2.2.1, ho, h.2.2.2.2.2.2.2.2.2.2.1⟩
theorem s_know {l : Launch} {κ : mm_K} {d : Nat} {G : mm_G} {K : mm_G → Prop} {P : ps_T} {r : Nat} (hP : ps_ok P) (hC : cB_ G P) (hL : cL_ G P) (hr : r < (ps_p P).length)
    (h : ∀ G', cL_ G' P → kn_ G' P r → fr_ fl_ G G' → K G') : mC l κ true (d + 3) 0 0 m_X2_know [.ref 98, .int (nI r)] G (rV K) := by
  have hp := hP.1.1
  have ht := hP.2.1.1
  refine e_X2_know _ ?_
  rw [nI_clamp (by omega), ki_0]
  refine ⟨(ki_vp (by omega)).2 (by omega), fun z => ⟨(ki_vp (by omega)).2 (by omega), ?_⟩, fun z => ?_⟩
  · suffices H : ∀ n i G1, i + n = (ps_t P).length → fr_ fl_ G G1 → mg_i G1 100 r = nI (rch_ P r i) → (∀ k, k < i → kd_ G1 P r k) → (∀ q, q < 4 → q ≠ r → kr_ G1 P q) → mV l κ true (d + 3) 0 0 m_X2_know 19 [some (.ref 98), some (.int (nI r)), some (.int (nI i))] [] G1 (rV K) by
      refine H _ 0 _ (Nat.zero_add _) (fr_.rfl'.si (fl_T (by omega))) (by simp [mg_i_i]; rfl) (fun k hk => absurd hk (Nat.not_lt_zero k)) (fun q hq hne => ?_)
      have hf : fr_ (fun c k => decide (c = 100) && decide (k = r)) G (ms_i G 100 r (nI 0)) := fr_.rfl'.si (by simp)
      rcases hL q hq with c | ⟨c, c2, c3⟩
      · left; rw [hf.i _ _ (by simp)]; exact c
      · right
        refine ⟨by rw [hf.i _ _ (by simp)]; exact c, by rw [hf.i _ _ (by simp; omega)]; exact c2, fun k hk => (c3 k hk).fr hf (fun j => by simp; omega) (fun j => by simp; omega)⟩
    intro n
    induction n with
    | zero =>
      intro i G1 hi hf q1 q2 q3
      have hC1 := hC.on hP (hf.on (fun c k q => fl_on q)) (by rw [hf.1]; exact Nat.le_refl _)
      refine p_X2_know_19 _ _ ⟨fun _ => ⟨(ki_vp (by omega)).2 (by omega), ?_⟩, fun z => absurd ?_ z⟩
      · rw [nI_clamp (by omega)]
        have e1 : vp_nar .boolean (nI 1) = nI 1 := by decide +kernel
        rw [e1]
        obtain rfl : i = (ps_t P).length := by omega
        have hf1 : fr_ (fun c k => decide (c = 101) && decide (k = r)) G1 (ms_i G1 101 r (nI 1)) := fr_.rfl'.si (by simp)
        have hkn : kn_ (ms_i G1 101 r (nI 1)) P r := ⟨by rw [hf1.i _ _ (by simp)]; exact q1, fun k hk => (q2 k hk).fr hf1 (fun j => by simp; omega) (fun j => by simp; omega)⟩
        refine h _ (fun q hq => ?_) hkn (hf.si (fl_T (by omega)))
        by_cases cq : q = r
        · subst cq
          right
          exact ⟨by simp [mg_i_i], hkn⟩
        · rcases q3 q hq cq with c | ⟨c, c2, c3⟩
          · left; rw [hf1.i _ _ (by simp; omega)]; exact c
          · right
            exact ⟨by rw [hf1.i _ _ (by simp; omega)]; exact c, by rw [hf1.i _ _ (by simp)]; exact c2, fun k hk => (c3 k hk).fr hf1 (fun j => by simp; omega) (fun j => by simp; omega)⟩
      · rw [hC1.2.1.1]; exact nI_le (by omega) (by omega)
    | succ n ih =>
      intro i G1 hi hf q1 q2 q3
      have hC1 := hC.on hP (hf.on (fun c k q => fl_on q)) (by rw [hf.1]; exact Nat.le_refl _)
      have h2p : 0 < 2 ^ (px_at (ps_p P) r).length := Nat.two_pow_pos _
      refine p_X2_know_19 _ _ ⟨fun z => absurd z (by rw [hC1.2.1.1]; exact nI_ge (by omega) (by omega)), fun _ => ⟨(ki_vp (by omega)).2 (by omega), ?_⟩⟩
      rw [nI_clamp (by omega)]
      refine s_run0 hP hC1 hr h2p (by omega) (fun G2 g1 g2 g3 => ?_)
      rw [ki_mul, nI_add, nI_clamp (by omega), show r * 8 + i = 8 * r + i by omega]
      obtain ⟨o8, -, o3, -⟩ := rr_ok (k := i) hP hr (by decide : 0 < 65536)
      refine ⟨(ki_vp (by omega)).2 (by omega), s_copy (o := od_ (ps_p P) (ps_t P) (ps_f P) r 0 i) (m := rs_m (rr_ (ps_p P) (ps_t P) (ps_f P) r 0 i).1) (dd_At (by omega)) mm_deed3 (by omega) (g1.cd o8) g3 g1.2.2.2.2.2.2.2.2.2.1 (fun G3 k1 k2 k3 k4 => ⟨(ki_vp (by omega)).2 (by omega), (ki_vp (by omega)).2 (by omega), ?_⟩)⟩
      have e100 : mg_i G3 100 r = nI (rch_ P r i) := by rw [k4.i _ _ (fx_F (by omega)), g2.i _ _ (fc_F (by omega))]; exact q1
      have e91 : mg_i G3 91 4 = nI (ru_dn (rs_t (rr_ (ps_p P) (ps_t P) (ps_f P) r 0 i).1)) := by rw [k4.i _ _ (fx_F (by omega))]; exact g1.2.1
      rw [e100, e91, fa_or, nI_add]
      have hf4 : fr_ (fun c k => decide (c = 100) && decide (k = r)) G3 (ms_i G3 100 r (nI (rch_ P r i ||| ru_dn (rs_t (rr_ (ps_p P) (ps_t P) (ps_f P) r 0 i).1)))) := fr_.rfl'.si (by simp)
      have hfx : fr_ fl_ G2 G3 := k4.mono (fun c k q => fx_F (by
        rcases Nat.lt_or_ge c 91 with z | z
        · omega
        · rcases Nat.lt_or_ge 167 c with z2 | z2
          · omega
          · rw [fl_T (by omega)] at q; cases q))
      refine ih (i + 1) _ (by omega) (((hf.trans g2.cl).trans hfx).si (fl_T (by omega))) (by simp [mg_i_i]; rfl) (fun k hk => ?_) (fun q hq hne => ?_)
      · rcases Nat.lt_succ_iff_lt_or_eq.mp hk with c | c
        · exact (((q2 k c).fr g2 (fun j => fc_F (by omega)) (fun j => fc_F (by omega))).fr k4 (fun j => fx_F (by omega)) (fun j => fx_F (by omega))).fr hf4 (fun j => by simp; omega) (fun j => by simp; omega)
        · subst c
          exact (show kd_ G3 P r k from ⟨k1, k2, k3⟩).fr hf4 (fun j => by simp; omega) (fun j => by simp; omega)
      · rcases (q3 q hq hne).fc g2 with c | ⟨c, c2, c3⟩
        · left; rw [hf4.i _ _ (by simp), k4.i _ _ (fx_F (by omega))]; exact c
        · right
          refine ⟨by rw [hf4.i _ _ (by simp), k4.i _ _ (fx_F (by omega))]; exact c, by rw [hf4.i _ _ (by simp; omega), k4.i _ _ (fx_F (by omega))]; exact c2, fun k hk => ?_⟩
          exact ((c3 k hk).fr k4 (fun j => fx_F (by omega)) (fun j => fx_F (by omega))).fr hf4 (fun j => by simp; omega) (fun j => by simp; omega)
  · rcases hL r (by omega) with c | c
    · exact absurd c z
    · exact h G hL c.2 fr_.rfl'
