/-! how many trials settle it -/
abbrev de_T : Type := Nat → Nat → Nat × List Int32
def dnn_ (D : de_T) (T : Nat) (A : Nat → Prop) : Prop := ∀ a b, A a → A b → ∀ t, t < T → D t a = D t b
def sN_ (D : de_T) (T : Nat) : Nat → (Nat → Prop) → Prop
  | 0, A => dnn_ D T A
  | k + 1, A => dnn_ D T A ∨ ∃ t, t < T ∧ (∃ a b, A a ∧ A b ∧ D t a ≠ D t b) ∧ ∀ a, A a → sN_ D T k (fun b => A b ∧ D t b = D t a)
theorem sN_dn {D : de_T} {T : Nat} {A : Nat → Prop} (h : dnn_ D T A) : ∀ k, sN_ D T k A
  | 0 => h
  | _ + 1 => Or.inl h
theorem dnn_bi {D E : de_T} {T : Nat} {A B : Nat → Prop} (h1 : ∀ b, B b → ∃ a, A a ∧ ∀ t, t < T → D t a = E t b) (h : dnn_ D T A) : dnn_ E T B := by
  intro a b ha hb t ht
  obtain ⟨a', a1, a2⟩ := h1 a ha
  obtain ⟨b', b1, b2⟩ := h1 b hb
  rw [← a2 t ht, ← b2 t ht]
  exact h a' b' a1 b1 t ht
theorem sN_bi {D E : de_T} {T : Nat} : ∀ k (A B : Nat → Prop), (∀ a, A a → ∃ b, B b ∧ ∀ t, t < T → D t a = E t b) → (∀ b, B b → ∃ a, A a ∧ ∀ t, t < T → D t a = E t b) → sN_ D T k A → sN_ E T k B
  | 0, A, B, h1, h2, h => dnn_bi h2 h
  | k + 1, A, B, h1, h2, h => by
    rcases h with h | ⟨t, ht, ⟨a, b, a1, b1, hab⟩, h⟩
    · exact Or.inl (dnn_bi h2 h)
    · refine Or.inr ⟨t, ht, ?_, fun b hb => ?_⟩
      · obtain ⟨a', a2, a3⟩ := h1 a a1
        obtain ⟨b', b2, b3⟩ := h1 b b1
        exact ⟨a', b', a2, b2, by rw [← a3 t ht, ← b3 t ht]; exact hab⟩
      · obtain ⟨a, a1, a2⟩ := h2 b hb
        refine sN_bi k _ _ (fun x hx => ?_) (fun x hx => ?_) (h a a1)
        · obtain ⟨y, y1, y2⟩ := h1 x hx.1
          exact ⟨y, ⟨y1, by rw [← y2 t ht, ← a2 t ht]; exact hx.2⟩, y2⟩
        · obtain ⟨y, y1, y2⟩ := h2 x hx.1
          exact ⟨y, ⟨y1, by rw [y2 t ht, a2 t ht]; exact hx.2⟩, y2⟩
theorem sN_cg {D : de_T} {T k : Nat} {A B : Nat → Prop} (h : ∀ b, A b ↔ B b) (hs : sN_ D T k A) : sN_ D T k B := by
  have e : A = B := funext (fun b => propext (h b))
  rw [← e]
  exact hs
def isW_ (D : de_T) (T : Nat) (A : Nat → Prop) (x : Int32) : Prop := (∃ k, k ≤ 4 ∧ x = nI k ∧ sN_ D T k A ∧ ∀ j, j < k → ¬ sN_ D T j A) ∨ ((∀ j, j ≤ 4 → ¬ sN_ D T j A) ∧ x = -2)
theorem isW_one {D : de_T} {T : Nat} {A : Nat → Prop} {x y : Int32} (h1 : isW_ D T A x) (h2 : isW_ D T A y) : x = y := by
  rcases h1 with ⟨k, k1, k2, k3, k4⟩ | ⟨k1, k2⟩
  · rcases h2 with ⟨j, j1, j2, j3, j4⟩ | ⟨j1, j2⟩
    · rcases Nat.lt_trichotomy k j with q | q | q
      · exact absurd k3 (j4 k q)
      · rw [k2, j2, q]
      · exact absurd j3 (k4 j q)
    · exact absurd k3 (j1 k k1)
  · rcases h2 with ⟨j, j1, j2, j3, j4⟩ | ⟨j1, j2⟩
    · exact absurd j3 (k1 j j1)
    · exact k2.trans j2.symm
theorem isW_bi {D E : de_T} {T : Nat} {A B : Nat → Prop} {x : Int32} (h1 : ∀ a, A a → ∃ b, B b ∧ ∀ t, t < T → D t a = E t b) (h2 : ∀ b, B b → ∃ a, A a ∧ ∀ t, t < T → D t a = E t b) (h : isW_ D T A x) : isW_ E T B x := by
  have e : ∀ k, sN_ D T k A ↔ sN_ E T k B := fun k => ⟨sN_bi k A B h1 h2, sN_bi k B A (fun b hb => by
    obtain ⟨a, a1, a2⟩ := h2 b hb
    exact ⟨a, a1, fun t ht => (a2 t ht).symm⟩) (fun a ha => by
    obtain ⟨b, b1, b2⟩ := h1 a ha
    exact ⟨b, b1, fun t ht => (b2 t ht).symm⟩)⟩
  rcases h with ⟨k, k1, k2, k3, k4⟩ | ⟨k1, k2⟩
  · exact Or.inl ⟨k, k1, k2, (e k).1 k3, fun j hj q => k4 j hj ((e j).2 q)⟩
  · exact Or.inr ⟨fun j hj q => k1 j hj ((e j).2 q), k2⟩
def sgm_ (P : ps_T) (a b c x : Int32) : Prop := match cq_ P a b c with
  | none => x = -1
  | some (r, n, k) => isW_ (oD_ P r) (ps_t P).length (fun s => s ∈ sp_ P r n k) x
theorem sgm_one {P : ps_T} {a b c x y : Int32} (h1 : sgm_ P a b c x) (h2 : sgm_ P a b c y) : x = y := by
  unfold sgm_ at h1 h2
  cases e : cq_ P a b c with
  | none => rw [e] at h1 h2; exact h1.trans h2.symm
  | some q =>
    obtain ⟨r, n, k⟩ := q
    rw [e] at h1 h2
    exact isW_one h1 h2
/-! the component: what is left, and who is like whom -/
def eC_ (P : ps_T) (r n : Nat) : de_T := fun t x => sD_ P r n x t
def gv_ (G : mm_G) (P : ps_T) (r n : Nat) : Prop := mg_i G 62 4 = nI (ps_t P).length ∧ ∀ t, t < (ps_t P).length → ∀ c, c < (sL_ P r n).length → mg_i G 178 (8 * c + t) = nI (gr_ P r n t c)
def mbr_ (G : mm_G) (P : ps_T) (r n dp : Nat) (L : List Nat) : Prop := L.length ≤ 120 ∧ ∀ i, i < L.length → mg_i G (183 + dp) i = nI (L.getD i 0) ∧ L.getD i 0 < (sL_ P r n).length
def fMb_ (a c _k : Nat) : Bool := decide (183 + a ≤ c) && decide (c ≤ 187)
theorem fMb_F {a c k : Nat} (h : c < 183 + a ∨ 187 < c) : fMb_ a c k = false := by
  unfold fMb_
  rcases h with z | z
  · rw [decide_eq_false (p := 183 + a ≤ c) (by omega)]; rfl
  · rw [decide_eq_false (p := c ≤ 187) (by omega), Bool.and_false]
theorem fMb_T {a c k : Nat} (h : 183 + a ≤ c ∧ c ≤ 187) : fMb_ a c k = true := by
  unfold fMb_
  rw [decide_eq_true h.1, decide_eq_true h.2]
  rfl
theorem fMb_up {a b : Nat} {G G1 : mm_G} (h : fr_ (fMb_ a) G G1) (hb : b ≤ a) : fr_ (fMb_ b) G G1 := h.mono (fun c k q => by
  by_cases z : 183 + a ≤ c ∧ c ≤ 187
  · rw [fMb_T (by omega)] at q; cases q
  · exact fMb_F (by omega))
theorem gv_.fM {G G1 : mm_G} {P : ps_T} {r n a : Nat} (h : gv_ G P r n) (hf : fr_ (fMb_ a) G G1) : gv_ G1 P r n := ⟨by rw [hf.i _ _ (fMb_F (by omega))]; exact h.1, fun t ht c hc => by rw [hf.i _ _ (fMb_F (by omega))]; exact h.2 t ht c hc⟩
theorem mbr_.fM {G G1 : mm_G} {P : ps_T} {r n a dp : Nat} {L : List Nat} (h : mbr_ G P r n dp L) (hf : fr_ (fMb_ a) G G1) (hd : dp < a) : mbr_ G1 P r n dp L := ⟨h.1, fun i hi => ⟨by rw [hf.i _ _ (fMb_F (by omega))]; exact (h.2 i hi).1, (h.2 i hi).2⟩⟩
theorem gr_le {P : ps_T} {r n t c : Nat} : gr_ P r n t c ≤ c := fa_first_le _ _
theorem s_told {l : Launch} {κ : mm_K} {d : Nat} {G : mm_G} {K : Int32 → mm_G → Prop} {P : ps_T} {r n x y : Nat} (hP : ps_ok P) (hn : n ≤ 2) (hg : gv_ G P r n) (hx : x < (sL_ P r n).length) (hy : y < (sL_ P r n).length) (h0 : (∀ t, t < (ps_t P).length → sD_ P r n x t = sD_ P r n y t) → K (nI 0) G) (h1 : (¬ ∀ t, t < (ps_t P).length → sD_ P r n x t = sD_ P r n y t) → K (nI 1) G) : mC l κ true d 0 0 m_X9_areToldApart [.ref 175, .int (nI x), .int (nI y)] G (rI K) := by
  have h120 : (sL_ P r n).length ≤ 120 := su_120 (hP.1.2.2 r) hn
  have ht8 := hP.2.1.1
  refine e_X9_areToldApart _ _ ?_
  suffices H : ∀ m t, t + m = (ps_t P).length → (∀ u, u < t → sD_ P r n x u = sD_ P r n y u) → mV l κ true d 0 0 m_X9_areToldApart 2 [some (.ref 175), some (.int (nI x)), some (.int (nI y)), some (.int (nI t))] [] G (rI K) from H _ 0 (Nat.zero_add _) (fun u hu => absurd hu (Nat.not_lt_zero u))
  intro m
  induction m with
  | zero =>
    intro t hm hs
    exact p_X9_areToldApart_2 _ _ _ ⟨fun _ => h0 (fun u hu => hs u (by omega)), fun z => absurd (by rw [hg.1]; exact nI_le (by omega) (by omega)) z⟩
  | succ m ih =>
    intro t hm hs
    have g1 := gr_le (P := P) (r := r) (n := n) (t := t) (c := x)
    have g2 := gr_le (P := P) (r := r) (n := n) (t := t) (c := y)
    refine p_X9_areToldApart_2 _ _ _ ⟨fun z => absurd z (by rw [hg.1]; exact nI_ge (by omega) (by omega)), fun _ => ?_⟩
    rw [ki_mul, ki_mul, nI_add, nI_add, nI_add, nI_clamp (by omega), nI_clamp (by omega), show x * 8 + t = 8 * x + t by omega, show y * 8 + t = 8 * y + t by omega, hg.2 t (by omega) x hx, hg.2 t (by omega) y hy, nI_eq (by omega) (by omega), gr_same]
    refine ⟨(ki_vp (by omega)).2 (by omega), (ki_vp (by omega)).2 (by omega), fun z => ih (t + 1) (by omega) (fun u hu => ?_), fun z => h1 (fun q => z (q t (by omega)))⟩
    rcases Nat.lt_succ_iff_lt_or_eq.mp hu with q | q
    · exact hs u q
    · subst q; exact z
def sep_ (D : de_T) (T : Nat) (L : List Nat) : Prop := L.Pairwise (fun a b => ¬ ∀ t, t < T → D t a = D t b)
theorem tk_succ {L : List Nat} {i : Nat} (h : i < L.length) : L.take (i + 1) = L.take i ++ [L.getD i 0] := by
  rw [List.take_succ_eq_append_getElem h, List.getD_eq_getElem?_getD, List.getElem?_eq_getElem h]
  rfl
theorem mem_gd {L : List Nat} {x : Nat} (h : x ∈ L) : ∃ i, i < L.length ∧ L.getD i 0 = x := by
  obtain ⟨i, i1, i2⟩ := List.mem_iff_getElem.1 h
  refine ⟨i, i1, ?_⟩
  rw [List.getD_eq_getElem?_getD, List.getElem?_eq_getElem i1]
  exact i2
theorem s_unlike {l : Launch} {κ : mm_K} {d : Nat} {G : mm_G} {K : Int32 → mm_G → Prop} {P : ps_T} {r n : Nat} {xs : List Nat} (hP : ps_ok P) (hn : n ≤ 2) (hg : gv_ G P r n) (hx : lft_ G xs (sL_ P r n).length)
    (h : ∀ G' L, mbr_ G' P r n 0 L → sep_ (eC_ P r n) (ps_t P).length L → (∀ x, x ∈ L → x ∈ xs) → (∀ x, x ∈ xs → ∃ y, y ∈ L ∧ ∀ t, t < (ps_t P).length → eC_ P r n t x = eC_ P r n t y) → fr_ (fMb_ 0) G G' → K (nI L.length) G') : mC l κ true (d + 1) 0 0 m_X9_gatherUnlike [.ref 175] G (rI K) := by
  have h120 : (sL_ P r n).length ≤ 120 := su_120 (hP.1.2.2 r) hn
  obtain ⟨x1, x2, x3⟩ := hx
  refine e_X9_gatherUnlike ?_
  suffices H : ∀ m i G1 L, i + m = xs.length → L.length ≤ i → mbr_ G1 P r n 0 L → sep_ (eC_ P r n) (ps_t P).length L → (∀ x, x ∈ L → x ∈ xs) → (∀ j, j < i → ∃ y, y ∈ L ∧ ∀ t, t < (ps_t P).length → eC_ P r n t (xs.getD j 0) = eC_ P r n t y) → fr_ (fMb_ 0) G G1 → mV l κ true (d + 1) 0 0 m_X9_gatherUnlike 4 [some (.ref 175), some (.int (nI L.length)), some (.int (nI i)), none, none] [] G1 (rI K) from
    H _ 0 G [] (Nat.zero_add _) (Nat.le_refl _) ⟨Nat.zero_le _, fun i hi => absurd hi (Nat.not_lt_zero i)⟩ List.Pairwise.nil (fun x hx => absurd hx List.not_mem_nil) (fun j hj => absurd hj (Nat.not_lt_zero j)) fr_.rfl'
  intro m
  induction m with
  | zero =>
    intro i G1 L hi hL m1 s1 u1 c1 f1
    have e11 : mg_i G1 175 11 = nI xs.length := by rw [f1.i _ _ (fMb_F (by omega))]; exact x1
    refine p_X9_gatherUnlike_4 _ _ ⟨fun _ => h G1 L m1 s1 u1 (fun x hx => ?_) f1, fun z => absurd (by rw [e11]; exact nI_le (by omega) (by omega)) z⟩
    obtain ⟨j, j1, j2⟩ := mem_gd hx
    rw [← j2]
    exact c1 j (by omega)
  | succ m ih =>
    intro i G1 L hi hL m1 s1 u1 c1 f1
    have hil : i < xs.length := by omega
    obtain ⟨x4, x5⟩ := x3 i hil
    have e11 : mg_i G1 175 11 = nI xs.length := by rw [f1.i _ _ (fMb_F (by omega))]; exact x1
    have e7 : mg_i G1 177 i = nI (xs.getD i 0) := by rw [f1.i _ _ (fMb_F (by omega))]; exact x4
    refine p_X9_gatherUnlike_4 _ _ ⟨fun z => absurd z (by rw [e11]; exact nI_ge (by omega) (by omega)), fun _ => ?_⟩
    have hold : (∃ y, y ∈ L ∧ ∀ t, t < (ps_t P).length → eC_ P r n t (xs.getD i 0) = eC_ P r n t y) → mV l κ true (d + 1) 0 0 m_X9_gatherUnlike 4 [some (.ref 175), some (.int (nI L.length)), some (.int (nI i + nI 1)), none, none] [] G1 (rI K) := by
      intro hy
      rw [nI_add]
      refine ih (i + 1) G1 L (by omega) (by omega) m1 s1 u1 (fun j hj => ?_) f1
      rcases Nat.lt_succ_iff_lt_or_eq.mp hj with q | q
      · exact c1 j q
      · subst q; exact hy
    have hnew : (∀ j, j < L.length → ¬ ∀ t, t < (ps_t P).length → eC_ P r n t (L.getD j 0) = eC_ P r n t (xs.getD i 0)) → vp_in (nI 0) 5 ∧ vp_in (nI i) 120 ∧ vp_in (nI L.length) 120 ∧ mV l κ true (d + 1) 0 0 m_X9_gatherUnlike 4 [some (.ref 175), some (.int (nI L.length + nI 1)), some (.int (nI i + nI 1)), none, none] [] (ms_i G1 (183 + (nI 0).toNatClampNeg) (nI L.length).toNatClampNeg (mg_i G1 177 (nI i).toNatClampNeg)) (rI K) := by
      intro hno
      rw [nI_clamp (by omega), nI_clamp (by omega), nI_clamp (by omega), e7, nI_add, nI_add]
      refine ⟨(ki_vp (by omega)).2 (by omega), (ki_vp (by omega)).2 (by omega), (ki_vp (by omega)).2 (by omega), ?_⟩
      have el : (L ++ [xs.getD i 0]).length = L.length + 1 := List.length_append
      have hh := ih (i + 1) (ms_i G1 (183 + 0) L.length (nI (xs.getD i 0))) (L ++ [xs.getD i 0]) (by omega) (by omega) ⟨by omega, fun j hj => ?_⟩ ?_ (fun x hx => ?_) (fun j hj => ?_) (f1.si (fMb_T (by omega)))
      · rw [el] at hh; exact hh
      · rw [el] at hj
        simp only [mg_i_i, mg_i_l, mg_i_r, mg_i_b, mg_l_i, mg_l_l, mg_l_r, mg_l_b, mg_r_i, mg_r_l, mg_r_r, mg_r_b, false_and, and_false, true_and, and_true, reduceCtorEq, if_true, if_false, reduceIte, Nat.reduceEqDiff, Nat.reduceAdd, Nat.succ_ne_self, ne_eq, not_false_eq_true, not_true_eq_false]
        by_cases q : j = L.length
        · rw [if_pos q, q, ap_eq]; exact ⟨rfl, x5⟩
        · rw [if_neg q, ap_lt (by omega)]; exact m1.2 j (by omega)
      · unfold sep_
        rw [List.pairwise_append]
        refine ⟨s1, List.pairwise_singleton _ _, fun a ha b hb => ?_⟩
        obtain ⟨j, j1, j2⟩ := mem_gd ha
        rw [List.mem_singleton.1 hb, ← j2]
        exact hno j j1
      · rcases List.mem_append.1 hx with q | q
        · exact u1 x q
        · rw [List.mem_singleton.1 q]; exact gd_mem hil
      · rcases Nat.lt_succ_iff_lt_or_eq.mp hj with q | q
        · obtain ⟨y, y1, y2⟩ := c1 j q
          exact ⟨y, List.mem_append.2 (Or.inl y1), y2⟩
        · subst q
          exact ⟨_, List.mem_append.2 (Or.inr (List.mem_singleton.2 rfl)), fun _ _ => rfl⟩
    suffices H : ∀ w j (fl : Int32), j + w = L.length → ((fl = nI 1 ∧ ∀ j', j' < j → ¬ ∀ t, t < (ps_t P).length → eC_ P r n t (L.getD j' 0) = eC_ P r n t (xs.getD i 0)) ∨ (fl = nI 0 ∧ ∃ y, y ∈ L ∧ ∀ t, t < (ps_t P).length → eC_ P r n t (xs.getD i 0) = eC_ P r n t y)) → mV l κ true (d + 1) 0 0 m_X9_gatherUnlike 17 [some (.ref 175), some (.int (nI L.length)), some (.int (nI i)), some (.int fl), some (.int (nI j))] [] G1 (rI K) from
      H _ 0 (nI 1) (Nat.zero_add _) (Or.inl ⟨rfl, fun j hj => absurd hj (Nat.not_lt_zero j)⟩)
    intro w
    induction w with
    | zero =>
      intro j fl hj hfl
      refine p_X9_gatherUnlike_17 _ _ _ _ ⟨fun _ => ?_, fun z => absurd (nI_le (by omega) (by omega)) z⟩
      rcases hfl with ⟨q1, q2⟩ | ⟨q1, q2⟩
      · subst q1
        exact ⟨fun z => absurd z (by decide), fun _ => hnew (fun j' hj' => q2 j' (by omega))⟩
      · subst q1
        exact ⟨fun _ => hold q2, fun z => absurd (by decide) z⟩
    | succ w ihw =>
      intro j fl hj hfl
      refine p_X9_gatherUnlike_17 _ _ _ _ ⟨fun z => absurd z (nI_ge (by omega) (by omega)), fun _ => ?_⟩
      rcases hfl with ⟨q1, q2⟩ | ⟨q1, q2⟩
      · subst q1
        refine ⟨fun z => absurd z (by decide), fun _ => ⟨(ki_vp (by omega)).2 (by omega), (ki_vp (by omega)).2 (by omega), (ki_vp (by omega)).2 (by omega), ?_⟩⟩
        obtain ⟨y1, y2⟩ := m1.2 j (by omega)
        rw [nI_clamp (by omega), nI_clamp (by omega), nI_clamp (by omega), e7, y1, nI_add]
        refine s_told hP hn (hg.fM f1) y2 x5 (fun z => ihw (j + 1) _ (by omega) (Or.inr ⟨rfl, _, gd_mem (show j < L.length by omega), fun t ht => (z t ht).symm⟩)) (fun z => ihw (j + 1) _ (by omega) (Or.inl ⟨rfl, fun j' hj' => ?_⟩))
        rcases Nat.lt_succ_iff_lt_or_eq.mp hj' with q | q
        · exact q2 j' q
        · subst q; exact z
      · subst q1
        exact ⟨fun _ => ⟨fun _ => hold q2, fun z => absurd (by decide) z⟩, fun z => absurd (by decide) z⟩
