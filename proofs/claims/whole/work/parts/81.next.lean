/-! next: by counts of equal deeds -/
def oD_ (P : ps_T) (r t s : Nat) : Nat × List Int32 := od_ (ps_p P) (ps_t P) (ps_f P) r s t
def cn_ (P : ps_T) (r t : Nat) (S : List Nat) (i : Nat) : Nat := fb_ct (fun j => decide (oD_ P r t (S.getD j 0) = oD_ P r t (S.getD i 0))) S.length
def isM_ (P : ps_T) (r t : Nat) (S : List Nat) (v : Nat) : Prop := (∀ i, i < S.length → cn_ P r t S i ≤ v) ∧ (S.length ≠ 0 → ∃ i, i < S.length ∧ cn_ P r t S i = v)
theorem isM_one {P : ps_T} {r t v w : Nat} {S : List Nat} (h0 : S.length ≠ 0) (h1 : isM_ P r t S v) (h2 : isM_ P r t S w) : v = w := by
  obtain ⟨i, i1, i2⟩ := h1.2 h0
  obtain ⟨j, j1, j2⟩ := h2.2 h0
  have a := h1.1 j j1
  have b := h2.1 i i1
  omega
theorem gr_same {P : ps_T} {r n t a b : Nat} : gr_ P r n t a = gr_ P r n t b ↔ sD_ P r n a t = sD_ P r n b t := by
  have hrep : ∀ c, sD_ P r n (gr_ P r n t c) t = sD_ P r n c t := by
    intro c
    have hle : gr_ P r n t c ≤ c := fa_first_le _ _
    rcases Nat.lt_or_eq_of_le hle with y | y
    · exact of_decide_eq_true (fa_first_yes (fun j => decide (sD_ P r n j t = sD_ P r n c t)) c y)
    · rw [y]
  constructor
  · intro e
    rw [← hrep a, e, hrep b]
  · intro e
    have key : ∀ a b, sD_ P r n a t = sD_ P r n b t → gr_ P r n t a ≤ gr_ P r n t b := by
      intro a b e
      rcases Nat.lt_or_ge (gr_ P r n t b) (gr_ P r n t a) with y | y
      · have hn := fa_first_no (fun j => decide (sD_ P r n j t = sD_ P r n a t)) a (gr_ P r n t b) y
        rw [decide_eq_true (by rw [hrep b, e])] at hn
        cases hn
      · exact y
    have := key a b e
    have := key b a e.symm
    omega
theorem isG_M {P : ps_T} {r n k t v : Nat} (hx : ∀ i, i < (nw_ P r n k).length → (nw_ P r n k).getD i 0 < (sL_ P r n).length) (h : isG_ P r n t (nw_ P r n k) v (nw_ P r n k).length) : isM_ P r t (sp_ P r n k) v := by
  obtain ⟨h1, h2, h3⟩ := h
  have hc : ∀ i, i < (nw_ P r n k).length → cn_ P r t (sp_ P r n k) i = gc_ P r n t (nw_ P r n k) (gr_ P r n t ((nw_ P r n k).getD i 0)) (nw_ P r n k).length := by
    intro i hi
    unfold cn_ gc_
    rw [sp_len]
    refine fb_ct_cong (fun j hj => ?_)
    rw [sp_at hi, sp_at hj]
    exact decide_eq_decide.2 gr_same.symm
  have hgl : ∀ i, i < (nw_ P r n k).length → gr_ P r n t ((nw_ P r n k).getD i 0) < (sL_ P r n).length := by
    intro i hi
    have h1 := hx i hi
    have h2 : gr_ P r n t ((nw_ P r n k).getD i 0) ≤ (nw_ P r n k).getD i 0 := fa_first_le _ _
    omega
  have hself : ∀ i, i < (nw_ P r n k).length → 0 < gc_ P r n t (nw_ P r n k) (gr_ P r n t ((nw_ P r n k).getD i 0)) (nw_ P r n k).length := by
    intro i hi
    unfold gc_
    have h4 : fb_ct (fun j => decide (gr_ P r n t ((nw_ P r n k).getD j 0) = gr_ P r n t ((nw_ P r n k).getD i 0))) (i + 1) ≤ _ := fb_ct_mono _ (show i + 1 ≤ (nw_ P r n k).length by omega)
    rw [fb_ct_succ, decide_eq_true rfl] at h4
    simp only [if_true] at h4
    omega
  refine ⟨fun i hi => ?_, fun h0 => ?_⟩
  · rw [sp_len] at hi
    rw [hc i hi]
    exact h2 _ (hgl i hi)
  · rw [sp_len] at h0 ⊢
    obtain ⟨g, g1, g2⟩ := h3 h0
    have hv : 0 < v := Nat.lt_of_lt_of_le (hself 0 (by omega)) (h2 _ (hgl 0 (by omega)))
    rw [← g2] at hv
    unfold gc_ at hv
    obtain ⟨i, i1, i2, -⟩ := fb_ct_kth hv
    have i2 := of_decide_eq_true i2
    refine ⟨i, i1, ?_⟩
    rw [hc i i1, i2]
    exact g2
def isQ_ (P : ps_T) (r : Nat) (S : List Nat) (x : Int32) : Prop := ((S.length = 0 ∨ (ps_t P).length = 0) ∧ x = -2) ∨ (S.length ≠ 0 ∧ ∃ (b : Nat) (v : Nat → Nat), b < (ps_t P).length ∧ x = nI b ∧ (∀ u, u < (ps_t P).length → isM_ P r u S (v u)) ∧ (∀ u, u < (ps_t P).length → v b ≤ v u) ∧ ∀ u, u < b → v b < v u)
theorem isQ_one {P : ps_T} {r : Nat} {S : List Nat} {x y : Int32} (h1 : isQ_ P r S x) (h2 : isQ_ P r S y) : x = y := by
  rcases h1 with ⟨a1, a2⟩ | ⟨a0, b, v, a1, a2, a3, a4, a5⟩
  · rcases h2 with ⟨b1, b2⟩ | ⟨b0, c, w, b1, b2, b3, b4, b5⟩
    · exact a2.trans b2.symm
    · rcases a1 with q | q
      · exact absurd q b0
      · omega
  · rcases h2 with ⟨b1, b2⟩ | ⟨b0, c, w, b1, b2, b3, b4, b5⟩
    · rcases b1 with q | q
      · exact absurd q a0
      · omega
    · have e : ∀ u, u < (ps_t P).length → v u = w u := fun u hu => isM_one a0 (a3 u hu) (b3 u hu)
      have eb : b = c := by
        rcases Nat.lt_trichotomy b c with q | q | q
        · have := b5 b q
          have := a4 c b1
          have := e b a1
          have := e c b1
          omega
        · exact q
        · have := a5 c q
          have := b4 b a1
          have := e b a1
          have := e c b1
          omega
      rw [a2, b2, eb]
theorem nw_lt {P : ps_T} {r n : Nat} : ∀ k i, i < (nw_ P r n k).length → (nw_ P r n k).getD i 0 < (sL_ P r n).length := by
  have hm : ∀ k x, x ∈ nw_ P r n k → x < (sL_ P r n).length := by
    intro k
    induction k with
    | zero => intro x hx; exact List.mem_range.1 hx
    | succ k ih =>
      intro x hx
      exact ih x (List.mem_filter.1 hx).1
  exact fun k i hi => hm k _ (gd_mem hi)
theorem isN_Q {P : ps_T} {r n k : Nat} {x : Int32} (h : isN_ P r n k x) : isQ_ P r (sp_ P r n k) x := by
  rcases h with ⟨a1, a2⟩ | ⟨a0, b, v, a1, a2, a3, a4, a5⟩
  · left
    rw [sp_len]
    exact ⟨a1, a2⟩
  · right
    refine ⟨by rw [sp_len]; exact a0, b, v, a1, a2, fun u hu => isG_M (nw_lt k) (a3 u hu), a4, a5⟩
def sgn_ (P : ps_T) (a b c x : Int32) : Prop := match cq_ P a b c with
  | none => x = -1
  | some (r, n, k) => isQ_ P r (sp_ P r n k) x
theorem sgn_one {P : ps_T} {a b c x y : Int32} (h1 : sgn_ P a b c x) (h2 : sgn_ P a b c y) : x = y := by
  unfold sgn_ at h1 h2
  cases e : cq_ P a b c with
  | none => rw [e] at h1 h2; exact h1.trans h2.symm
  | some q =>
    obtain ⟨r, n, k⟩ := q
    rw [e] at h1 h2
    exact isQ_one h1 h2
theorem c_next {l : Launch} {κ : mm_K} {d : Nat} {G : mm_G} {K : Int32 → mm_G → Prop} {P : ps_T} (a b c : Int32) (hP : ps_ok P) (hC : cB_ G P) (hU : cU_ G P) (h : ∀ G' x, cU_ G' P → fr_ fU_ G G' → sgn_ P a b c x → K x G') : mC l κ true (d + 6) 0 0 m_X12_next [.ref 0, .int a, .int b, .int c] G (rI K) := by
  unfold sgn_ at h
  refine e_X12_next a b c (s_canSuspect a b c hP hC (fun e => ⟨fun _ => ?_, fun y => absurd (by decide) y⟩) (fun r n k e hr ea hn eb hk ec hs => ⟨fun y => absurd y (by decide), fun _ => ?_⟩))
  · rw [e] at h; exact h G _ hU fr_.rfl' rfl
  · rw [e] at h
    subst ea eb ec
    exact s_bestTrial hP hC hU hr hn hk hs (fun G2 x u2 f2 hN => h G2 x u2 f2 (isN_Q hN))
