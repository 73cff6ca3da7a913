/-! groups: the reference -/
theorem t_didSame {l : Launch} {κ : mm_K} {d : Nat} {G : mm_G} {K : Int32 → mm_G → Prop} {a b : Nat} {o q : Nat × List Int32} (ha : a < 140) (hb : b < 140) (ho : mD_ G 274 275 276 a o) (hq : mD_ G 274 275 276 b q) (ho1 : o.1 < 100) (ho8 : o.2.length ≤ 8) (hq1 : q.1 < 100) (hq8 : q.2.length ≤ 8) (h : K (if o = q then nI 1 else nI 0) G) : mC l κ true d 0 0 m_X13_didSame [.ref 226, .int (nI a), .int (nI b)] G (rI K) := by
  obtain ⟨o1, o2, o3⟩ := ho
  obtain ⟨q1, q2, q3⟩ := hq
  refine e_X13_didSame _ _ ?_
  rw [nI_clamp (by omega), nI_clamp (by omega), o1, o2, q1, q2, nI_eq (by omega) (by omega), nI_eq (by omega) (by omega)]
  refine ⟨(ki_vp (by omega)).2 (by omega), (ki_vp (by omega)).2 (by omega), fun z => ?_, fun z => ⟨(ki_vp (by omega)).2 (by omega), (ki_vp (by omega)).2 (by omega), fun z2 => ?_, fun z2 => ?_⟩⟩
  · rw [if_neg (fun e => z (by rw [e]))] at h; exact h
  · suffices H : ∀ n i, i + n = o.2.length → (∀ j, j < i → o.2.getD j (nI 0) = q.2.getD j (nI 0)) → mV l κ true d 0 0 m_X13_didSame 34 [some (.ref 226), some (.int (nI a)), some (.int (nI b)), some (.int (nI i))] [] G (rI K) from H _ 0 (Nat.zero_add _) (fun j hj => absurd hj (Nat.not_lt_zero j))
    intro n
    induction n with
    | zero =>
      intro i hi hj
      refine p_X13_didSame_34 _ _ _ ?_
      rw [nI_clamp (by omega), o2]
      refine ⟨(ki_vp (by omega)).2 (by omega), fun _ => ?_, fun y => absurd (nI_le (by omega) (by omega)) y⟩
      rw [if_pos (Prod.ext z (ls_ext z2 (fun j y => hj j (by omega))))] at h
      exact h
    | succ n ih =>
      intro i hi hj
      refine p_X13_didSame_34 _ _ _ ?_
      rw [nI_clamp (by omega), o2, ki_mul, ki_mul, nI_add, nI_add, nI_add, nI_clamp (by omega), nI_clamp (by omega), o3 i (by omega), q3 i (by omega)]
      refine ⟨(ki_vp (by omega)).2 (by omega), fun y => absurd y (nI_ge (by omega) (by omega)), fun _ => ⟨(ki_vp (by omega)).2 (by omega), (ki_vp (by omega)).2 (by omega), fun y => ih (i + 1) (by omega) (fun j hj2 => ?_), fun y => ?_⟩⟩
      · rcases Nat.lt_succ_iff_lt_or_eq.mp hj2 with c | c
        · exact hj j c
        · subst c; exact y
      · rw [if_neg (fun e => y (by rw [e]))] at h; exact h
  · rw [if_neg (fun e => z2 (by rw [e]))] at h; exact h
def gq_ (P : ps_T) (r t : Nat) (S : List Nat) (c : Nat) : Nat := fa_first (fun j => decide (oD_ P r t (S.getD j 0) = oD_ P r t (S.getD c 0))) c
def mGr_ (G : mm_G) (P : ps_T) (r : Nat) (S : List Nat) (t z : Nat) : Prop := ∀ c, c < z → mg_i G 273 (140 * t + c) = nI (gq_ P r t S c)
def fgr_ (c k : Nat) : Bool := fg_ c k || (decide (273 ≤ c) && decide (c ≤ 276))
theorem fgr_T {c k : Nat} (h : 273 ≤ c ∧ c ≤ 276) : fgr_ c k = true := by
  unfold fgr_
  rw [decide_eq_true h.1, decide_eq_true h.2, Bool.and_true, Bool.or_true]
theorem fgr_on {c k : Nat} (h : rgQ c k = true) : fgr_ c k = false := by
  unfold fgr_
  have := rgQ_iff.1 h
  rw [fg_on h]
  rcases Nat.lt_or_ge c 273 with z | z
  · rw [decide_eq_false (p := 273 ≤ c) (by omega)]; rfl
  · rw [decide_eq_false (p := c ≤ 276) (by omega), Bool.and_false]; rfl
theorem fr_.ggr {G G1 : mm_G} (h : fr_ fg_ G G1) : fr_ fgr_ G G1 := h.mono (fun c k q => by unfold fgr_ at q; exact (Bool.or_eq_false_iff.1 q).1)
theorem mB_.fgr {G G1 : mm_G} {P : ps_T} {m : Nat} (h : mB_ G P m) (hf : fr_ fgr_ G G1) : mB_ G1 P m := h.on (hf.on (fun c k q => fgr_on q))
theorem oD_ok {P : ps_T} {r t s : Nat} (hP : ps_ok P) (hr : r < (ps_p P).length) (hs : s < 2 ^ (px_at (ps_p P) r).length) : (oD_ P r t s).1 < 100 ∧ (oD_ P r t s).2.length ≤ 8 := by
  have h16 := px_len_lt (hP.1.2.2 r)
  obtain ⟨h1, h2, h3, h4⟩ := rr_ok (k := t) (lo := s) hP hr (by omega)
  exact ⟨Nat.lt_of_le_of_lt h3 (by decide), h1⟩
