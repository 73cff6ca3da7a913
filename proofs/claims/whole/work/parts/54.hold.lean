/-! hold, restore: the component -/
def fy_ (x : Nat) (c _k : Nat) : Bool := decide (x ≤ c) && decide (c < x + 12)
theorem fy_F {x c k : Nat} (h : c < x ∨ x + 12 ≤ c) : fy_ x c k = false := by
  unfold fy_
  rcases h with h | h
  · rw [decide_eq_false (by omega)]; rfl
  · rw [decide_eq_false (p := c < x + 12) (by omega), Bool.and_false]
theorem fy_T {x c k : Nat} (h : x ≤ c ∧ c < x + 12) : fy_ x c k = true := by
  unfold fy_
  rw [decide_eq_true h.1, decide_eq_true h.2]
  rfl
def rs_L : List Nat := [50, 189, 201, 213]
theorem rs_row {x j : Nat} (h : x ∈ rs_L) (hj : j < 4) : RowAt (x + 4 + 2 * j) := mm_rowP (mm_rows _ (by
  simp only [rs_L, List.mem_cons, List.not_mem_nil, or_false] at h
  simp only [List.mem_cons, List.not_mem_nil, or_false]
  omega))
theorem rs_At {x : Nat} (h : x ∈ rs_L) : RowsAt x := by
  simp only [rs_L, List.mem_cons, List.not_mem_nil, or_false] at h
  rcases h with rfl | rfl | rfl | rfl
  · exact mm_rs50
  · exact mm_rsP (mm_rsS 0 (by decide)).1
  · exact mm_rsP (mm_rsS 1 (by decide)).1
  · exact mm_rsP (mm_rsS 2 (by decide)).1
theorem s_rscopy {l : Launch} {κ : mm_K} {d : Nat} {G : mm_G} {K : mm_G → Prop} {x y : Nat} {p : px_T} {s : sx_T} (hx : x ∈ rs_L) (hy : y ∈ rs_L) (hxy : x + 12 ≤ y ∨ y + 12 ≤ x) (hp : p.length ≤ 4) (hs : s.2.length ≤ 20) (h1 : cR_ G y p s) (hnx : ∀ j, j < 4 → mg_i G (x + 4 + 2 * j) 2 = nI j) (hny : ∀ j, j < 4 → mg_i G (y + 4 + 2 * j) 2 = nI j)
    (h : ∀ G', cR_ G' x p s → (∀ j, j < 4 → mg_i G' (x + 4 + 2 * j) 2 = nI j) → fr_ (fy_ x) G G' → K G') : mC l κ true (d + 1) 0 0 m_X7_copy [.ref x, .ref y] G (rV K) := by
  have hx2 : x + 12 ≤ 225 := by
    simp only [rs_L, List.mem_cons, List.not_mem_nil, or_false] at hx
    omega
  obtain ⟨a1, a2, a3, a4, a5⟩ := h1
  refine e_X7_copy x (rs_At hx) y (rs_At hy) ?_
  rw [a1]
  suffices H : ∀ n i G1, i + n = p.length → fr_ (fy_ x) G G1 → mg_i G1 x 1 = nI p.length → (∀ j, j < i → ro_ G1 (x + 4 + 2 * j) (px_at p j)) → (∀ j, j < 4 → mg_i G1 (x + 4 + 2 * j) 2 = nI j) → mV l κ true (d + 1) 0 0 m_X7_copy 10 [some (.ref x), some (.ref y), some (.int (nI i))] [] G1 (rV K) from
    H _ 0 _ (Nat.zero_add _) (fr_.rfl'.si (fy_T (by omega))) (by simp [mg_i_i]) (fun j hj => absurd hj (Nat.not_lt_zero j)) (fun j hj => by rw [mg_i_i, if_neg (by omega)]; exact hnx j hj)
  intro n
  induction n with
  | zero =>
    intro i G1 hi hf q1 q2 q3
    refine p_X7_copy_10 x (rs_At hx) y (rs_At hy) _ ⟨fun _ => ?_, fun z => absurd (by rw [q1]; exact nI_le (by omega) (by omega)) z⟩
    have e4 : mg_i G1 y 4 = nI s.2.length := by rw [hf.i _ _ (fy_F (by omega))]; exact a3
    rw [mg_i_i, if_neg (by omega), e4]
    suffices H2 : ∀ n2 j G2, j + n2 = s.2.length → fr_ (fun c k => (decide (c = x) && decide (4 ≤ k)) || decide (c = x + 2) || decide (c = x + 3)) G1 G2 → mg_i G2 x 4 = nI s.2.length → mg_i G2 x 5 = mg_i G1 y 5 → (∀ k, k < j → mg_i G2 (x + 2) k = nI (sx_at s k).1 ∧ mg_i G2 (x + 3) k = nI (sx_at s k).2) → mV l κ true (d + 1) 0 0 m_X7_copy 57 [some (.ref x), some (.ref y), some (.int (nI j))] [] G2 (rV K) from
      H2 _ 0 _ (Nat.zero_add _) ((fr_.rfl'.si (by simp)).si (by simp)) (by simp [mg_i_i]) (by simp [mg_i_i]) (fun k hk => absurd hk (Nat.not_lt_zero k))
    intro n2
    induction n2 with
    | zero =>
      intro j G2 hj hf2 b1 b2 b3
      refine p_X7_copy_57 x (rs_At hx) y (rs_At hy) _ ⟨fun _ => ?_, fun z => absurd (by rw [b1]; exact nI_le (by omega) (by omega)) z⟩
      have hf3 : fr_ (fy_ x) G G2 := hf.trans (hf2.mono (fun c k q => by
        have : ¬ (x ≤ c ∧ c < x + 12) := fun y => by rw [fy_T y] at q; cases q
        simp
        omega))
      refine h G2 ⟨?_, fun w hw => ?_, b1, fun q => ?_, fun k hk => b3 k (by omega)⟩ (fun w hw => ?_) hf3
      · rw [hf2.i _ _ (by simp)]; exact q1
      · exact (q2 w (by omega)).fr hf2 (by simp; omega) (fun k => by simp; omega) (fun t k q => by simp; omega)
      · rw [b2, hf.i _ _ (fy_F (by omega))]; exact a4 q
      · rw [hf2.i _ _ (by simp; omega)]; exact q3 w hw
    | succ n2 ih2 =>
      intro j G2 hj hf2 b1 b2 b3
      have e2 : mg_i G2 (y + 2) j = nI (sx_at s j).1 := by rw [hf2.i _ _ (by simp; omega), hf.i _ _ (fy_F (by omega))]; exact (a5 j (by omega)).1
      have e3 : mg_i G2 (y + 3) j = nI (sx_at s j).2 := by rw [hf2.i _ _ (by simp; omega), hf.i _ _ (fy_F (by omega))]; exact (a5 j (by omega)).2
      refine p_X7_copy_57 x (rs_At hx) y (rs_At hy) _ ⟨fun z => absurd z (by rw [b1]; exact nI_ge (by omega) (by omega)), fun _ => ⟨(ki_vp (by omega)).2 (by omega), (ki_vp (by omega)).2 (by omega), (ki_vp (by omega)).2 (by omega), (ki_vp (by omega)).2 (by omega), ?_⟩⟩
      rw [nI_add, nI_clamp (by omega), mg_i_i, if_neg (by omega), e2, e3]
      refine ih2 (j + 1) _ (by omega) ((hf2.si (by simp)).si (by simp)) (by simp [mg_i_i]; exact b1) (by simp [mg_i_i]; exact b2) (fun k hk => ?_)
      rw [mg_i_i, mg_i_i, mg_i_i, mg_i_i]
      by_cases c : k = j
      · subst c
        rw [if_neg (by omega), if_pos ⟨rfl, rfl⟩, if_pos ⟨rfl, rfl⟩]
        exact ⟨rfl, rfl⟩
      · rw [if_neg (by omega), if_neg (by omega), if_neg (by omega), if_neg (by omega)]
        exact b3 k (by omega)
  | succ n ih =>
    intro i G1 hi hf q1 q2 q3
    refine p_X7_copy_10 x (rs_At hx) y (rs_At hy) _ ⟨fun z => absurd z (by rw [q1]; exact nI_ge (by omega) (by omega)), fun _ => ⟨(ki_vp (by omega)).2 (by omega), (ki_vp (by omega)).2 (by omega), ?_⟩⟩
    rw [nI_clamp (by omega), nI_add]
    have hro : ro_ G1 (y + 4 + 2 * i) (px_at p i) := (a2 i (by omega)).fr hf (fy_F (by omega)) (fun k => fy_F (by omega)) (fun t k q => fy_F (by omega))
    refine s_rcopy (rs_row hx (by omega)) (rs_row hy (by omega)) (by omega) (by omega) hro (fun G2 o2 e2 f2 => ?_)
    refine ih (i + 1) G2 (by omega) (hf.trans (f2.mono (fun c k q => fx_F (by
      have : ¬ (x ≤ c ∧ c < x + 12) := fun y => by rw [fy_T y] at q; cases q
      omega)))) (by rw [f2.i _ _ (fx_F (by omega))]; exact q1) (fun j hj => ?_) (fun j hj => ?_)
    · rcases Nat.lt_succ_iff_lt_or_eq.mp hj with c | c
      · exact (q2 j c).fr f2 (fx_F (by omega)) (fun k => fx_F (by omega)) (fun t k q => fx_F (by omega))
      · subst c; exact o2
    · by_cases c : j = i
      · subst c
        rw [e2, hf.i _ _ (fy_F (by omega))]; exact hny j hj
      · rw [f2.i _ _ (fx_F (by omega))]; exact q3 j hj
