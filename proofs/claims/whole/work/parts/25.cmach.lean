/-! the component's rows and its machine -/
def rd_c (G : mm_G) (t : Nat) : ln_T := ln_mk (mg_i G t 1) (mg_i G t 2) (mg_l G t 0) (mg_i G t 3) (if mg_i G t 1 = nI 7 then mg_i G t 6 else mg_i G t 4) (if mg_i G t 1 = nI 7 then mg_i G t 7 else mg_i G t 5) (mg_i G t 4) (mg_i G t 5) (mg_i G t 8) (mg_l G t 9) (mg_i G t 10)
def ro_ (G : mm_G) (c : Nat) (ls : List ln_T) : Prop := mg_i G c 1 = nI ls.length ∧ ls.length ≤ 16 ∧ ∀ i, i < ls.length → ∃ t, mg_r G (c + 1) i = some t ∧ 285 ≤ t ∧ t < mg_n G ∧ rd_c G t = ln_at ls i
theorem rd_c.fr {S : Nat → Nat → Bool} {G G1 : mm_G} {t : Nat} (h : fr_ S G G1) (hs : ∀ k, S t k = false) : rd_c G1 t = rd_c G t := by
  unfold rd_c
  simp only [h.i t _ (hs _), h.l t _ (hs _)]
theorem ro_.fr {S : Nat → Nat → Bool} {G G1 : mm_G} {c : Nat} {ls : List ln_T} (h : ro_ G c ls) (hf : fr_ S G G1) (h1 : S c 1 = false) (h2 : ∀ k, S (c + 1) k = false) (h3 : ∀ t k, 285 ≤ t → S t k = false) : ro_ G1 c ls := by
  obtain ⟨a1, a2, a3⟩ := h
  refine ⟨by rw [hf.i c 1 h1]; exact a1, a2, fun i hi => ?_⟩
  obtain ⟨t, b1, b2, b3, b4⟩ := a3 i hi
  exact ⟨t, by rw [hf.r _ _ (h2 i)]; exact b1, b2, by rw [hf.1]; exact b3, by rw [rd_c.fr hf (fun k => h3 t k b2)]; exact b4⟩
theorem ln_At {t : Nat} (h : 285 ≤ t) : LineAt t := mm_sh_hi h
def rc_L : List Nat := [54, 56, 58, 60, 102, 173]
theorem rc_row {c : Nat} (h : c ∈ rc_L) : RowAt c := mm_rowP (mm_rows c (by
  simp only [rc_L, List.mem_cons, List.not_mem_nil, or_false] at h
  simp only [List.mem_cons, List.not_mem_nil, or_false]
  omega))
theorem rc_54 {j : Nat} (h : j < 4) : 54 + 2 * j ∈ rc_L := by
  simp only [rc_L, List.mem_cons, List.not_mem_nil, or_false]
  omega
theorem rc_ne {c : Nat} (h : c ∈ rc_L) : (c + 1 < 91 ∨ 97 < c) ∧ c + 1 < 226 := by
  simp only [rc_L, List.mem_cons, List.not_mem_nil, or_false] at h
  omega
/-- the first line of that name -/
theorem s_where {l : Launch} {κ : mm_K} {d : Nat} {G : mm_G} {K : Int32 → mm_G → Prop} {c lo : Nat} {ls : List ln_T} (lb : Int64) (hc : RowAt c) (hr : ro_ G c ls) (hl : lo < 65536) (h : K (if ru_find lb lo ls < ls.length then nI (ru_find lb lo ls) else -1) G) : mC l κ true d 0 0 m_X6_where [.ref c, .long lb, .int (nI lo)] G (rI K) := by
  refine e_X6_where c hc lb (nI lo) ?_
  obtain ⟨h1, h2, h3⟩ := hr
  suffices H : ∀ n i, i + n = ls.length → (∀ k, k < i → (decide (ln_nm (ln_at ls k) = lb) && !lo.testBit k) = false) → mV l κ true d 0 0 m_X6_where 3 [some (.ref c), some (.long lb), none, some (.int (nI lo)), some (.int (nI i))] [] G (rI K) from H ls.length 0 (Nat.zero_add _) (fun k hk => absurd hk (Nat.not_lt_zero k))
  intro n
  induction n with
  | zero =>
    intro i hi hp
    refine p_X6_where_3 c hc lb (nI lo) (nI i) ⟨fun _ => ?_, fun q => absurd ?_ q⟩
    · have e : ru_find lb lo ls = ls.length := ff_no (fun k hk => hp k (by omega))
      rw [e, if_neg (Nat.lt_irrefl _)] at h
      exact h
    · rw [h1]; exact (nI_leI (by omega) (by omega)).2 (by omega)
  | succ n ih =>
    intro i hi hp
    obtain ⟨t, b1, b2, b3, b4⟩ := h3 i (by omega)
    have en : mg_l G t 0 = ln_nm (ln_at ls i) := by rw [← b4]; rfl
    refine p_X6_where_3 c hc lb (nI lo) (nI i) ⟨fun q => absurd q ?_, fun _ => ⟨(ki_vp (by omega)).2 (by omega), t, ?_, ln_At b2, ?_, ?_⟩⟩
    · rw [h1]; exact nI_ge (by omega) (by omega)
    · rw [nI_clamp (by omega)]; exact b1
    · intro q
      rw [ki_0, ki_cmp, en] at q
      show mV l κ true d 0 0 m_X6_where 3 [some (.ref c), some (.long lb), none, some (.int (nI lo)), some (.int (nI i + nI 1))] [] G (rI K)
      rw [nI_add]
      refine ih (i + 1) (by omega) (fun k hk => ?_)
      rcases Nat.lt_succ_iff_lt_or_eq.mp hk with hk | hk
      · exact hp k hk
      · subst hk; simp [q]
    · intro q
      rw [ki_0, ki_cmp, en] at q
      rw [ki_0, ki_bit hl (by omega)]
      refine ⟨fun q2 => ?_, fun q2 => ?_⟩
      · show mV l κ true d 0 0 m_X6_where 3 [some (.ref c), some (.long lb), none, some (.int (nI lo)), some (.int (nI i + nI 1))] [] G (rI K)
        rw [nI_add]
        refine ih (i + 1) (by omega) (fun k hk => ?_)
        rcases Nat.lt_succ_iff_lt_or_eq.mp hk with hk | hk
        · exact hp k hk
        · subst hk; simp [q2]
      · have e : ru_find lb lo ls = i := ff_at hp (by simp [q, q2]) (by omega)
        rw [e, if_pos (by omega)] at h
        exact h
