/-! the reference's run -/
def rd_m (G : mm_G) (p : Nat) : ln_T := ln_mk (mg_i G 237 p) (mg_i G 245 p) (mg_l G 246 p) (mg_i G 238 p) (mg_i G 239 p) (mg_i G 240 p) (mg_i G 241 p) (mg_i G 242 p) (mg_i G 243 p - nI 9) (mg_l G 247 p) (mg_i G 244 p)
/-- rows, the row that runs, the trial -/
def me_ (G : mm_G) (e : en_T) (a r t : Nat) (pl : Nat → Nat) : Prop := a < 2 ∧ mg_i G 226 18 = nI a ∧ mg_i G 226 45 = nI (en_ls e).length ∧ mg_i G 226 46 = nI r ∧ mg_i G 226 47 = nI (en_lo e) ∧ (∀ i, i < (en_ls e).length → ∃ p, p < 320 ∧ mg_i G 255 i = nI p ∧ rd_m G p = ln_at (en_ls e) i) ∧ (∀ i, i < (en_ls e).length → mg_i G 256 i = nI (pl i)) ∧ (∀ j, j < (en_pg e).length → mg_i G 236 (4 * a + j) = nI ((en_pg e).getD j []).length ∧ ∀ i, i < ((en_pg e).getD j []).length → rd_m G (64 * a + 16 * j + i) = ln_at ((en_pg e).getD j []) i) ∧ t < 8 ∧ mg_i G 250 (8 * a + t) = nI (en_in e).length ∧ (∀ j, j < (en_in e).length → mg_i G 251 (6 * (8 * a + t) + j) = (en_in e).getD j (nI 0))
def mo_code (r : Nat) (pl : Nat → Nat) (a : Nat × Nat) : Nat := if a.1 = 0 then 20 * r + pl a.2 else 20 * (a.1 - 1) + a.2
def mo_ (G : mm_G) (r : Nat) (pl : Nat → Nat) (s : rs_T) : Prop := mg_i G 226 51 = nI (rs_o s).length ∧ mg_i G 226 53 = nI (rs_t s).length ∧ (∀ j, j < (rs_o s).length → mg_i G 258 j = (rs_o s).getD j (nI 0)) ∧ (∀ j, j < 4 → mg_i G 257 j = rs_c s j) ∧ (∀ j, j < (rs_t s).length → mg_i G 259 j = nI (mo_code r pl ((rs_t s).getD j (0, 0))))
def mt_ (G : mm_G) (r t : Nat) (pl : Nat → Nat) (s : rs_T) : Prop := mo_ G r pl s ∧ mg_i G 226 49 = nI (rs_k s) ∧ mg_i G 226 50 = nI t ∧ mg_i G 226 58 = nI (rs_d s) ∧ (∀ j, j ≤ rs_d s → mg_i G 260 j = if j = 0 then -1 else nI (rs_s s j).1) ∧ (∀ j, j ≤ rs_d s → mg_i G 261 j = nI (rs_s s j).2)
def fm_ (c k : Nat) : Bool := (decide (c = 226) && (decide (k = 49) || decide (k = 50) || decide (k = 51) || decide (k = 53) || decide (k = 55) || decide (k = 58))) || (decide (257 ≤ c) && decide (c ≤ 261))
theorem fm_F {c k : Nat} (h : c < 226 ∨ (226 < c ∧ c < 257) ∨ 261 < c) : fm_ c k = false := by
  unfold fm_
  rw [decide_eq_false (p := c = 226) (by omega)]
  rcases h with h | h | h
  · rw [decide_eq_false (p := 257 ≤ c) (by omega)]; rfl
  · rw [decide_eq_false (p := 257 ≤ c) (by omega)]; rfl
  · rw [decide_eq_false (p := c ≤ 261) (by omega), Bool.and_false]; rfl
theorem rd_m.fr {S : Nat → Nat → Bool} {G G1 : mm_G} {p : Nat} (h : fr_ S G G1) (hs : ∀ c k, 237 ≤ c → c ≤ 247 → S c k = false) : rd_m G1 p = rd_m G p := by
  unfold rd_m
  rw [h.i 237 p (hs _ _ (by omega) (by omega)), h.i 238 p (hs _ _ (by omega) (by omega)), h.i 239 p (hs _ _ (by omega) (by omega)), h.i 240 p (hs _ _ (by omega) (by omega)), h.i 241 p (hs _ _ (by omega) (by omega)), h.i 242 p (hs _ _ (by omega) (by omega)), h.i 243 p (hs _ _ (by omega) (by omega)), h.i 244 p (hs _ _ (by omega) (by omega)), h.i 245 p (hs _ _ (by omega) (by omega)), h.l 246 p (hs _ _ (by omega) (by omega)), h.l 247 p (hs _ _ (by omega) (by omega))]
theorem me_.fm {G G1 : mm_G} {e : en_T} {a r t : Nat} {pl : Nat → Nat} (h : me_ G e a r t pl) (hf : fr_ fm_ G G1) : me_ G1 e a r t pl := by
  obtain ⟨h1, h2, h3, h4, h5, h6, h7, h8, h9, h10, h11⟩ := h
  have hm : ∀ p, rd_m G1 p = rd_m G p := fun p => rd_m.fr hf (fun c k q1 q2 => fm_F (by omega))
  refine ⟨h1, ?_, ?_, ?_, ?_, fun i hi => ?_, fun i hi => ?_, fun j hj => ⟨?_, fun i hi => ?_⟩, h9, ?_, fun j hj => ?_⟩
  · rw [hf.i _ _ rfl]; exact h2
  · rw [hf.i _ _ rfl]; exact h3
  · rw [hf.i _ _ rfl]; exact h4
  · rw [hf.i _ _ rfl]; exact h5
  · obtain ⟨p, q1, q2, q3⟩ := h6 i hi
    exact ⟨p, q1, by rw [hf.i _ _ (fm_F (by omega))]; exact q2, by rw [hm]; exact q3⟩
  · rw [hf.i _ _ (fm_F (by omega))]; exact h7 i hi
  · rw [hf.i _ _ (fm_F (by omega))]; exact (h8 j hj).1
  · rw [hm]; exact (h8 j hj).2 i hi
  · rw [hf.i _ _ (fm_F (by omega))]; exact h10
  · rw [hf.i _ _ (fm_F (by omega))]; exact h11 j hj
theorem t_linesOf {l : Launch} {κ : mm_K} {d : Nat} {G : mm_G} {K : Int32 → mm_G → Prop} {a j : Nat} (ha : mg_i G 226 18 = nI a) (ha2 : a < 2) (hj : j < 4) (h : K (mg_i G 236 (4 * a + j)) G) : mC l κ true d 0 0 m_X13_linesOf [.ref 226, .int (nI j)] G (rI K) := by
  refine e_X13_linesOf _ ?_
  rw [ha, ki_mul, nI_add, nI_clamp (by omega)]
  exact ⟨(ki_vp (by omega)).2 (by omega), h⟩
theorem t_lineAt {l : Launch} {κ : mm_K} {d : Nat} {G : mm_G} {K : Int32 → mm_G → Prop} {a j i : Nat} (ha : mg_i G 226 18 = nI a) (h : K (nI (64 * a + 16 * j + i)) G) : mC l κ true d 0 0 m_X13_lineAt [.ref 226, .int (nI j), .int (nI i)] G (rI K) := by
  refine e_X13_lineAt _ _ ?_
  rw [ha, ki_mul, ki_mul, nI_add, nI_add]
  exact h
/-- what stands on top -/
theorem mt_top {G : mm_G} {e : en_T} {r t : Nat} {pl : Nat → Nat} {s : rs_T} (he : en_ok e r) (hS : mt_ G r t pl s) (hk : rs_ok e r s) : (mg_i G 260 (rs_d s) = -1 ↔ rs_d s = 0) ∧ (rs_d s ≠ 0 → mg_i G 260 (rs_d s) = nI (rs_s s (rs_d s)).1 ∧ (rs_s s (rs_d s)).1 < (en_pg e).length) ∧ (rs_s s (rs_d s)).1 + rs_d s ≤ r := by
  have h5 := hS.2.2.2.2.1 (rs_d s) (Nat.le_refl _)
  have hp := he.2.2.2.2.2.1
  have hp4 := he.2.2.1
  by_cases c0 : rs_d s = 0
  · rw [if_pos c0] at h5
    refine ⟨⟨fun _ => c0, fun _ => h5⟩, fun z => absurd c0 z, ?_⟩
    rw [c0, hk.1]; omega
  · rw [if_neg c0] at h5
    have hb := hk.2.1 (rs_d s - 1) (by omega)
    rw [Nat.sub_add_cancel (by omega)] at hb
    refine ⟨⟨fun z => ?_, fun z => absurd z c0⟩, fun _ => ⟨h5, by omega⟩, by omega⟩
    rw [h5, ki_m1 (by omega)] at z
    exact z.elim
theorem t_topLines {l : Launch} {κ : mm_K} {d : Nat} {G : mm_G} {K : Int32 → mm_G → Prop} {e : en_T} {a r t : Nat} {pl : Nat → Nat} {s : rs_T} (he : en_ok e r) (hE : me_ G e a r t pl) (hS : mt_ G r t pl s) (hk : rs_ok e r s) (h : K (nI (ru_ls e (rs_s s) (rs_d s)).length) G) : mC l κ true (d + 1) 0 0 m_X13_topLines [.ref 226] G (rI K) := by
  have hr : r < 4 := by have := he.2.2.1; have := he.2.2.2.2.2.1; omega
  have hd := hk.dle
  have h4 := hS.2.2.2.1
  obtain ⟨w1, w2, w3⟩ := mt_top he hS hk
  refine e_X13_topLines ?_
  rw [h4, nI_clamp (by omega)]
  refine ⟨(ki_vp (by omega)).2 (by omega), fun z => ⟨(ki_vp (by omega)).2 (by omega), ?_⟩, fun z => ?_⟩
  · have c0 : rs_d s ≠ 0 := fun c0 => z (w1.2 c0)
    obtain ⟨w4, w5⟩ := w2 c0
    rw [w4]
    rw [ru_ls_1 c0] at h
    refine t_linesOf hE.2.1 hE.1 (by omega) ?_
    rw [(hE.2.2.2.2.2.2.2.1 _ w5).1]
    exact h
  · rw [w1.1 z, ru_ls_0] at h
    rw [hE.2.2.1]
    exact h
theorem t_topLine {l : Launch} {κ : mm_K} {d : Nat} {G : mm_G} {K : Int32 → mm_G → Prop} {e : en_T} {a r t i : Nat} {pl : Nat → Nat} {s : rs_T} (he : en_ok e r) (hE : me_ G e a r t pl) (hS : mt_ G r t pl s) (hk : rs_ok e r s) (hi : i < (ru_ls e (rs_s s) (rs_d s)).length) (h : ∀ p, p < 320 → rd_m G p = ln_at (ru_ls e (rs_s s) (rs_d s)) i → K (nI p) G) : mC l κ true (d + 1) 0 0 m_X13_topLine [.ref 226, .int (nI i)] G (rI K) := by
  have hr : r < 4 := by have := he.2.2.1; have := he.2.2.2.2.2.1; omega
  have hd := hk.dle
  have h4 := hS.2.2.2.1
  have hn := ru_ls_le he (rs_s s) (rs_d s)
  obtain ⟨w1, w2, w3⟩ := mt_top he hS hk
  refine e_X13_topLine _ ?_
  rw [h4, nI_clamp (by omega)]
  refine ⟨(ki_vp (by omega)).2 (by omega), fun z => ⟨(ki_vp (by omega)).2 (by omega), ?_⟩, fun z => ⟨(ki_vp (by omega)).2 (by omega), ?_⟩⟩
  · have c0 : rs_d s ≠ 0 := fun c0 => z (w1.2 c0)
    obtain ⟨w4, w5⟩ := w2 c0
    rw [w4]
    have ha := hE.1
    refine t_lineAt hE.2.1 (h _ (by omega) ?_)
    rw [ru_ls_1 c0] at hi ⊢
    exact (hE.2.2.2.2.2.2.2.1 _ w5).2 i hi
  · have c0 := w1.1 z
    rw [c0, ru_ls_0] at hi h
    have hle := he.2.1
    obtain ⟨p, q1, q2, q3⟩ := hE.2.2.2.2.2.1 i hi
    rw [nI_clamp (by omega), q2]
    exact h p q1 q3
theorem t_isThere {l : Launch} {κ : mm_K} {d : Nat} {G : mm_G} {K : Int32 → mm_G → Prop} {e : en_T} {a r t i : Nat} {pl : Nat → Nat} {s : rs_T} (he : en_ok e r) (hl : mg_i G 226 47 = nI (en_lo e)) (hd4 : mg_i G 226 58 = nI (rs_d s)) (hd : rs_d s < 4) (w1 : mg_i G 260 (rs_d s) = -1 ↔ rs_d s = 0) (hi : i < 16) (h : K (if rs_d s = 0 ∧ (en_lo e).testBit i = true then nI 0 else nI 1) G) : mC l κ true d 0 0 m_X13_isThere [.ref 226, .int (nI i)] G (rI K) := by
  have hlo := he.2.2.2.2.2.2.1
  refine e_X13_isThere _ ?_
  rw [hd4, nI_clamp (by omega), hl, ki_0, ki_bits hlo hi]
  refine ⟨(ki_vp (by omega)).2 (by omega), fun z => ?_, fun z => ⟨fun z2 => ?_, fun z2 => ?_⟩⟩
  · rw [if_neg (fun y => z (w1.2 y.1))] at h; exact h
  · rw [if_pos ⟨w1.1 z, by simpa using z2⟩] at h; exact h
  · rw [if_neg (fun y => by rw [z2] at y; exact absurd y.2 (by decide))] at h; exact h
