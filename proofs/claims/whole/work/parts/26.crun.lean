/-! the component's run -/
theorem ld_ge {α : Type} {l : List α} {i : Nat} (d : α) (h : l.length ≤ i) : l.getD i d = d := by
  rw [List.getD_eq_getElem?_getD, List.getElem?_eq_none h]
  rfl
theorem ld_l {α : Type} {l : List α} {i : Nat} (d v : α) (h : i < l.length) : (l ++ [v]).getD i d = l.getD i d := by
  rw [List.getD_eq_getElem?_getD, List.getD_eq_getElem?_getD, List.getElem?_append_left h]
theorem ld_r {α : Type} (l : List α) (d v : α) : (l ++ [v]).getD l.length d = v := by
  rw [List.getD_eq_getElem?_getD, List.getElem?_append_right (Nat.le_refl _), Nat.sub_self]
  rfl
theorem ld_len {α : Type} (l : List α) (v : α) : (l ++ [v]).length = l.length + 1 := by rw [List.length_append]; rfl
def ru_code (r : Nat) (a : Nat × Nat) : Nat := if a.1 = 0 then 20 * r + a.2 else 20 * (a.1 - 1) + a.2
def ru_dn (t : List (Nat × Nat)) : Nat := t.foldl (fun m a => if a.1 = 0 then m ||| 2 ^ a.2 else m) 0
theorem ru_dn_add (t : List (Nat × Nat)) (a : Nat × Nat) : ru_dn (t ++ [a]) = if a.1 = 0 then ru_dn t ||| 2 ^ a.2 else ru_dn t := by
  unfold ru_dn
  rw [List.foldl_append]
  rfl
/-- rows and trial -/
def ce_ (G : mm_G) (e : en_T) (c r t : Nat) : Prop := c ∈ rc_L ∧ ro_ G c (en_ls e) ∧ mg_i G c 2 = nI r ∧ mg_i G 50 1 = nI (en_pg e).length ∧ (∀ j, j < (en_pg e).length → ro_ G (54 + 2 * j) ((en_pg e).getD j []) ∧ mg_i G (54 + 2 * j) 2 = nI j) ∧ t < 8 ∧ mg_i G 72 t = nI (en_in e).length ∧ (∀ j, j < (en_in e).length → mg_i G (64 + t) j = (en_in e).getD j (nI 0))
def cd_ (G : mm_G) (x : Nat) (a : List Int32) : Prop := mg_i G x 1 = nI a.length ∧ a.length ≤ 8 ∧ ∀ j, j < a.length → mg_i G (x + 1) j = a.getD j (nI 0)
def ca_ (G : mm_G) (e : en_T) (q : Option Nat) : Prop := match en_am e with
  | none => q = none
  | some a => ∃ x, q = some x ∧ DeedAt x ∧ (x + 1 < 91 ∨ 97 < x) ∧ x + 1 < 226 ∧ cd_ G x a
def cs_ (G : mm_G) (e : en_T) (c r t : Nat) (q : Option Nat) (s : rs_T) : Prop :=
  mg_i G 91 3 = nI (rs_t s).length ∧ mg_i G 91 4 = nI (ru_dn (rs_t s)) ∧ mg_i G 91 5 + nI 1 = nI (rs_q s) ∧ mg_i G 91 10 = nI (rs_d s) ∧ mg_i G 91 11 = nI (en_lo e) ∧ mg_i G 91 12 = nI t ∧ mg_i G 91 13 = nI (min (rs_k s) (en_in e).length) ∧ mg_r G 91 14 = q ∧ mg_i G 92 1 = nI (rs_o s).length ∧ mg_i G 92 3 = nI (rs_m s) ∧ (∀ j, j < (rs_o s).length → mg_i G 93 j = (rs_o s).getD j (nI 0)) ∧ (∀ j, j < 4 → mg_i G 94 j = rs_c s j) ∧ (∀ j, j < (rs_t s).length → mg_i G 95 j = nI (ru_code r ((rs_t s).getD j (0, 0)))) ∧ (∀ j, j ≤ rs_d s → mg_r G 96 j = some (if j = 0 then c else 54 + 2 * (rs_s s j).1)) ∧ (∀ j, j ≤ rs_d s → mg_i G 97 j = nI (rs_s s j).2)
def fc_ (c _k : Nat) : Bool := decide (91 ≤ c) && decide (c ≤ 97)
theorem fc_F {c k : Nat} (h : c < 91 ∨ 97 < c) : fc_ c k = false := by
  unfold fc_
  rcases h with h | h
  · rw [decide_eq_false (by omega)]; rfl
  · rw [decide_eq_false (p := c ≤ 97) (by omega), Bool.and_false]
theorem ro_.fc {G G1 : mm_G} {c : Nat} {ls : List ln_T} (h : ro_ G c ls) (hf : fr_ fc_ G G1) (hc : c + 1 < 91 ∨ 97 < c) : ro_ G1 c ls := h.fr hf (fc_F (by omega)) (fun k => fc_F (by omega)) (fun t k ht => fc_F (by omega))
theorem ce_.fc {G G1 : mm_G} {e : en_T} {c r t : Nat} (h : ce_ G e c r t) (hf : fr_ fc_ G G1) (hp : (en_pg e).length ≤ 4) : ce_ G1 e c r t := by
  obtain ⟨h1, h2, h3, h4, h5, h6, h7, h8⟩ := h
  have hc := (rc_ne h1).1
  refine ⟨h1, h2.fc hf hc, ?_, ?_, fun j hj => ?_, h6, ?_, fun j hj => ?_⟩
  · rw [hf.i _ _ (fc_F (by omega))]; exact h3
  · rw [hf.i _ _ (fc_F (by omega))]; exact h4
  · obtain ⟨a, b⟩ := h5 j hj
    have hj2 := (rc_ne (rc_54 (j := j) (by omega))).1
    refine ⟨a.fc hf hj2, ?_⟩
    rw [hf.i _ _ (fc_F (by omega))]; exact b
  · rw [hf.i _ _ (fc_F (by omega))]; exact h7
  · rw [hf.i _ _ (fc_F (by omega))]; exact h8 j hj
theorem cd_.fr {S : Nat → Nat → Bool} {G G1 : mm_G} {x : Nat} {a : List Int32} (h : cd_ G x a) (hf : fr_ S G G1) (h1 : S x 1 = false) (h2 : ∀ k, S (x + 1) k = false) : cd_ G1 x a := by
  obtain ⟨a1, a2, a3⟩ := h
  exact ⟨by rw [hf.i _ _ h1]; exact a1, a2, fun j hj => by rw [hf.i _ _ (h2 j)]; exact a3 j hj⟩
theorem ca_.fc {G G1 : mm_G} {e : en_T} {q : Option Nat} (h : ca_ G e q) (hf : fr_ fc_ G G1) : ca_ G1 e q := by
  unfold ca_ at h ⊢
  split at h
  · exact h
  · obtain ⟨x, h1, h2, h3, h4, h5⟩ := h
    exact ⟨x, h1, h2, h3, h4, h5.fr hf (fc_F (by omega)) (fun k => fc_F (by omega))⟩
/-- a value -/
theorem s_valueOf {l : Launch} {κ : mm_K} {d : Nat} {G : mm_G} {K : Int32 → mm_G → Prop} {e : en_T} {c r t : Nat} {q : Option Nat} {s : rs_T} (v : Int32 × Int32) (hv : ln_okv v) (he : en_ok e r) (hE : ce_ G e c r t) (hS : cs_ G e c r t q s) (hk : rs_k s < 2000)
    (h : ∀ G', cs_ G' e c r t q (ru_got v s) → fr_ fc_ G G' → K (ru_val e v s) G') : mC l κ true d 0 0 m_X3_valueOf [.ref 91, .int v.1, .int v.2] G (rI K) := by
  obtain ⟨a1, a2, a3, a4, a5, a6, a7, a8⟩ := hE
  have hin := he.2.2.2.2.2.2.2
  obtain ⟨h1, h2, h3, h4, h5, h6, h7, h8, h9, h10, h11, h12, h13, h14, h15⟩ := hS
  refine e_X3_valueOf v.1 v.2 ⟨fun q0 => ⟨fun q1 => ?_, fun q1 => ?_⟩, fun q0 => ?_⟩
  · rw [ki_0] at q0
    have hv0 : ru_val e v s = (en_in e).getD (rs_k s) (nI 0) := by unfold ru_val; rw [if_neg q0, if_neg q1]
    have hg : ru_got v s = (rs_c s, rs_k s + 1, rs_o s, rs_t s, rs_d s, rs_s s, rs_m s, rs_q s) := by unfold ru_got; rw [if_neg q0, if_neg q1]
    rw [hv0, hg] at h
    rw [h6, h7, nI_clamp (by omega), a7, nI_ltI (by omega) (by omega), nI_add, ki_sub (by omega), nI_clamp (by omega), mg_i_i, if_neg (by omega)]
    refine ⟨(ki_vp (by omega)).2 a6, fun c1 => ⟨(ki_vp (by omega)).2 a6, (ki_vp (by omega)).2 (by omega), ?_⟩, fun c1 => ?_⟩
    · have e1 : min (rs_k s) (en_in e).length = rs_k s := by omega
      rw [Nat.add_sub_cancel, a8 _ c1, e1]
      refine h _ ?_ (fr_.rfl'.si rfl)
      refine ⟨?_, ?_, ?_, ?_, ?_, ?_, ?_, ?_, ?_, ?_, ?_, ?_, ?_, ?_, ?_⟩ <;> try simp only [mg_i_i, mg_i_l, mg_i_r, mg_i_b, mg_l_i, mg_l_l, mg_l_r, mg_l_b, mg_r_i, mg_r_l, mg_r_r, mg_r_b, false_and, and_false, true_and, and_true, reduceCtorEq, if_true, if_false, reduceIte, Nat.reduceEqDiff, Nat.reduceAdd, Nat.succ_ne_self, ne_eq, not_false_eq_true, not_true_eq_false] <;> try assumption
      show nI (rs_k s + 1) = nI (min (rs_k s + 1) (en_in e).length)
      congr 1
      omega
    · rw [ld_ge _ (by omega)] at h
      refine h _ ?_ fr_.rfl'
      refine ⟨h1, h2, h3, h4, h5, h6, ?_, h8, h9, h10, h11, h12, h13, h14, h15⟩
      rw [h7]
      show nI (min (rs_k s) (en_in e).length) = nI (min (rs_k s + 1) (en_in e).length)
      congr 1
      omega
  · rw [ki_0] at q0
    have hv0 : ru_val e v s = rs_c s v.2.toNatClampNeg := by unfold ru_val; rw [if_neg q0, if_pos q1]
    have hg : ru_got v s = s := by unfold ru_got; rw [if_neg q0, if_pos q1]; rfl
    rw [hv0, hg] at h
    rcases hv with z | ⟨z, j, hj, z2⟩ | z
    · exact absurd z q0
    · rw [z2, nI_clamp (by omega)] at h ⊢
      rw [h12 j hj]
      exact ⟨(ki_vp (by omega)).2 hj, h G ⟨h1, h2, h3, h4, h5, h6, h7, h8, h9, h10, h11, h12, h13, h14, h15⟩ fr_.rfl'⟩
    · rw [z] at q1
      exact absurd ((nI_eq (by omega) (by omega)).1 q1) (by omega)
  · rw [ki_0] at q0
    have hv0 : ru_val e v s = v.2 := by unfold ru_val; rw [if_pos q0]
    have hg : ru_got v s = s := by unfold ru_got; rw [if_pos q0]; rfl
    rw [hv0, hg] at h
    exact h G ⟨h1, h2, h3, h4, h5, h6, h7, h8, h9, h10, h11, h12, h13, h14, h15⟩ fr_.rfl'
theorem ki_q {x : Int32} {q : Nat} (h : x + nI 1 = nI q) (hq : q < 2 ^ 31) : x.toInt = (q : Int) - 1 := by
  have e1 : x = nI q - nI 1 := by rw [← h, Int32.add_sub_cancel]
  have e2 : (nI q).toInt = q := nI_toInt hq
  have e3 : (nI 1).toInt = 1 := nI_toInt (by omega)
  rw [e1, fb_subI (by omega) (by omega), e2, e3]
theorem ki_qle {x y : Int32} {p q : Nat} (hx : x + nI 1 = nI p) (hy : y + nI 1 = nI q) (hp : p < 2 ^ 31) (hq : q < 2 ^ 31) : x ≤ y ↔ p ≤ q := by
  rw [fa_le, ki_q hx hp, ki_q hy hq]
  omega
theorem ru_to_1 (s : rs_T) (a j : Nat) : (ru_to s a j).1 = (rs_s s j).1 := by
  unfold ru_to ru_up
  split
  · rename_i c; subst c; rfl
  · rfl
theorem ru_to_2 (s : rs_T) (a j : Nat) : (ru_to s a j).2 = if j = rs_d s then a else (rs_s s j).2 := by
  unfold ru_to ru_up
  split <;> rfl
theorem cs_.at' {G : mm_G} {e : en_T} {c r t : Nat} {q : Option Nat} {s : rs_T} (h : cs_ G e c r t q s) (a : Nat) : cs_ (ms_i G 97 (rs_d s) (nI a)) e c r t q (rs_c s, rs_k s, rs_o s, rs_t s, rs_d s, ru_to s a, rs_m s, rs_q s) := by
  obtain ⟨h1, h2, h3, h4, h5, h6, h7, h8, h9, h10, h11, h12, h13, h14, h15⟩ := h
  refine ⟨?_, ?_, ?_, ?_, ?_, ?_, ?_, ?_, ?_, ?_, ?_, ?_, ?_, ?_, ?_⟩ <;> try simp only [mg_i_i, mg_i_l, mg_i_r, mg_i_b, mg_l_i, mg_l_l, mg_l_r, mg_l_b, mg_r_i, mg_r_l, mg_r_r, mg_r_b, false_and, and_false, true_and, and_true, reduceCtorEq, if_true, if_false, reduceIte, Nat.reduceEqDiff, Nat.reduceAdd, Nat.succ_ne_self, ne_eq, not_false_eq_true, not_true_eq_false] <;> try assumption
  · intro j hj
    show mg_r G 96 j = some (if j = 0 then c else 54 + 2 * (ru_to s a j).1)
    rw [ru_to_1]
    exact h14 j hj
  · intro j hj
    show (if j = rs_d s then nI a else mg_i G 97 j) = nI (ru_to s a j).2
    rw [ru_to_2]
    split
    · rfl
    · exact h15 j hj
theorem cs_.deep {G : mm_G} {e : en_T} {c r t : Nat} {q : Option Nat} {s : rs_T} (h : cs_ G e c r t q s) {x : Int32} {p : Nat} (hx : x + nI 1 = nI p) : cs_ (ms_i G 91 5 x) e c r t q (rs_c s, rs_k s, rs_o s, rs_t s, rs_d s, rs_s s, rs_m s, p) := by
  obtain ⟨h1, h2, h3, h4, h5, h6, h7, h8, h9, h10, h11, h12, h13, h14, h15⟩ := h
  refine ⟨?_, ?_, ?_, ?_, ?_, ?_, ?_, ?_, ?_, ?_, ?_, ?_, ?_, ?_, ?_⟩ <;> try simp only [mg_i_i, mg_i_l, mg_i_r, mg_i_b, mg_l_i, mg_l_l, mg_l_r, mg_l_b, mg_r_i, mg_r_l, mg_r_r, mg_r_b, false_and, and_false, true_and, and_true, reduceCtorEq, if_true, if_false, reduceIte, Nat.reduceEqDiff, Nat.reduceAdd, Nat.succ_ne_self, ne_eq, not_false_eq_true, not_true_eq_false] <;> try assumption
/-- a jump -/
theorem s_jump {l : Launch} {κ : mm_K} {d : Nat} {G : mm_G} {K : mm_G → Prop} {e : en_T} {c r t : Nat} {q : Option Nat} {s : rs_T} (x : ln_T) (he : en_ok e r) (hE : ce_ G e c r t) (hS : cs_ G e c r t q s) (hk : rs_ok e r s)
    (h : ∀ G', cs_ G' e c r t q (ru_jump e x s) → fr_ fc_ G G' → K G') : mC l κ true d 0 0 m_X3_jump [.ref 91, .int (if ru_fd e x s < (ru_ls e (rs_s s) (rs_d s)).length then nI (ru_fd e x s) else -1)] G (rV K) := by
  have hd := hk.dle
  have hr : r < 4 := by have := he.2.2.1; have := he.2.2.2.2.2.1; omega
  have hq := hk.2.2.2.2.2.2
  have hn := ru_ls_le he (rs_s s) (rs_d s)
  have hn0 := he.2.1
  have h3 := hS.2.2.1
  have h4 := hS.2.2.2.1
  have h14 := hS.2.2.2.2.2.2.2.2.2.2.2.2.2.1 (rs_d s) (Nat.le_refl _)
  unfold ru_jump at h
  by_cases cA : ru_fd e x s < (ru_ls e (rs_s s) (rs_d s)).length
  · rw [if_pos cA]
    simp only [if_pos cA] at h
    refine e_X3_jump _ ⟨fun _ => ⟨fun c0 => ⟨fun c1 => absurd c1 (nI_pos (by omega)), fun _ => ?_⟩, fun c0 => ⟨fun c2 => ⟨fun c1 => absurd c1 (nI_pos (by omega)), fun _ => ?_⟩, fun c2 => ⟨fun c1 => absurd c1 (nI_pos (by omega)), fun _ => ?_⟩⟩⟩, fun c1 => absurd (nI_pos' (by omega)) c1⟩
    · rw [h4, nI_clamp (by omega)]
      rw [h4, ki_0, nI_eq (by omega) (by omega)] at c0
      rw [if_neg c0] at h
      exact ⟨(ki_vp (by omega)).2 (by omega), h _ (hS.at' _) (fr_.rfl'.si rfl)⟩
    · rw [ki_qle (nI_add _ 1) h3 (by omega) (by omega)] at c2
      rw [h4, nI_clamp (by omega)]
      rw [h4, ki_0, nI_eq (by omega) (by omega)] at c0
      rw [if_pos c0, Nat.max_eq_left c2] at h
      exact ⟨(ki_vp (by omega)).2 (by omega), h _ (hS.at' _) (fr_.rfl'.si rfl)⟩
    · rw [ki_qle (nI_add _ 1) h3 (by omega) (by omega)] at c2
      rw [h4, nI_clamp (by omega)]
      rw [h4, ki_0, nI_eq (by omega) (by omega)] at c0
      rw [if_pos c0, Nat.max_eq_right (by omega)] at h
      exact ⟨(ki_vp (by omega)).2 (by omega), h _ ((hS.deep (nI_add _ 1)).at' _) ((fr_.rfl'.si rfl).si rfl)⟩
  · rw [if_neg cA]
    simp only [if_neg cA] at h
    have hcc : (if rs_d s = 0 then c else 54 + 2 * (rs_s s (rs_d s)).1) ∈ rc_L ∧ mg_i G (if rs_d s = 0 then c else 54 + 2 * (rs_s s (rs_d s)).1) 1 = nI (ru_ls e (rs_s s) (rs_d s)).length := by
      split
      · rename_i c0
        rw [c0, ru_ls_0]
        exact ⟨hE.1, hE.2.1.1⟩
      · rename_i c0
        have hb := hk.2.1 (rs_d s - 1) (by omega)
        rw [Nat.sub_add_cancel (by omega)] at hb
        rw [ru_ls_1 c0]
        have hp := he.2.2.2.2.2.1
        exact ⟨rc_54 (by omega), (hE.2.2.2.2.1 _ (by omega)).1.1⟩
    refine e_X3_jump _ ⟨fun c1 => absurd c1 (by decide), fun _ => ⟨by rw [h4]; exact (ki_vp (by omega)).2 (by omega), _, by rw [h4, nI_clamp (by omega)]; exact h14, rc_row hcc.1, fun c0 => ⟨fun _ => ?_, fun c1 => absurd (by decide) c1⟩, fun c0 => ⟨fun c2 => ⟨fun _ => ?_, fun c1 => absurd (by decide) c1⟩, fun c2 => ⟨fun _ => ?_, fun c1 => absurd (by decide) c1⟩⟩⟩⟩
    · rw [h4, ki_0, nI_eq (by omega) (by omega)] at c0
      rw [if_neg c0] at h
      exact h G hS fr_.rfl'
    · rw [hcc.2, ki_qle (p := (ru_ls e (rs_s s) (rs_d s)).length) (Int32.sub_add_cancel _ _) h3 (by omega) (by omega)] at c2
      rw [h4, ki_0, nI_eq (by omega) (by omega)] at c0
      rw [if_pos c0, Nat.max_eq_left c2] at h
      exact h G hS fr_.rfl'
    · rw [hcc.2, ki_qle (p := (ru_ls e (rs_s s) (rs_d s)).length) (Int32.sub_add_cancel _ _) h3 (by omega) (by omega)] at c2
      rw [h4, ki_0, nI_eq (by omega) (by omega)] at c0
      rw [if_pos c0, Nat.max_eq_right (by omega)] at h
      rw [hcc.2]
      exact h _ (hS.deep (Int32.sub_add_cancel _ _)) (fr_.rfl'.si rfl)
theorem cs_.met {G : mm_G} {e : en_T} {c r t : Nat} {q : Option Nat} {s : rs_T} (h : cs_ G e c r t q s) {x : Int32} {p : Nat} (hx : x = nI p) : cs_ (ms_i G 92 3 x) e c r t q (rs_c s, rs_k s, rs_o s, rs_t s, rs_d s, rs_s s, p, rs_q s) := by
  obtain ⟨h1, h2, h3, h4, h5, h6, h7, h8, h9, h10, h11, h12, h13, h14, h15⟩ := h
  refine ⟨?_, ?_, ?_, ?_, ?_, ?_, ?_, ?_, ?_, ?_, ?_, ?_, ?_, ?_, ?_⟩ <;> try simp only [mg_i_i, mg_i_l, mg_i_r, mg_i_b, mg_l_i, mg_l_l, mg_l_r, mg_l_b, mg_r_i, mg_r_l, mg_r_r, mg_r_b, false_and, and_false, true_and, and_true, reduceCtorEq, if_true, if_false, reduceIte, Nat.reduceEqDiff, Nat.reduceAdd, Nat.succ_ne_self, ne_eq, not_false_eq_true, not_true_eq_false] <;> try assumption
theorem cs_.stop {G : mm_G} {e : en_T} {c r t : Nat} {q : Option Nat} {s : rs_T} (h : cs_ G e c r t q s) (x : Int32) : cs_ (ms_i G 92 2 x) e c r t q s := by
  obtain ⟨h1, h2, h3, h4, h5, h6, h7, h8, h9, h10, h11, h12, h13, h14, h15⟩ := h
  refine ⟨?_, ?_, ?_, ?_, ?_, ?_, ?_, ?_, ?_, ?_, ?_, ?_, ?_, ?_, ?_⟩ <;> try simp only [mg_i_i, mg_i_l, mg_i_r, mg_i_b, mg_l_i, mg_l_l, mg_l_r, mg_l_b, mg_r_i, mg_r_l, mg_r_r, mg_r_b, false_and, and_false, true_and, and_true, reduceCtorEq, if_true, if_false, reduceIte, Nat.reduceEqDiff, Nat.reduceAdd, Nat.succ_ne_self, ne_eq, not_false_eq_true, not_true_eq_false] <;> try assumption
theorem cs_.dpt {G : mm_G} {e : en_T} {c r t : Nat} {q : Option Nat} {s : rs_T} (h : cs_ G e c r t q s) {x : Int32} {p : Nat} (hx : x = nI p) (hp : p ≤ rs_d s) : cs_ (ms_i G 91 10 x) e c r t q (rs_c s, rs_k s, rs_o s, rs_t s, p, rs_s s, rs_m s, rs_q s) := by
  obtain ⟨h1, h2, h3, h4, h5, h6, h7, h8, h9, h10, h11, h12, h13, h14, h15⟩ := h
  refine ⟨?_, ?_, ?_, ?_, ?_, ?_, ?_, ?_, ?_, ?_, ?_, ?_, ?_, ?_, ?_⟩ <;> try simp only [mg_i_i, mg_i_l, mg_i_r, mg_i_b, mg_l_i, mg_l_l, mg_l_r, mg_l_b, mg_r_i, mg_r_l, mg_r_r, mg_r_b, false_and, and_false, true_and, and_true, reduceCtorEq, if_true, if_false, reduceIte, Nat.reduceEqDiff, Nat.reduceAdd, Nat.succ_ne_self, ne_eq, not_false_eq_true, not_true_eq_false] <;> try assumption
  · exact fun j hj => h14 j (Nat.le_trans hj hp)
  · exact fun j hj => h15 j (Nat.le_trans hj hp)
/-- out: a number -/
theorem s_putsOut {l : Launch} {κ : mm_K} {d : Nat} {G : mm_G} {K : Int32 → mm_G → Prop} {e : en_T} {c r t : Nat} {q : Option Nat} {s : rs_T} (v : Int32) (hA : ca_ G e q) (hS : cs_ G e c r t q s) (ho : (rs_o s).length ≤ 8)
    (hf : ∀ G', 8 ≤ (rs_o s).length → cs_ G' e c r t q s → fr_ fc_ G G' → mg_i G' 92 2 = nI 3 → K (nI 0) G')
    (hu : ∀ G', ¬ 8 ≤ (rs_o s).length → ru_off e v (rs_o s) = true → cs_ G' e c r t q s → fr_ fc_ G G' → mg_i G' 92 2 = nI 4 → K (nI 0) G')
    (hg : ∀ G', ¬ 8 ≤ (rs_o s).length → ru_off e v (rs_o s) = false → cs_ G' e c r t q (rs_c s, rs_k s, rs_o s ++ [v], rs_t s, rs_d s, rs_s s, rs_m s, rs_q s) → fr_ fc_ G G' → K (nI 1) G') :
    mC l κ true d 0 0 m_X3_putsOut [.ref 91, .int v] G (rI K) := by
  have hS0 := hS
  obtain ⟨h1, h2, h3, h4, h5, h6, h7, h8, h9, h10, h11, h12, h13, h14, h15⟩ := hS
  have hput : ¬ 8 ≤ (rs_o s).length → cs_ (ms_i (ms_i G 93 (rs_o s).length v) 92 1 (nI (rs_o s).length + nI 1)) e c r t q (rs_c s, rs_k s, rs_o s ++ [v], rs_t s, rs_d s, rs_s s, rs_m s, rs_q s) := by
    intro c8
    refine ⟨?_, ?_, ?_, ?_, ?_, ?_, ?_, ?_, ?_, ?_, ?_, ?_, ?_, ?_, ?_⟩ <;> try simp only [mg_i_i, mg_i_l, mg_i_r, mg_i_b, mg_l_i, mg_l_l, mg_l_r, mg_l_b, mg_r_i, mg_r_l, mg_r_r, mg_r_b, false_and, and_false, true_and, and_true, reduceCtorEq, if_true, if_false, reduceIte, Nat.reduceEqDiff, Nat.reduceAdd, Nat.succ_ne_self, ne_eq, not_false_eq_true, not_true_eq_false] <;> try assumption
    · show nI (rs_o s).length + nI 1 = nI (rs_o s ++ [v]).length
      rw [nI_add, List.length_append]
      rfl
    · intro j hj
      have hj : j < (rs_o s ++ [v]).length := hj
      show (if j = (rs_o s).length then v else mg_i G 93 j) = (rs_o s ++ [v]).getD j (nI 0)
      rw [List.length_append, List.length_cons, List.length_nil] at hj
      split
      · rename_i cj
        rw [cj, ld_r]
      · rw [ld_l _ _ (by omega)]
        exact h11 j (by omega)
  refine e_X3_putsOut v ⟨fun c8 => ?_, fun c8 => ?_⟩
  · rw [h9, nI_ltI (by omega) (by omega)] at c8
    refine ⟨fun c0 => ?_, fun x c0 => ?_⟩
    · rw [h9, nI_clamp (by omega)]
      refine ⟨(ki_vp (by omega)).2 (by omega), hg _ (by omega) ?_ (hput (by omega)) ((fr_.rfl'.si rfl).si rfl)⟩
      rw [h8] at c0
      unfold ca_ at hA
      unfold ru_off
      split
      · rfl
      · rename_i a ea
        rw [ea] at hA
        obtain ⟨x, hx, -⟩ := hA
        rw [c0] at hx
        cases hx
    · rw [h8] at c0
      unfold ca_ at hA
      unfold ru_off at hu hg
      split at hA
      · rw [c0] at hA; cases hA
      · rename_i a ea
        simp only [ea] at hu hg
        obtain ⟨y, hy, hy2, hy3, hy4, hy5, hy6, hy7⟩ := hA
        rw [c0] at hy
        obtain rfl : x = y := Option.some.inj hy
        rw [h9, hy5, nI_clamp (by omega), nI_leI (by omega) (by omega)]
        refine ⟨hy2, fun c1 => ?_, fun c1 => ⟨(ki_vp (by omega)).2 (by omega), fun c2 => ⟨(ki_vp (by omega)).2 (by omega), ?_⟩, fun c2 => ?_⟩⟩
        · refine hu _ (by omega) ?_ (hS0.stop _) (fr_.rfl'.si rfl) (by simp only [mg_i_i, mg_i_l, mg_i_r, mg_i_b, mg_l_i, mg_l_l, mg_l_r, mg_l_b, mg_r_i, mg_r_l, mg_r_r, mg_r_b, false_and, and_false, true_and, and_true, reduceCtorEq, if_true, if_false, reduceIte, Nat.reduceEqDiff, Nat.reduceAdd, Nat.succ_ne_self, ne_eq, not_false_eq_true, not_true_eq_false])
          exact decide_eq_true (Or.inl c1)
        · refine hg _ (by omega) ?_ (hput (by omega)) ((fr_.rfl'.si rfl).si rfl)
          rw [hy7 _ (by omega)] at c2
          refine decide_eq_false ?_
          rintro (z | z)
          · omega
          · exact z c2
        · refine hu _ (by omega) ?_ (hS0.stop _) (fr_.rfl'.si rfl) (by simp only [mg_i_i, mg_i_l, mg_i_r, mg_i_b, mg_l_i, mg_l_l, mg_l_r, mg_l_b, mg_r_i, mg_r_l, mg_r_r, mg_r_b, false_and, and_false, true_and, and_true, reduceCtorEq, if_true, if_false, reduceIte, Nat.reduceEqDiff, Nat.reduceAdd, Nat.succ_ne_self, ne_eq, not_false_eq_true, not_true_eq_false])
          rw [hy7 _ (by omega)] at c2
          exact decide_eq_true (Or.inr c2)
  · rw [h9, nI_ltI (by omega) (by omega)] at c8
    exact hf _ (by omega) (hS0.stop _) (fr_.rfl'.si rfl) (by simp only [mg_i_i, mg_i_l, mg_i_r, mg_i_b, mg_l_i, mg_l_l, mg_l_r, mg_l_b, mg_r_i, mg_r_l, mg_r_r, mg_r_b, false_and, and_false, true_and, and_true, reduceCtorEq, if_true, if_false, reduceIte, Nat.reduceEqDiff, Nat.reduceAdd, Nat.succ_ne_self, ne_eq, not_false_eq_true, not_true_eq_false])
/-- a counter -/
theorem cs_.ctr {G : mm_G} {e : en_T} {c r t : Nat} {q : Option Nat} {s : rs_T} (h : cs_ G e c r t q s) (i : Nat) (v : Int32) : cs_ (ms_i G 94 i v) e c r t q (ru_up (rs_c s) i v, rs_k s, rs_o s, rs_t s, rs_d s, rs_s s, rs_m s, rs_q s) := by
  obtain ⟨h1, h2, h3, h4, h5, h6, h7, h8, h9, h10, h11, h12, h13, h14, h15⟩ := h
  refine ⟨?_, ?_, ?_, ?_, ?_, ?_, ?_, ?_, ?_, ?_, ?_, ?_, ?_, ?_, ?_⟩ <;> try simp only [mg_i_i, mg_i_l, mg_i_r, mg_i_b, mg_l_i, mg_l_l, mg_l_r, mg_l_b, mg_r_i, mg_r_l, mg_r_r, mg_r_b, false_and, and_false, true_and, and_true, reduceCtorEq, if_true, if_false, reduceIte, Nat.reduceEqDiff, Nat.reduceAdd, Nat.succ_ne_self, ne_eq, not_false_eq_true, not_true_eq_false] <;> try assumption
  intro j hj
  show (if j = i then v else mg_i G 94 j) = (if j = i then v else rs_c s j)
  rw [h12 j hj]
theorem s_reckons {l : Launch} {κ : mm_K} {d : Nat} {G : mm_G} {K : Int32 → mm_G → Prop} {e : en_T} {c r t : Nat} {q : Option Nat} {s : rs_T} (y : Nat) (hy : LineAt y) (v : Int32) (i k : Nat) (hS : cs_ G e c r t q s) (hi : i < 4) (hk : k ≤ 4) (ho : mg_i G y 1 = nI k) (hc : mg_i G y 3 = nI i)
    (hz : ∀ G', k = 4 → v = nI 0 → cs_ G' e c r t q s → fr_ fc_ G G' → mg_i G' 92 2 = nI 2 → K (nI 0) G')
    (hg : ∀ G', ¬ (k = 4 ∧ v = nI 0) → cs_ G' e c r t q (ru_up (rs_c s) i (ru_ctr (nI k) v (rs_c s i)), rs_k s, rs_o s, rs_t s, rs_d s, rs_s s, rs_m s, rs_q s) → fr_ fc_ G G' → K (nI 1) G') :
    mC l κ true d 0 0 m_X3_reckons [.ref 91, .ref y, .int v] G (rI K) := by
  have h12 := hS.2.2.2.2.2.2.2.2.2.2.2.1 i hi
  refine e_X3_reckons y hy v ?_
  rw [ho, hc, nI_clamp (by omega), h12, nI_toInt (by omega)]
  have hvp : vp_in (nI i) 4 := (ki_vp (by omega)).2 hi
  have hK : ∀ x, ¬ (k = 4 ∧ v = nI 0) → x = ru_ctr (nI k) v (rs_c s i) → K (nI 1) (ms_i G 94 i x) := by
    intro x hn hx
    subst hx
    exact hg _ hn (hS.ctr i _) (fr_.rfl'.si rfl)
  refine ⟨fun q0 => ⟨hvp, hK _ ?_ ?_⟩, fun q0 => ⟨hvp, hvp, hK _ ?_ ?_⟩, fun q0 => ⟨hvp, hvp, hK _ ?_ ?_⟩, fun q0 => ⟨hvp, hvp, hK _ ?_ ?_⟩, fun q0 => ⟨fun q1 => ⟨hvp, q1, hvp, hK _ ?_ ?_⟩, fun q1 => ?_⟩⟩
  · rw [nI_eq (by omega) (by omega)] at q0; omega
  · unfold ru_ctr; rw [if_pos q0]
  · rw [nI_eq (by omega) (by omega)] at q0; omega
  · rw [nI_eq (by omega) (by omega)] at q0
    subst q0; rfl
  · rw [nI_eq (by omega) (by omega)] at q0; omega
  · rw [nI_eq (by omega) (by omega)] at q0
    subst q0; rfl
  · rw [nI_eq (by omega) (by omega)] at q0; omega
  · rw [nI_eq (by omega) (by omega)] at q0
    subst q0; rfl
  · rintro ⟨-, z⟩; exact q1 z
  · obtain rfl : k = 4 := by omega
    rfl
  · exact hz _ (by omega) q1 (hS.stop _) (fr_.rfl'.si rfl) (by simp only [mg_i_i, mg_i_l, mg_i_r, mg_i_b, mg_l_i, mg_l_l, mg_l_r, mg_l_b, mg_r_i, mg_r_l, mg_r_r, mg_r_b, false_and, and_false, true_and, and_true, reduceCtorEq, if_true, if_false, reduceIte, Nat.reduceEqDiff, Nat.reduceAdd, Nat.succ_ne_self, ne_eq, not_false_eq_true, not_true_eq_false])
/-- on to the line that is to be done -/
theorem ru_skip_step {lost n a : Nat} (h : lost.testBit a = true) : ru_skip lost (n + 1) a = ru_skip lost n (a + 1) := by
  show (if lost.testBit a then _ else _) = _
  rw [if_pos h]
theorem ru_skip_end {lost n a : Nat} (h : lost.testBit a = false) : ru_skip lost (n + 1) a = a := by
  show (if lost.testBit a then _ else _) = _
  rw [if_neg (by rw [h]; decide)]
theorem s_comes {l : Launch} {κ : mm_K} {d : Nat} {G : mm_G} {K : Int32 → mm_G → Prop} {e : en_T} {c r t : Nat} {q : Option Nat} {s : rs_T} (he : en_ok e r) (hE : ce_ G e c r t) (hS : cs_ G e c r t q s) (hk : rs_ok e r s)
    (h : ∀ G', cs_ G' e c r t q (ru_come e s) → fr_ fc_ G G' → K (if ru_is e s then nI 1 else nI 0) G') : mC l κ true (d + 1) 0 0 m_X3_comesToLine [.ref 91] G (rI K) := by
  refine mC.of (by decide +kernel) (by show 1 ≤ 2; omega) [some (.ref 91), none] rfl ?_
  obtain ⟨cc, kk, oo, tt, dd, sk, mm, qq⟩ := s
  have hlen := he.2.1
  have hlo := he.2.2.2.2.2.2.1
  have hr : r < 4 := by have := he.2.2.1; have := he.2.2.2.2.2.1; omega
  have hd0 : dd ≤ r := hk.dle
  induction dd generalizing G with
  | zero =>
    have h0 : (sk 0).2 ≤ (en_ls e).length := by have := hk.2.2.1 0 (Nat.le_refl 0); rw [ru_ls_0] at this; exact this
    have hq : qq ≤ (en_ls e).length := hk.2.2.2.2.2.2
    have h3 : mg_i G 91 5 + nI 1 = nI qq := hS.2.2.1
    have h4 : mg_i G 91 10 = nI 0 := hS.2.2.2.1
    have h5 : mg_i G 91 11 = nI (en_lo e) := hS.2.2.2.2.1
    have h10 : mg_i G 92 3 = nI mm := hS.2.2.2.2.2.2.2.2.2.1
    have h14 : mg_r G 96 0 = some c := hS.2.2.2.2.2.2.2.2.2.2.2.2.2.1 0 (Nat.le_refl 0)
    have h15 : mg_i G 97 0 = nI (sk 0).2 := hS.2.2.2.2.2.2.2.2.2.2.2.2.2.2 0 (Nat.le_refl 0)
    have hcc := rc_ne hE.1
    have hz : mg_i G c 1 = nI (en_ls e).length := hE.2.1.1
    refine p_X3_comesToLine_0 ⟨fun _ => ⟨(ki_vp (by omega)).2 (by omega), ?_⟩, fun q0 => absurd (by rw [h4]; decide) q0⟩
    have e0 : (nI 0).toNatClampNeg = 0 := nI_clamp (by omega)
    rw [e0, h15]
    have hlow : ∀ x, ru_low e (cc, kk, oo, tt, 0, sk, mm, qq) = x → ru_come e (cc, kk, oo, tt, 0, sk, mm, qq) = (if x < (en_ls e).length then (cc, kk, oo, tt, 0, ru_up sk 0 ((sk 0).1, x), mm ||| 2 ^ x, max qq (x + 1)) else (cc, kk, oo, tt, 0, ru_up sk 0 ((sk 0).1, x), mm, qq)) ∧ ru_is e (cc, kk, oo, tt, 0, sk, mm, qq) = decide (x < (en_ls e).length) := by
      intro x hx
      refine ⟨?_, ?_⟩
      · unfold ru_come
        rw [hx]
        rfl
      · unfold ru_is
        rw [hx]
        simp [rs_d, ru_dp]
    suffices H : ∀ n a, a + n = (en_ls e).length → ru_skip (en_lo e) n a = ru_low e (cc, kk, oo, tt, 0, sk, mm, qq) → mV l κ true (d + 1) 0 0 m_X3_comesToLine 53 [some (.ref 91), some (.int (nI a))] [] G (rI K) from H ((en_ls e).length - (sk 0).2) (sk 0).2 (by omega) rfl
    intro n
    induction n with
    | zero =>
      intro a ha hs
      obtain ⟨w1, w2⟩ := hlow a hs.symm
      rw [if_neg (by omega)] at w1
      rw [w2, decide_eq_false (by omega), w1] at h
      refine p_X3_comesToLine_53 (nI a) ⟨(ki_vp (by omega)).2 (by omega), c, by rw [e0]; exact h14, rc_row hE.1, fun _ => ⟨(ki_vp (by omega)).2 (by omega), (ki_vp (by omega)).2 (by omega), c, by rw [e0]; exact h14, rc_row hE.1, fun z => ?_, fun _ => ?_⟩, fun z => ?_⟩
      · rw [e0, mg_i_i, if_neg (by omega), hz, nI_ltI (by omega) (by omega)] at z
        omega
      · rw [e0]
        exact h _ (hS.at' a) (fr_.rfl'.si rfl)
      · rw [hz, nI_leI (by omega) (by omega)] at z
        omega
    | succ n ih =>
      intro a ha hs
      refine p_X3_comesToLine_53 (nI a) ⟨(ki_vp (by omega)).2 (by omega), c, by rw [e0]; exact h14, rc_row hE.1, fun z => ?_, fun _ => ⟨fun z => ?_, fun z => ?_⟩⟩
      · rw [hz, nI_leI (by omega) (by omega)] at z
        omega
      · rw [h5, ki_0, ki_bit hlo (by omega)] at z
        rw [ru_skip_end z] at hs
        obtain ⟨w1, w2⟩ := hlow a hs.symm
        rw [if_pos (by omega)] at w1
        rw [w2, decide_eq_true (by omega : a < (en_ls e).length), w1] at h
        refine ⟨(ki_vp (by omega)).2 (by omega), (ki_vp (by omega)).2 (by omega), c, by rw [e0]; exact h14, rc_row hE.1, fun _ => ?_, fun z => ?_⟩
        · rw [e0, h10, ki_shl a (by omega), fa_or]
          have hdq : (if mg_i G 91 5 < nI a then nI a else mg_i G 91 5) + nI 1 = nI (max qq (a + 1)) := by
            split
            · rename_i z2
              rw [fa_lt, ki_q h3 (by omega), nI_toInt (by omega)] at z2
              rw [nI_add]
              congr 1
              omega
            · rename_i z2
              rw [fa_lt, ki_q h3 (by omega), nI_toInt (by omega)] at z2
              rw [h3]
              congr 1
              omega
          exact h _ (((hS.at' a).met rfl).deep hdq) (((fr_.rfl'.si rfl).si rfl).si rfl)
        · rw [e0, mg_i_i, if_neg (by omega), hz, nI_ltI (by omega) (by omega)] at z
          omega
      · rw [h5, ki_0, ki_bit hlo (by omega)] at z
        rw [nI_add]
        exact ih (a + 1) (by omega) (by rw [← hs, ru_skip_step (by simpa using z)])
  | succ dd ih =>
    have h4 : mg_i G 91 10 = nI (dd + 1) := hS.2.2.2.1
    have hb : (sk (dd + 1)).1 + (dd + 1) ≤ r := hk.2.1 dd (Nat.lt_succ_self dd)
    have hp := he.2.2.2.2.2.1
    have h14 : mg_r G 96 (dd + 1) = some (54 + 2 * (sk (dd + 1)).1) := hS.2.2.2.2.2.2.2.2.2.2.2.2.2.1 (dd + 1) (Nat.le_refl _)
    have h15 : mg_i G 97 (dd + 1) = nI (sk (dd + 1)).2 := hS.2.2.2.2.2.2.2.2.2.2.2.2.2.2 (dd + 1) (Nat.le_refl _)
    have hz : mg_i G (54 + 2 * (sk (dd + 1)).1) 1 = nI (ru_ls e sk (dd + 1)).length := by
      rw [ru_ls_1 (by omega)]
      exact (hE.2.2.2.2.1 _ (by omega)).1.1
    have hle : (sk (dd + 1)).2 ≤ (ru_ls e sk (dd + 1)).length := hk.2.2.1 (dd + 1) (Nat.le_refl _)
    have hn := ru_ls_le he sk (dd + 1)
    refine p_X3_comesToLine_0 ⟨fun z => ?_, fun _ => ?_⟩
    · rw [h4, ki_0, nI_leI (by omega) (by omega)] at z
      omega
    · rw [h4, nI_clamp (by omega), h15]
      refine ⟨(ki_vp (by omega)).2 (by omega), (ki_vp (by omega)).2 (by omega), _, h14, rc_row (rc_54 (by omega)), ?_⟩
      rw [hz, nI_leI (by omega) (by omega)]
      refine ⟨fun z => ?_, fun z => ?_⟩
      · have e1 : ru_dp e sk (dd + 1) = ru_dp e sk dd := by
          show (if _ then _ else _) = _
          rw [if_neg (by omega)]
        have e2 : ru_come e (cc, kk, oo, tt, dd + 1, sk, mm, qq) = ru_come e (cc, kk, oo, tt, dd, sk, mm, qq) := by
          unfold ru_come
          simp only [rs_c, rs_k, rs_o, rs_t, rs_d, rs_s, rs_m, rs_q, e1]
          rfl
        have e3 : ru_is e (cc, kk, oo, tt, dd + 1, sk, mm, qq) = ru_is e (cc, kk, oo, tt, dd, sk, mm, qq) := by
          unfold ru_is
          simp only [rs_c, rs_k, rs_o, rs_t, rs_d, rs_s, rs_m, rs_q, e1]
          rfl
        have hS2 := hS.dpt (x := nI (dd + 1) - nI 1) (p := dd) (by rw [ki_sub (by omega)]; rfl) (Nat.le_succ dd)
        have hf : fr_ fc_ G (ms_i G 91 10 (nI (dd + 1) - nI 1)) := fr_.rfl'.si rfl
        rw [e2, e3] at h
        obtain ⟨k1, k2, k3, k4, k5, k6, k7⟩ := hk
        exact ih (hE.fc hf he.2.2.1) hS2 ⟨k1, fun j hj => k2 j (Nat.lt_succ_of_lt hj), fun j hj => k3 j (Nat.le_succ_of_le hj), k4, k5, k6, k7⟩ (fun G' g1 g2 => h G' g1 (hf.trans g2)) (by omega)
      · have e1 : ru_dp e sk (dd + 1) = dd + 1 := by
          show (if _ then _ else _) = _
          rw [if_pos (by omega)]
        have e2 : ru_come e (cc, kk, oo, tt, dd + 1, sk, mm, qq) = (cc, kk, oo, tt, dd + 1, sk, mm, qq) := by
          unfold ru_come
          simp only [rs_c, rs_k, rs_o, rs_t, rs_d, rs_s, rs_m, rs_q, e1]
          rfl
        have e3 : ru_is e (cc, kk, oo, tt, dd + 1, sk, mm, qq) = true := by
          unfold ru_is
          simp only [rs_c, rs_k, rs_o, rs_t, rs_d, rs_s, rs_m, rs_q, e1]
          simp
        rw [e2, e3] at h
        exact h G hS fr_.rfl'
