/-! suspects, suspect: the reference -/
def sr_ (P : ps_T) (r n k T : Nat) : List Nat := (su_ n T).filter (fun s => cb_ P r s k)
theorem rg_map {xs : List Nat} : (List.range xs.length).map (fun i => xs.getD i 0) = xs := by
  apply List.ext_getElem?
  intro i
  rw [List.getElem?_map]
  by_cases h : i < xs.length
  · rw [List.getElem?_range h, List.getElem?_eq_getElem h]
    show some (xs.getD i 0) = _
    rw [List.getD_eq_getElem?_getD, List.getElem?_eq_getElem h]
    rfl
  · rw [List.getElem?_eq_none (by rw [List.length_range]; omega), List.getElem?_eq_none (by omega)]
    rfl
theorem sp_sr {P : ps_T} {r n : Nat} : ∀ k, sp_ P r n k = sr_ P r n k (2 ^ (px_at (ps_p P) r).length)
  | 0 => by
    show (List.range (sL_ P r n).length).map (sv_ P r n) = (sL_ P r n).filter (fun _ => true)
    rw [List.filter_eq_self.2 (fun _ _ => rfl)]
    exact rg_map
  | k + 1 => by
    have ih := sp_sr (P := P) (r := r) (n := n) k
    unfold sp_ at ih ⊢
    show ((nw_ P r n k).filter (fun x => decide (sD_ P r n x (sx_at (ps_n P) k).1 = se_ P r k))).map (sv_ P r n) = _
    have e1 : ((nw_ P r n k).filter (fun x => decide (sD_ P r n x (sx_at (ps_n P) k).1 = se_ P r k))).map (sv_ P r n) = ((nw_ P r n k).map (sv_ P r n)).filter (fun s => decide (od_ (ps_p P) (ps_t P) (ps_f P) r s (sx_at (ps_n P) k).1 = se_ P r k)) := by
      rw [List.filter_map]
      rfl
    rw [e1, ih]
    unfold sr_
    rw [List.filter_filter]
    apply List.filter_congr
    intro s _
    show _ = (cb_ P r s k && _)
    rw [Bool.and_comm]
def fV_ (c k : Nat) : Bool := fg_ c k || decide (c = 272) || (decide (c = 226) && decide (k = 72))
theorem fV_on {c k : Nat} (h : rgQ c k = true) : fV_ c k = false := by
  unfold fV_
  have := rgQ_iff.1 h
  rw [fg_on h, decide_eq_false (p := c = 272) (by omega)]
  by_cases e : c = 226
  · rw [decide_eq_false (p := k = 72) (by omega), Bool.and_false]; rfl
  · rw [decide_eq_false e]; rfl
theorem fr_.gV {G G1 : mm_G} (h : fr_ fg_ G G1) : fr_ fV_ G G1 := h.mono (fun c k q => by unfold fV_ at q; simp only [Bool.or_eq_false_iff] at q; exact q.1.1)
theorem mB_.fV {G G1 : mm_G} {P : ps_T} {m : Nat} (h : mB_ G P m) (hf : fr_ fV_ G G1) : mB_ G1 P m := h.on (hf.on (fun c k q => fV_on q))
theorem fg_72 : fg_ 226 72 = false := by
  unfold fg_ ft_ fm_
  decide
def sR_ (G : mm_G) (xs : List Nat) : Prop := mg_i G 226 72 = nI xs.length ∧ ∀ i, i < xs.length → mg_i G 272 i = nI (xs.getD i 0)
theorem sR_.fg {G G1 : mm_G} {xs : List Nat} (h : sR_ G xs) (hf : fr_ fg_ G G1) : sR_ G1 xs := ⟨by rw [hf.i _ _ fg_72]; exact h.1, fun i hi => by rw [hf.i _ _ (fg_F (by omega))]; exact h.2 i hi⟩
theorem srr_le {P : ps_T} {r n k T : Nat} : (sr_ P r n k T).length ≤ (su_ n T).length := List.length_filter_le _ _
theorem t_fillSuspects {l : Launch} {κ : mm_K} {d : Nat} {G : mm_G} {K : mm_G → Prop} {P : ps_T} {w r n k : Nat} (hP : ps_ok P) (hM : mB_ G P w) (hr : r < (ps_p P).length) (hn : n ≤ 2) (hk : k ≤ (ps_n P).2.length) (hsr : k ≠ 0 → (ps_n P).1 = r)
    (h : ∀ G', sR_ G' (sp_ P r n k) → fr_ fV_ G G' → K G') : mC l κ true (d + 6) 0 0 m_X13_fillSuspects [.ref 226, .int (nI r), .int (nI n), .int (nI k)] G (rV K) := by
  have h16 := px_len_lt (hP.1.2.2 r)
  have hlen := hP.1.2.2 r
  have h120 := su_120 (n := n) hlen hn
  rw [sp_sr] at h
  refine e_X13_fillSuspects _ _ _ ?_
  have f0 : fr_ fV_ G (ms_i G 226 72 (nI 0)) := fr_.rfl'.si (by unfold fV_; simp)
  suffices H : ∀ m s G1, s + m = 2 ^ (px_at (ps_p P) r).length → fr_ fV_ G G1 → sR_ G1 (sr_ P r n k s) → mV l κ true (d + 6) 0 0 m_X13_fillSuspects 8 [some (.ref 226), some (.int (nI r)), some (.int (nI n)), some (.int (nI k)), some (.int (nI s))] [] G1 (rV K) from
    H _ 0 _ (Nat.zero_add _) f0 ⟨by simp only [mg_i_i, mg_i_l, mg_i_r, mg_i_b, mg_l_i, mg_l_l, mg_l_r, mg_l_b, mg_r_i, mg_r_l, mg_r_r, mg_r_b, false_and, and_false, true_and, and_true, reduceCtorEq, if_true, if_false, reduceIte, Nat.reduceEqDiff, Nat.reduceAdd, Nat.succ_ne_self, ne_eq, not_false_eq_true, not_true_eq_false]; rfl, fun i hi => absurd hi (Nat.not_lt_zero i)⟩
  intro m
  induction m with
  | zero =>
    intro s G1 hs f1 r1
    obtain rfl : s = 2 ^ (px_at (ps_p P) r).length := by omega
    refine p_X13_fillSuspects_8 _ _ _ _ (t_lines hP (hM.fV f1) hr ?_)
    rw [ki_shl _ (by omega)]
    exact ⟨fun _ => h G1 r1 f1, fun y => absurd (nI_le (by omega) (by omega)) y⟩
  | succ m ih =>
    intro s G1 hs f1 r1
    have hsl : s < 2 ^ (px_at (ps_p P) r).length := by omega
    have hpc := pc_le hsl (by omega)
    have hle := su_len_le (n := n) (show s + 1 ≤ 2 ^ (px_at (ps_p P) r).length by omega)
    have hsle : (sr_ P r n k s).length ≤ (su_ n s).length := srr_le
    refine p_X13_fillSuspects_8 _ _ _ _ (t_lines hP (hM.fV f1) hr ?_)
    rw [ki_shl _ (by omega)]
    refine ⟨fun y => absurd y (nI_ge (by omega) (by omega)), fun _ => t_bits (by omega) ?_⟩
    rw [nI_eq (by omega) (by omega), nI_add]
    refine ⟨fun y => ?_, fun y => t_canBe hP (hM.fV f1) hr hsl hk hsr (fun G2 f2 => ?_)⟩
    · refine ih (s + 1) G1 (by omega) f1 ?_
      have e : sr_ P r n k (s + 1) = sr_ P r n k s := by unfold sr_; rw [su_not y]
      rw [e]
      exact r1
    · have r2 := r1.fg f2
      have f12 := f1.trans f2.gV
      rw [su_yes y, List.length_append] at hle
      have e1 : [s].length = 1 := rfl
      cases c : cb_ P r s k with
      | true =>
        have e : sr_ P r n k (s + 1) = sr_ P r n k s ++ [s] := by
          unfold sr_
          rw [su_yes y, List.filter_append]
          congr 1
          exact List.filter_cons_of_pos c
        refine ⟨fun _ => ?_, fun z => absurd z (by decide)⟩
        rw [r2.1, nI_add, nI_clamp (by omega)]
        refine ⟨(ki_vp (by omega)).2 (by omega), ih (s + 1) _ (by omega) ((f12.si (by unfold fV_; simp)).si (by unfold fV_; simp)) ?_⟩
        rw [e]
        refine ⟨by simp only [mg_i_i, mg_i_l, mg_i_r, mg_i_b, mg_l_i, mg_l_l, mg_l_r, mg_l_b, mg_r_i, mg_r_l, mg_r_r, mg_r_b, false_and, and_false, true_and, and_true, reduceCtorEq, if_true, if_false, reduceIte, Nat.reduceEqDiff, Nat.reduceAdd, Nat.succ_ne_self, ne_eq, not_false_eq_true, not_true_eq_false]; rw [List.length_append, e1], fun i hi => ?_⟩
        rw [List.length_append, e1] at hi
        simp only [mg_i_i, mg_i_l, mg_i_r, mg_i_b, mg_l_i, mg_l_l, mg_l_r, mg_l_b, mg_r_i, mg_r_l, mg_r_r, mg_r_b, false_and, and_false, true_and, and_true, reduceCtorEq, if_true, if_false, reduceIte, Nat.reduceEqDiff, Nat.reduceAdd, Nat.succ_ne_self, ne_eq, not_false_eq_true, not_true_eq_false]
        by_cases ci : i = (sr_ P r n k s).length
        · rw [if_pos ci, ci, ap_eq]
        · rw [if_neg ci, ap_lt (by omega)]; exact r2.2 i (by omega)
      | false =>
        have e : sr_ P r n k (s + 1) = sr_ P r n k s := by
          unfold sr_
          rw [su_yes y, List.filter_append, List.filter_cons_of_neg (by rw [c]; decide)]
          exact List.append_nil _
        refine ⟨fun z => absurd rfl z, fun _ => ih (s + 1) G2 (by omega) f12 ?_⟩
        rw [e]
        exact r2
theorem sp_le {P : ps_T} {r n k : Nat} (hP : ps_ok P) (hn : n ≤ 2) : (sp_ P r n k).length ≤ 120 := by
  rw [sp_sr]
  exact Nat.le_trans srr_le (su_120 (hP.1.2.2 r) hn)
theorem m_suspects {l : Launch} {κ : mm_K} {d : Nat} {G : mm_G} {K : Int32 → mm_G → Prop} {P : ps_T} {w : Nat} (a b c : Int32) (hP : ps_ok P) (hM : mB_ G P w) (h : ∀ G', fr_ fV_ G G' → K (an_suspects P a b c) G') : mC l κ true (d + 7) 0 0 m_X13_suspects [.ref 226, .int a, .int b, .int c] G (rI K) := by
  unfold an_suspects at h
  refine e_X13_suspects a b c (t_canSuspect a b c hP hM (fun e => ⟨fun y => absurd (by decide) y, fun _ => ?_⟩) (fun r n k e hr ea hn eb hk ec hs => ⟨fun _ => ?_, fun y => absurd y (by decide)⟩))
  · rw [e] at h; exact h G fr_.rfl'
  · rw [e] at h
    subst ea eb ec
    refine t_fillSuspects hP hM hr hn hk hs (fun G2 r2 f2 => ?_)
    rw [r2.1]
    exact h G2 f2
theorem m_suspect {l : Launch} {κ : mm_K} {d : Nat} {G : mm_G} {K : Int32 → mm_G → Prop} {P : ps_T} {w : Nat} (a b c i : Int32) (hP : ps_ok P) (hM : mB_ G P w) (h : ∀ G', fr_ fV_ G G' → K (an_suspect P a b c i) G') : mC l κ true (d + 7) 0 0 m_X13_suspect [.ref 226, .int a, .int b, .int c, .int i] G (rI K) := by
  unfold an_suspect at h
  refine e_X13_suspect a b c i (t_canSuspect a b c hP hM (fun e => ⟨fun y => absurd (by decide) y, fun _ => ?_⟩) (fun r n k e hr ea hn eb hk ec hs => ⟨fun _ => ?_, fun y => absurd y (by decide)⟩))
  · rw [e] at h; exact h G fr_.rfl'
  · rw [e] at h
    subst ea eb ec
    refine t_fillSuspects hP hM hr hn hk hs (fun G2 r2 f2 => ?_)
    have hh := h G2 f2
    have h120 := sp_le (r := r) (k := k) hP hn
    simp only [] at hh
    rw [r2.1]
    refine t_in (n := (sp_ P r n k).length) i (Int32.sub_add_cancel _ _) (by omega) (fun e2 => ⟨fun _ => ?_, fun q => absurd (by decide) q⟩) (fun j e2 hj ej => ⟨fun q => absurd q (by decide), fun _ => ?_⟩)
    · rw [e2] at hh; exact hh
    · rw [e2] at hh
      subst ej
      rw [nI_clamp (by omega), r2.2 j hj]
      exact ⟨(ki_vp (by omega)).2 (by omega), hh⟩
