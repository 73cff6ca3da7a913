/-! the reference runs -/
theorem t_acts {l : Launch} {κ : mm_K} {d : Nat} {G : mm_G} {K : mm_G → Prop} {e : en_T} {a r t p : Nat} {pl : Nat → Nat} {s : rs_T} {x : ln_T} (he : en_ok e r) (ham : en_am e = none) (hE : me_ G e a r t pl) (hS : mt_ G r t pl s) (hk : rs_ok2 e r s) (hkk : rs_k s < 900) (hp : p < 320) (hx : rd_m G p = x) (hxo : ln_ok (rs_s s (rs_d s)).1 x) (h55 : mg_i G 226 55 = -1)
    (h : ∀ G', mt_ G' r t pl (ru_do e x s).1 → fr_ fm_ G G' → mu_end G' (ru_do e x s).2 → K G') : mC l κ true (d + 3) 0 0 m_X13_acts [.ref 226, .int (nI p)] G (rV K) := by
  obtain ⟨k, hk10, ek⟩ := hxo.1
  obtain ⟨i, hi, ei⟩ := hxo.2.1
  have hvp : vp_in (nI p) 320 := (ki_vp (by omega)).2 hp
  have hct : ∀ G', fr_ fm_ G G' → mg_i G 238 p = if k ≤ 4 then nI i else mg_i G' 238 p := by
    intro G' hf
    split
    · rename_i z
      rw [← ei, rm_ct hx ek z]
    · rw [hf.i _ _ (fm_F (by omega))]
  have hval : k ≤ 5 ∨ k = 7 → mC l κ true (d + 2) 0 0 m_X13_valueOf [.ref 226, .int (mg_i G 239 p), .int (mg_i G 240 p)] G (rI (fun r1 G2 => mV l κ true (d + 3) 0 0 m_X13_acts 50 [some (.ref 226), some (.int (nI p)), some (.int (mg_i G 238 p)), some (.int r1), none, none] [] G2 (rV K))) := by
    intro hk5
    have hs := t_valueOf (l := l) (κ := κ) (d := d + 2) (ln_A x) hxo.2.2.1 he hE hS (by omega) (K := fun r1 G2 => mV l κ true (d + 3) 0 0 m_X13_acts 50 [some (.ref 226), some (.int (nI p)), some (.int (mg_i G 238 p)), some (.int r1), none, none] [] G2 (rV K)) (by
      intro G' g1 g2 g3
      rw [hct G' g2]
      refine t_a50 (s := s) he ham (hE.fm g2) g1 hk (by omega) hp ?_ hxo ek hk10 hi ei (g3.trans h55) (fun _ => ⟨rfl, rfl⟩) (fun z => absurd hk5 z) (fun G3 k1 k2 k3 => h G3 k1 (g2.trans k2) k3)
      rw [rd_m.fr g2 (fun c k q1 q2 => fm_F (by omega))]
      exact hx)
    rw [rm_A hx ek hk5] at hs
    exact hs
  refine e_X13_acts _ ?_
  rw [nI_clamp (by omega), rm_or hx, ek, nI_ltI (by omega) (by omega), nI_eq (by omega) (by omega)]
  refine ⟨hvp, hvp, fun z => ⟨hvp, hvp, hval (by omega)⟩, fun z => ⟨hvp, fun z2 => ?_, fun z2 => ⟨hvp, hvp, hval (by omega)⟩⟩⟩
  rw [hct G fr_.rfl']
  exact t_a50 (s := s) he ham hE hS hk (by omega) hp hx hxo ek hk10 hi ei h55 (fun z3 => absurd z3 (by omega)) (fun _ => rfl) h
theorem ru_up_up {α : Type} (f : Nat → α) (i : Nat) (x y : α) : ru_up (ru_up f i x) i y = ru_up f i y := by
  funext j
  unfold ru_up
  split <;> rfl
theorem ru_up_id {α : Type} (f : Nat → α) (i : Nat) : ru_up f i (f i) = f := by
  funext j
  unfold ru_up
  split
  · rename_i h; rw [h]
  · rfl
/-- the loop's end depends on where it comes to alone -/
theorem ru_loop_come {e : en_T} {s s' : rs_T} (h1 : ru_come e s = ru_come e s') (h2 : ru_is e s = ru_is e s') : ∀ n, ru_loop e n s = ru_loop e n s'
  | 0 => by unfold ru_loop; rw [h1, h2]
  | n + 1 => by unfold ru_loop; rw [h1, h2]
theorem t_runL {l : Launch} {κ : mm_K} {d : Nat} {K : mm_G → Prop} {e : en_T} {a r t fu : Nat} {pl : Nat → Nat} (he : en_ok e r) (ham : en_am e = none) (hfu : fu ≤ 300) (v1 : Int32) : ∀ (n : Nat) (G : mm_G) (s : rs_T) (v2 : Int32), (rs_t s).length + n = fu → mg_i G 254 a = nI fu → me_ G e a r t pl → mt_ G r t pl s → rs_ok e r s → mg_i G 226 55 = -1 →
    (∀ G', mo_ G' r pl (ru_loop e n s).1 → fr_ fm_ G G' → mg_i G' 226 55 = nI (ru_loop e n s).2 → K G') →
    mV l κ true (d + 4) 0 0 m_X13_runs 64 [some (.ref 226), some (.int v1), some (.int v2)] [] G (rV K) := by
  have hr : r < 4 := by have := he.2.2.1; have := he.2.2.2.2.2.1; omega
  have hlen := he.2.1
  intro n
  induction n using Nat.strongRecOn with
  | _ n ihn =>
  -- a line is done
  have hexec : ∀ (G : mm_G) (s : rs_T) (v2 : Int32), (rs_t s).length + n = fu → mg_i G 254 a = nI fu → me_ G e a r t pl → mt_ G r t pl s → rs_ok e r s → mg_i G 226 55 = -1 → ru_a s < (ru_ls e (rs_s s) (rs_d s)).length → ¬ (rs_d s = 0 ∧ (en_lo e).testBit (ru_a s) = true) → ru_is e s = true → (∃ m q, ru_come e s = (rs_c s, rs_k s, rs_o s, rs_t s, rs_d s, rs_s s, m, q)) →
      (∀ G', mo_ G' r pl (ru_loop e n s).1 → fr_ fm_ G G' → mg_i G' 226 55 = nI (ru_loop e n s).2 → K G') →
      mV l κ true (d + 4) 0 0 m_X13_runs 64 [some (.ref 226), some (.int v1), some (.int v2)] [] G (rV K) := by
    intro G s v2 hn hF hE hS hk h55 ha hth his hcome h
    have hd := hk.dle
    have hnl := ru_ls_le he (rs_s s) (rs_d s)
    have h8 := hS.2.2.2.1
    have h10 : mg_i G 261 (rs_d s) = nI (ru_a s) := hS.2.2.2.2.2 (rs_d s) (Nat.le_refl _)
    refine p_X13_runs_64 _ _ ⟨fun z => absurd h55 z, fun _ => ?_⟩
    rw [h8, nI_clamp (by omega)]
    refine ⟨(ki_vp (by omega)).2 (by omega), t_topLines he hE hS hk ?_⟩
    rw [h8, nI_clamp (by omega), h10, nI_ltI (by omega) (by omega)]
    refine ⟨fun _ => ⟨(ki_vp (by omega)).2 (by omega), (ki_vp (by omega)).2 (by omega), ?_⟩, fun z => absurd ha z⟩
    rw [nI_add]
    obtain ⟨m, q, hcome⟩ := hcome
    have hS1 : mt_ (ms_i G 261 (rs_d s) (nI (ru_a s + 1))) r t pl (rs_c s, rs_k s, rs_o s, rs_t s, rs_d s, ru_to s (ru_a s + 1), m, q) := hS.at' _ _ _
    have hf1 : fr_ fm_ G (ms_i G 261 (rs_d s) (nI (ru_a s + 1))) := fr_.rfl'.si rfl
    have hE1 := hE.fm hf1
    have h55' : mg_i (ms_i G 261 (rs_d s) (nI (ru_a s + 1))) 226 55 = -1 := by simp only [mg_i_i, mg_i_l, mg_i_r, mg_i_b, mg_l_i, mg_l_l, mg_l_r, mg_l_b, mg_r_i, mg_r_l, mg_r_r, mg_r_b, false_and, and_false, true_and, and_true, reduceCtorEq, if_true, if_false, reduceIte, Nat.reduceEqDiff, Nat.reduceAdd, Nat.succ_ne_self, ne_eq, not_false_eq_true, not_true_eq_false]; exact h55
    have hF1 : mg_i (ms_i G 261 (rs_d s) (nI (ru_a s + 1))) 254 a = nI fu := by simp only [mg_i_i, mg_i_l, mg_i_r, mg_i_b, mg_l_i, mg_l_l, mg_l_r, mg_l_b, mg_r_i, mg_r_l, mg_r_r, mg_r_b, false_and, and_false, true_and, and_true, reduceCtorEq, if_true, if_false, reduceIte, Nat.reduceEqDiff, Nat.reduceAdd, Nat.succ_ne_self, ne_eq, not_false_eq_true, not_true_eq_false]; exact hF
    generalize ms_i G 261 (rs_d s) (nI (ru_a s + 1)) = G1 at *
    have h8' : mg_i G1 226 58 = nI (rs_d s) := hS1.2.2.2.1
    have h53 : mg_i G1 226 53 = nI (rs_t s).length := hS1.1.2.1
    have h60 : mg_i G1 260 (rs_d s) = if rs_d s = 0 then -1 else nI (rs_s s (rs_d s)).1 := by
      have := hS1.2.2.2.2.1 (rs_d s) (Nat.le_refl _)
      rw [this]
      show (if rs_d s = 0 then (-1 : Int32) else nI (ru_to s (ru_a s + 1) (rs_d s)).1) = _
      rw [ru_to_1]
    have hb := (mt_top he hS hk).2.2
    have hw1 : mg_i G1 260 (rs_d s) = -1 ↔ rs_d s = 0 := by
      rw [h60]
      split
      · rename_i z; exact ⟨fun _ => z, fun _ => rfl⟩
      · rename_i z
        rw [ki_m1 (by omega)]
        exact ⟨fun y => y.elim, fun y => z y⟩
    refine t_isThere (s := s) (a := a) (r := r) (t := t) (pl := pl) he hE1.2.2.2.2.1 h8' (by omega) hw1 (by omega) ?_
    rw [if_neg hth, hE1.2.1, nI_clamp (by have := hE1.1; omega), h53, hF1, h8', nI_eq (by omega) (by omega), nI_clamp (by omega)]
    refine ⟨fun _ => ⟨(ki_vp (by have := hE1.1; omega)).2 hE1.1, fun z => ?_, fun z => ?_⟩, fun z => absurd z (by decide)⟩
    · -- a step
      obtain ⟨n, rfl⟩ : ∃ m, n = m + 1 := ⟨n - 1, by omega⟩
      rw [nI_add, nI_clamp (by omega)]
      have hlt := ru_come_lt his
      have hko := ru_come_ok he hk
      have hpre := ru_pre_ok hko hlt
      have hxo := ln_ok_at he hko hlt
      rw [hcome] at hpre hko hlt hxo
      have hgo : ∀ v, v = nI (mo_code r pl (ru_tr s)) → mC l κ true (d + 3) 0 0 m_X13_topLine [.ref 226, .int (nI (ru_a s))] (ms_i (ms_i G1 259 (rs_t s).length v) 226 53 (nI ((rs_t s).length + 1))) (rI (fun r5 G6 => mC l κ true (d + 3) 0 0 m_X13_acts [.ref 226, .int r5] G6 (rV (fun G8 => mV l κ true (d + 4) 0 0 m_X13_runs 64 [some (.ref 226), some (.int v1), some (.int (nI (ru_a s)))] [] G8 (rV K))))) := by
        intro v hv
        have hf2 : fr_ fm_ G (ms_i (ms_i G1 259 (rs_t s).length v) 226 53 (nI ((rs_t s).length + 1))) := (hf1.si rfl).si rfl
        have hE2 := hE.fm hf2
        have hS2 : mt_ (ms_i (ms_i G1 259 (rs_t s).length v) 226 53 (nI ((rs_t s).length + 1))) r t pl (ru_pre (rs_c s, rs_k s, rs_o s, rs_t s, rs_d s, rs_s s, m, q)) := by
          obtain ⟨⟨h1, h2, h3, h4, h5⟩, h6, h7, h8, h9, h10⟩ := hS1
          refine ⟨⟨?_, ?_, ?_, ?_, ?_⟩, ?_, ?_, ?_, ?_, ?_⟩ <;> try simp only [mg_i_i, mg_i_l, mg_i_r, mg_i_b, mg_l_i, mg_l_l, mg_l_r, mg_l_b, mg_r_i, mg_r_l, mg_r_r, mg_r_b, false_and, and_false, true_and, and_true, reduceCtorEq, if_true, if_false, reduceIte, Nat.reduceEqDiff, Nat.reduceAdd, Nat.succ_ne_self, ne_eq, not_false_eq_true, not_true_eq_false] <;> try assumption
          · show _ = nI (rs_t s ++ [ru_tr s]).length
            rw [ld_len]
          · intro j hj
            have hj : j < (rs_t s ++ [ru_tr s]).length := hj
            rw [ld_len] at hj
            show (if j = (rs_t s).length then v else mg_i G1 259 j) = nI (mo_code r pl ((rs_t s ++ [ru_tr s]).getD j (0, 0)))
            split
            · rename_i cj
              rw [cj, ld_r, hv]
            · rw [ld_l _ _ (by omega)]
              exact h5 j (show j < (rs_t s).length by omega)
        have h55'' : mg_i (ms_i (ms_i G1 259 (rs_t s).length v) 226 53 (nI ((rs_t s).length + 1))) 226 55 = -1 := by simp only [mg_i_i, mg_i_l, mg_i_r, mg_i_b, mg_l_i, mg_l_l, mg_l_r, mg_l_b, mg_r_i, mg_r_l, mg_r_r, mg_r_b, false_and, and_false, true_and, and_true, reduceCtorEq, if_true, if_false, reduceIte, Nat.reduceEqDiff, Nat.reduceAdd, Nat.succ_ne_self, ne_eq, not_false_eq_true, not_true_eq_false]; exact h55'
        have hlen2 : ru_ls e (rs_s (ru_pre (rs_c s, rs_k s, rs_o s, rs_t s, rs_d s, rs_s s, m, q))) (rs_d (ru_pre (rs_c s, rs_k s, rs_o s, rs_t s, rs_d s, rs_s s, m, q))) = ru_ls e (rs_s s) (rs_d s) := ru_to_ls
        refine t_topLine he hE2 hS2 hpre.weak (by rw [hlen2]; exact ha) (fun p hp1 hp2 => ?_)
        rw [hlen2] at hp2
        refine t_acts (x := ru_top e s) he ham hE2 hS2 hpre (by have := hpre.2.2.2.2.1; have e1 : (rs_t (ru_pre (rs_c s, rs_k s, rs_o s, rs_t s, rs_d s, rs_s s, m, q))).length = (rs_t s).length + 1 := ld_len _ _; omega) hp1 hp2 ?_ h55'' ?_
        · show ln_ok (ru_to s (ru_a s + 1) (rs_d s)).1 (ru_top e s)
          rw [ru_to_1]
          exact hxo
        · intro G8 k1 k2 k3
          have hf8 := hf2.trans k2
          have hL : ru_loop e (n + 1) s = (if (ru_do e (ru_top e s) (ru_pre (rs_c s, rs_k s, rs_o s, rs_t s, rs_d s, rs_s s, m, q))).2 = 0 then ru_loop e n (ru_do e (ru_top e s) (ru_pre (rs_c s, rs_k s, rs_o s, rs_t s, rs_d s, rs_s s, m, q))).1 else ((ru_do e (ru_top e s) (ru_pre (rs_c s, rs_k s, rs_o s, rs_t s, rs_d s, rs_s s, m, q))).1, (ru_do e (ru_top e s) (ru_pre (rs_c s, rs_k s, rs_o s, rs_t s, rs_d s, rs_s s, m, q))).2 - 1)) := by
            show (if _ then _ else _) = _
            rw [if_pos his, hcome]
            rfl
          rw [hL] at h
          by_cases c0 : (ru_do e (ru_top e s) (ru_pre (rs_c s, rs_k s, rs_o s, rs_t s, rs_d s, rs_s s, m, q))).2 = 0
          · rw [if_pos c0] at h
            refine ihn n (Nat.lt_succ_self n) G8 _ _ ?_ (by rw [hf8.i _ _ (fm_F (by omega))]; exact hF) (hE.fm hf8) k1 (ru_do_ok hpre hr ?_) (k3.1 c0) (fun G' j1 j2 j3 => h G' j1 (hf8.trans j2) j3)
            · rw [rs_t_do]
              show (rs_t s ++ [_]).length + n = fu
              rw [ld_len]
              omega
            · show ln_ok (ru_to s (ru_a s + 1) (rs_d s)).1 (ru_top e s)
              rw [ru_to_1]
              exact hxo
          · rw [if_neg c0] at h
            refine p_X13_runs_64 _ _ ⟨fun _ => h G8 k1.1 hf8 (k3.2 c0), fun z => ?_⟩
            rw [k3.2 c0] at z
            have hb5 : (ru_do e (ru_top e s) (ru_pre (rs_c s, rs_k s, rs_o s, rs_t s, rs_d s, rs_s s, m, q))).2 < 2 ^ 31 := by
              unfold ru_do
              split
              · split
                · show 4 < _; decide
                · split
                  · show 5 < _; decide
                  · show 0 < _; decide
              · split
                · show 0 < _; decide
                · split
                  · split
                    · show 0 < _; decide
                    · show 0 < _; decide
                  · split
                    · show 0 < _; decide
                    · split
                      · show 0 < _; decide
                      · split
                        · show 0 < _; decide
                        · split
                          · show 3 < _; decide
                          · show 0 < _; decide
            rw [ki_m1 (by omega)] at z
            exact z.elim
      refine ⟨(ki_vp (by omega)).2 (by omega), fun z2 => ?_, fun z2 => ?_⟩
      · have c0 : rs_d s ≠ 0 := fun c0 => z2 (hw1.2 c0)
        rw [h60, if_neg c0, ki_mul, nI_add]
        refine ⟨(ki_vp (by omega)).2 (by omega), (ki_vp (by omega)).2 (by omega), hgo _ ?_⟩
        unfold mo_code ru_tr
        simp only [if_neg c0]
        rw [if_neg (Nat.succ_ne_zero _)]
        rfl
      · have c0 := hw1.1 z2
        have ha0 : ru_a s < (en_ls e).length := by rw [c0, ru_ls_0] at ha; exact ha
        rw [hE1.2.2.2.1, nI_clamp (by omega), hE1.2.2.2.2.2.2.1 _ ha0, ki_mul, nI_add]
        refine ⟨(ki_vp (by omega)).2 (by omega), (ki_vp (by omega)).2 (by omega), hgo _ ?_⟩
        unfold mo_code ru_tr
        simp only [if_pos c0]
        rfl
    · -- out of fuel
      obtain rfl : n = 0 := by omega
      have hL : ru_loop e 0 s = (ru_come e s, 1) := by unfold ru_loop; rw [if_pos his]
      rw [hL, hcome] at h
      refine p_X13_runs_64 _ _ ⟨fun _ => h _ (hS1.stop (nI 1)).1 (hf1.si rfl) (by simp only [mg_i_i, mg_i_l, mg_i_r, mg_i_b, mg_l_i, mg_l_l, mg_l_r, mg_l_b, mg_r_i, mg_r_l, mg_r_r, mg_r_b, false_and, and_false, true_and, and_true, reduceCtorEq, if_true, if_false, reduceIte, Nat.reduceEqDiff, Nat.reduceAdd, Nat.succ_ne_self, ne_eq, not_false_eq_true, not_true_eq_false]), fun z2 => ?_⟩
      simp only [mg_i_i, mg_i_l, mg_i_r, mg_i_b, mg_l_i, mg_l_l, mg_l_r, mg_l_b, mg_r_i, mg_r_l, mg_r_r, mg_r_b, false_and, and_false, true_and, and_true, reduceCtorEq, if_true, if_false, reduceIte, Nat.reduceEqDiff, Nat.reduceAdd, Nat.succ_ne_self, ne_eq, not_false_eq_true, not_true_eq_false] at z2
      exact absurd z2 (by decide)
  intro G s
  obtain ⟨cc, kk, oo, tt, dd, sk, mm, qq⟩ := s
  induction dd generalizing G with
  | zero =>
    intro v2 hn hF hE hS hk h55 h
    suffices H : ∀ (m : Nat) (G : mm_G) (sk : Nat → Nat × Nat) (v2 : Int32), (sk 0).2 + m = (en_ls e).length → mg_i G 254 a = nI fu → me_ G e a r t pl → mt_ G r t pl (cc, kk, oo, tt, 0, sk, mm, qq) → rs_ok e r (cc, kk, oo, tt, 0, sk, mm, qq) → mg_i G 226 55 = -1 →
        (∀ G', mo_ G' r pl (ru_loop e n (cc, kk, oo, tt, 0, sk, mm, qq)).1 → fr_ fm_ G G' → mg_i G' 226 55 = nI (ru_loop e n (cc, kk, oo, tt, 0, sk, mm, qq)).2 → K G') →
        mV l κ true (d + 4) 0 0 m_X13_runs 64 [some (.ref 226), some (.int v1), some (.int v2)] [] G (rV K) by
      have h0 : (sk 0).2 ≤ (en_ls e).length := by have := hk.2.2.1 0 (Nat.le_refl 0); rw [ru_ls_0] at this; exact this
      exact H ((en_ls e).length - (sk 0).2) G sk v2 (by omega) hF hE hS hk h55 h
    have hn : tt.length + n = fu := hn
    clear h h55 hk hS hE hF
    intro m
    induction m with
    | zero =>
      intro G sk v2 hm hF hE hS hk h55 h
      have hlow : ru_low e (cc, kk, oo, tt, 0, sk, mm, qq) = (sk 0).2 := by
        show ru_skip _ ((en_ls e).length - (sk 0).2) (sk 0).2 = _
        rw [show (en_ls e).length - (sk 0).2 = 0 by omega]
        rfl
      have his : ru_is e (cc, kk, oo, tt, 0, sk, mm, qq) = false := by
        unfold ru_is
        rw [hlow]
        simp [rs_d, ru_dp]
        omega
      have hL : ru_loop e n (cc, kk, oo, tt, 0, sk, mm, qq) = (ru_come e (cc, kk, oo, tt, 0, sk, mm, qq), 0) := by
        cases n with
        | zero => unfold ru_loop; rw [his]; rfl
        | succ n => unfold ru_loop; rw [his]; rfl
      have hC : ru_come e (cc, kk, oo, tt, 0, sk, mm, qq) = (cc, kk, oo, tt, 0, ru_up sk 0 ((sk 0).1, (sk 0).2), mm, qq) := by
        unfold ru_come
        rw [hlow, if_pos (show ru_dp e (rs_s (cc, kk, oo, tt, 0, sk, mm, qq)) (rs_d (cc, kk, oo, tt, 0, sk, mm, qq)) = 0 from rfl), if_neg (by omega)]
        rfl
      rw [hL, hC] at h
      have h8 : mg_i G 226 58 = nI 0 := hS.2.2.2.1
      have h10 : mg_i G 261 0 = nI (sk 0).2 := hS.2.2.2.2.2 0 (Nat.le_refl _)
      have e0 : (nI 0).toNatClampNeg = 0 := nI_clamp (by omega)
      refine p_X13_runs_64 _ _ ⟨fun z => absurd h55 z, fun _ => ?_⟩
      rw [h8, e0]
      refine ⟨(ki_vp (by omega)).2 (by omega), t_topLines he hE hS hk ?_⟩
      rw [h8, h10]
      show ((nI (sk 0).2 < nI (ru_ls e sk 0).length → _) ∧ _)
      rw [ru_ls_0, nI_ltI (by omega) (by omega)]
      refine ⟨fun z => absurd z (by omega), fun _ => ⟨fun z => absurd rfl z, fun _ => ?_⟩⟩
      refine p_X13_runs_64 _ _ ⟨fun _ => h _ (hS.stop (nI 0)).1 (fr_.rfl'.si rfl) (by simp only [mg_i_i, mg_i_l, mg_i_r, mg_i_b, mg_l_i, mg_l_l, mg_l_r, mg_l_b, mg_r_i, mg_r_l, mg_r_r, mg_r_b, false_and, and_false, true_and, and_true, reduceCtorEq, if_true, if_false, reduceIte, Nat.reduceEqDiff, Nat.reduceAdd, Nat.succ_ne_self, ne_eq, not_false_eq_true, not_true_eq_false]), fun z2 => ?_⟩
      simp only [mg_i_i, mg_i_l, mg_i_r, mg_i_b, mg_l_i, mg_l_l, mg_l_r, mg_l_b, mg_r_i, mg_r_l, mg_r_r, mg_r_b, false_and, and_false, true_and, and_true, reduceCtorEq, if_true, if_false, reduceIte, Nat.reduceEqDiff, Nat.reduceAdd, Nat.succ_ne_self, ne_eq, not_false_eq_true, not_true_eq_false] at z2
      exact absurd z2 (by decide)
    | succ m ih =>
      intro G sk v2 hm hF hE hS hk h55 h
      have hsk : ru_low e (cc, kk, oo, tt, 0, sk, mm, qq) = ru_skip (en_lo e) (m + 1) (sk 0).2 := by
        show ru_skip _ ((en_ls e).length - (sk 0).2) (sk 0).2 = _
        rw [show (en_ls e).length - (sk 0).2 = m + 1 by omega]
      by_cases cb : (en_lo e).testBit (sk 0).2 = true
      · have e1 : ru_low e (cc, kk, oo, tt, 0, ru_up sk 0 ((sk 0).1, (sk 0).2 + 1), mm, qq) = ru_low e (cc, kk, oo, tt, 0, sk, mm, qq) := by
          rw [hsk, ru_skip_step cb]
          show ru_skip _ ((en_ls e).length - (ru_up sk 0 ((sk 0).1, (sk 0).2 + 1) 0).2) (ru_up sk 0 ((sk 0).1, (sk 0).2 + 1) 0).2 = _
          rw [ru_up_eq]
          show ru_skip _ ((en_ls e).length - ((sk 0).2 + 1)) ((sk 0).2 + 1) = _
          rw [show (en_ls e).length - ((sk 0).2 + 1) = m by omega]
        have e2 : ru_come e (cc, kk, oo, tt, 0, sk, mm, qq) = ru_come e (cc, kk, oo, tt, 0, ru_up sk 0 ((sk 0).1, (sk 0).2 + 1), mm, qq) := by
          unfold ru_come
          rw [e1]
          show (if 0 = 0 then (if _ then (_, _, _, _, _, ru_up sk 0 _, _, _) else (_, _, _, _, _, ru_up sk 0 _, _, _)) else _) = (if 0 = 0 then (if _ then (_, _, _, _, _, ru_up (ru_up sk 0 ((sk 0).1, (sk 0).2 + 1)) 0 ((ru_up sk 0 ((sk 0).1, (sk 0).2 + 1) 0).1, _), _, _) else (_, _, _, _, _, ru_up (ru_up sk 0 ((sk 0).1, (sk 0).2 + 1)) 0 ((ru_up sk 0 ((sk 0).1, (sk 0).2 + 1) 0).1, _), _, _)) else _)
          rw [if_pos rfl, if_pos rfl, ru_up_up, ru_up_eq]
          rfl
        have e3 : ru_is e (cc, kk, oo, tt, 0, sk, mm, qq) = ru_is e (cc, kk, oo, tt, 0, ru_up sk 0 ((sk 0).1, (sk 0).2 + 1), mm, qq) := by
          unfold ru_is
          rw [e1]
          rfl
        rw [ru_loop_come e2 e3] at h
        have h8 : mg_i G 226 58 = nI 0 := hS.2.2.2.1
        have h10 : mg_i G 261 0 = nI (sk 0).2 := hS.2.2.2.2.2 0 (Nat.le_refl _)
        have h9 : mg_i G 260 0 = -1 := hS.2.2.2.2.1 0 (Nat.le_refl _)
        have e0 : (nI 0).toNatClampNeg = 0 := nI_clamp (by omega)
        refine p_X13_runs_64 _ _ ⟨fun z => absurd h55 z, fun _ => ?_⟩
        rw [h8, e0]
        refine ⟨(ki_vp (by omega)).2 (by omega), t_topLines he hE hS hk ?_⟩
        rw [h8, e0, h10]
        show ((nI (sk 0).2 < nI (ru_ls e sk 0).length → _) ∧ _)
        rw [ru_ls_0, nI_ltI (by omega) (by omega)]
        refine ⟨fun _ => ⟨(ki_vp (by omega)).2 (by omega), (ki_vp (by omega)).2 (by omega), ?_⟩, fun z => absurd (show nI (sk 0).2 < nI (ru_ls e sk 0).length by rw [ru_ls_0]; exact nI_lt (by omega) (by omega)) z⟩
        rw [nI_add]
        have hS1 : mt_ (ms_i G 261 0 (nI ((sk 0).2 + 1))) r t pl (cc, kk, oo, tt, 0, ru_up sk 0 ((sk 0).1, (sk 0).2 + 1), mm, qq) := hS.at' _ _ _
        have hf1 : fr_ fm_ G (ms_i G 261 0 (nI ((sk 0).2 + 1))) := fr_.rfl'.si rfl
        refine t_isThere (s := (cc, kk, oo, tt, 0, sk, mm, qq)) (a := a) (r := r) (t := t) (pl := pl) he (hE.fm hf1).2.2.2.2.1 (by simp only [mg_i_i, mg_i_l, mg_i_r, mg_i_b, mg_l_i, mg_l_l, mg_l_r, mg_l_b, mg_r_i, mg_r_l, mg_r_r, mg_r_b, false_and, and_false, true_and, and_true, reduceCtorEq, if_true, if_false, reduceIte, Nat.reduceEqDiff, Nat.reduceAdd, Nat.succ_ne_self, ne_eq, not_false_eq_true, not_true_eq_false]; exact h8) (show 0 < 4 by decide) ⟨fun _ => rfl, fun _ => by show mg_i (ms_i G 261 0 (nI ((sk 0).2 + 1))) 260 0 = -1; simp only [mg_i_i, mg_i_l, mg_i_r, mg_i_b, mg_l_i, mg_l_l, mg_l_r, mg_l_b, mg_r_i, mg_r_l, mg_r_r, mg_r_b, false_and, and_false, true_and, and_true, reduceCtorEq, if_true, if_false, reduceIte, Nat.reduceEqDiff, Nat.reduceAdd, Nat.succ_ne_self, ne_eq, not_false_eq_true, not_true_eq_false]; exact h9⟩ (by omega) ?_
        rw [if_pos ⟨rfl, cb⟩]
        refine ⟨fun z => absurd rfl z, fun _ => ?_⟩
        refine ih _ _ _ (by rw [ru_up_eq]; show (sk 0).2 + 1 + m = _; omega) (by simp only [mg_i_i, mg_i_l, mg_i_r, mg_i_b, mg_l_i, mg_l_l, mg_l_r, mg_l_b, mg_r_i, mg_r_l, mg_r_r, mg_r_b, false_and, and_false, true_and, and_true, reduceCtorEq, if_true, if_false, reduceIte, Nat.reduceEqDiff, Nat.reduceAdd, Nat.succ_ne_self, ne_eq, not_false_eq_true, not_true_eq_false]; exact hF) (hE.fm hf1) hS1 ?_ (by simp only [mg_i_i, mg_i_l, mg_i_r, mg_i_b, mg_l_i, mg_l_l, mg_l_r, mg_l_b, mg_r_i, mg_r_l, mg_r_r, mg_r_b, false_and, and_false, true_and, and_true, reduceCtorEq, if_true, if_false, reduceIte, Nat.reduceEqDiff, Nat.reduceAdd, Nat.succ_ne_self, ne_eq, not_false_eq_true, not_true_eq_false]; exact h55) (fun G' k1 k2 k3 => h G' k1 (hf1.trans k2) k3)
        have ht := hk.to (a := (sk 0).2 + 1) (by show _ ≤ (ru_ls e sk 0).length; rw [ru_ls_0]; omega)
        obtain ⟨q1, q2, q3, q4, q5, q6, q7⟩ := hk
        exact ⟨ht.1, ht.2.1, ht.2.2, q4, q5, q6, q7⟩
      · have hlow : ru_low e (cc, kk, oo, tt, 0, sk, mm, qq) = (sk 0).2 := by
          rw [hsk, ru_skip_end (by simpa using cb)]
        refine hexec G (cc, kk, oo, tt, 0, sk, mm, qq) v2 hn hF hE hS hk h55 ?_ (fun z => cb z.2) ?_ ?_ h
        · show (sk 0).2 < (ru_ls e sk 0).length
          rw [ru_ls_0]; omega
        · unfold ru_is
          rw [hlow]
          exact decide_eq_true (Or.inr (by omega))
        · refine ⟨mm ||| 2 ^ (sk 0).2, max qq ((sk 0).2 + 1), ?_⟩
          unfold ru_come
          rw [hlow, if_pos (show ru_dp e (rs_s (cc, kk, oo, tt, 0, sk, mm, qq)) (rs_d (cc, kk, oo, tt, 0, sk, mm, qq)) = 0 from rfl), if_pos (by omega)]
          show (cc, kk, oo, tt, 0, ru_up sk 0 ((sk 0).1, (sk 0).2), _, _) = _
          rw [show ((sk 0).1, (sk 0).2) = sk 0 from rfl, ru_up_id]
          rfl
  | succ dd ih =>
    intro v2 hn hF hE hS hk h55 h
    have hle : (sk (dd + 1)).2 ≤ (ru_ls e sk (dd + 1)).length := hk.2.2.1 (dd + 1) (Nat.le_refl _)
    have hd : dd + 1 ≤ r := hk.dle
    have hnl := ru_ls_le he sk (dd + 1)
    by_cases ca : (sk (dd + 1)).2 < (ru_ls e sk (dd + 1)).length
    · have e1 : ru_dp e sk (dd + 1) = dd + 1 := by
        show (if _ then _ else _) = _
        rw [if_pos ca]
      refine hexec G _ v2 hn hF hE hS hk h55 ca (fun z => Nat.succ_ne_zero _ z.1) ?_ ⟨mm, qq, ?_⟩ h
      · unfold ru_is
        exact decide_eq_true (Or.inl (by show ru_dp e sk (dd + 1) ≠ 0; rw [e1]; exact Nat.succ_ne_zero _))
      · unfold ru_come
        show (if ru_dp e sk (dd + 1) = 0 then _ else (_, _, _, _, ru_dp e sk (dd + 1), _, _, _)) = _
        rw [e1, if_neg (Nat.succ_ne_zero _)]
        rfl
    · have e1 : ru_dp e sk (dd + 1) = ru_dp e sk dd := by
        show (if _ then _ else _) = _
        rw [if_neg ca]
      have e2 : ru_come e (cc, kk, oo, tt, dd + 1, sk, mm, qq) = ru_come e (cc, kk, oo, tt, dd, sk, mm, qq) := by
        unfold ru_come
        simp only [rs_c, rs_k, rs_o, rs_t, rs_d, rs_s, rs_m, rs_q, e1]
        rfl
      have e3 : ru_is e (cc, kk, oo, tt, dd + 1, sk, mm, qq) = ru_is e (cc, kk, oo, tt, dd, sk, mm, qq) := by
        unfold ru_is
        simp only [rs_c, rs_k, rs_o, rs_t, rs_d, rs_s, rs_m, rs_q, e1]
        rfl
      rw [ru_loop_come e2 e3] at h
      have h8 : mg_i G 226 58 = nI (dd + 1) := hS.2.2.2.1
      have h10 : mg_i G 261 (dd + 1) = nI (sk (dd + 1)).2 := hS.2.2.2.2.2 (dd + 1) (Nat.le_refl _)
      refine p_X13_runs_64 _ _ ⟨fun z => absurd h55 z, fun _ => ?_⟩
      rw [h8, nI_clamp (by omega)]
      refine ⟨(ki_vp (by omega)).2 (by omega), t_topLines he hE hS hk ?_⟩
      rw [h8, h10]
      show ((nI (sk (dd + 1)).2 < nI (ru_ls e sk (dd + 1)).length → _) ∧ _)
      rw [nI_ltI (by omega) (by omega), ki_0, nI_eq (by omega) (by omega)]
      refine ⟨fun z => absurd z ca, fun _ => ⟨fun _ => ?_, fun z => absurd z (Nat.succ_ne_zero _)⟩⟩
      rw [ki_sub (by omega)]
      show mV l κ true (d + 4) 0 0 m_X13_runs 64 _ [] (ms_i G 226 58 (nI dd)) (rV K)
      have hf1 : fr_ fm_ G (ms_i G 226 58 (nI dd)) := fr_.rfl'.si rfl
      refine ih _ _ hn (by simp only [mg_i_i, mg_i_l, mg_i_r, mg_i_b, mg_l_i, mg_l_l, mg_l_r, mg_l_b, mg_r_i, mg_r_l, mg_r_r, mg_r_b, false_and, and_false, true_and, and_true, reduceCtorEq, if_true, if_false, reduceIte, Nat.reduceEqDiff, Nat.reduceAdd, Nat.succ_ne_self, ne_eq, not_false_eq_true, not_true_eq_false]; exact hF) (hE.fm hf1) ?_ ?_ (by simp only [mg_i_i, mg_i_l, mg_i_r, mg_i_b, mg_l_i, mg_l_l, mg_l_r, mg_l_b, mg_r_i, mg_r_l, mg_r_r, mg_r_b, false_and, and_false, true_and, and_true, reduceCtorEq, if_true, if_false, reduceIte, Nat.reduceEqDiff, Nat.reduceAdd, Nat.succ_ne_self, ne_eq, not_false_eq_true, not_true_eq_false]; exact h55) (fun G' k1 k2 k3 => h G' k1 (hf1.trans k2) k3)
      · obtain ⟨⟨h1, h2, h3, h4, h5⟩, h6, h7, h8, h9, h10⟩ := hS
        refine ⟨⟨?_, ?_, ?_, ?_, ?_⟩, ?_, ?_, ?_, ?_, ?_⟩ <;> try simp only [mg_i_i, mg_i_l, mg_i_r, mg_i_b, mg_l_i, mg_l_l, mg_l_r, mg_l_b, mg_r_i, mg_r_l, mg_r_r, mg_r_b, false_and, and_false, true_and, and_true, reduceCtorEq, if_true, if_false, reduceIte, Nat.reduceEqDiff, Nat.reduceAdd, Nat.succ_ne_self, ne_eq, not_false_eq_true, not_true_eq_false] <;> try assumption
        · rfl
        · exact fun j hj => h9 j (Nat.le_succ_of_le hj)
        · exact fun j hj => h10 j (Nat.le_succ_of_le hj)
      · obtain ⟨k1, k2, k3, k4, k5, k6, k7⟩ := hk
        exact ⟨k1, fun j hj => k2 j (Nat.lt_succ_of_lt hj), fun j hj => k3 j (Nat.le_succ_of_le hj), k4, k5, k6, k7⟩
/-- a run of the reference -/
theorem t_runs {l : Launch} {κ : mm_K} {d : Nat} {G : mm_G} {K : mm_G → Prop} {e : en_T} {a r t fu : Nat} {pl : Nat → Nat} (he : en_ok e r) (ham : en_am e = none) (hfu : fu ≤ 300) (hF : mg_i G 254 a = nI fu) (hE : me_ G e a r t pl)
    (h : ∀ G', mo_ G' r pl (ru_run e r fu).1 → fr_ fm_ G G' → mg_i G' 226 55 = nI (ru_run e r fu).2 → K G') : mC l κ true (d + 4) 0 0 m_X13_runs [.ref 226, .int (nI t)] G (rV K) := by
  refine e_X13_runs _ ?_
  suffices H : ∀ n i G1, i + n = 4 → (∀ j, j < i → mg_i G1 257 j = nI 0) → fr_ fm_ G G1 → mV l κ true (d + 4) 0 0 m_X13_runs 2 [some (.ref 226), some (.int (nI t)), some (.int (nI i))] [] G1 (rV K) from
    H 4 0 _ rfl (fun j hj => absurd hj (Nat.not_lt_zero j)) fr_.rfl'
  intro n
  induction n with
  | zero =>
    intro i G1 hi hj hf
    have e0 : (nI 0).toNatClampNeg = 0 := nI_clamp (by omega)
    refine p_X13_runs_2 _ _ ⟨fun _ => ⟨(ki_vp (by omega)).2 (by omega), (ki_vp (by omega)).2 (by omega), ?_⟩, fun z => absurd (nI_le (by omega) (by omega)) z⟩
    rw [e0]
    have hf2 := (((((((hf.si (o := 226) (k := 49) (v := nI 0) rfl).si (o := 226) (k := 50) (v := nI t) rfl).si (o := 226) (k := 51) (v := nI 0) rfl).si (o := 226) (k := 53) (v := nI 0) rfl).si (o := 226) (k := 55) (v := -1) rfl).si (o := 226) (k := 58) (v := nI 0) rfl).si (o := 260) (k := 0) (v := -1) rfl).si (o := 261) (k := 0) (v := nI 0) rfl
    refine t_runL he ham hfu _ fu _ (ru_init r) _ (Nat.zero_add _) (by rw [hf2.i _ _ (fm_F (by omega))]; exact hF) (hE.fm hf2) ?_ ?_ (by simp only [mg_i_i, mg_i_l, mg_i_r, mg_i_b, mg_l_i, mg_l_l, mg_l_r, mg_l_b, mg_r_i, mg_r_l, mg_r_r, mg_r_b, false_and, and_false, true_and, and_true, reduceCtorEq, if_true, if_false, reduceIte, Nat.reduceEqDiff, Nat.reduceAdd, Nat.succ_ne_self, ne_eq, not_false_eq_true, not_true_eq_false]) (fun G' k1 k2 k3 => h G' k1 (hf2.trans k2) k3)
    · refine ⟨⟨?_, ?_, ?_, ?_, ?_⟩, ?_, ?_, ?_, ?_, ?_⟩ <;> try simp only [mg_i_i, mg_i_l, mg_i_r, mg_i_b, mg_l_i, mg_l_l, mg_l_r, mg_l_b, mg_r_i, mg_r_l, mg_r_r, mg_r_b, false_and, and_false, true_and, and_true, reduceCtorEq, if_true, if_false, reduceIte, Nat.reduceEqDiff, Nat.reduceAdd, Nat.succ_ne_self, ne_eq, not_false_eq_true, not_true_eq_false] <;> try assumption
      · rfl
      · rfl
      · intro j hj; exact absurd hj (Nat.not_lt_zero j)
      · exact fun j hj4 => hj j (by omega)
      · intro j hj; exact absurd hj (Nat.not_lt_zero j)
      · rfl
      · rfl
      · intro j hj
        obtain rfl : j = 0 := Nat.le_zero.mp hj
        rfl
      · intro j hj
        obtain rfl : j = 0 := Nat.le_zero.mp hj
        rfl
    · exact ⟨rfl, fun j hj => absurd hj (Nat.not_lt_zero j), fun j hj => Nat.zero_le _, Nat.zero_le _, Nat.zero_le _, (show 0 < 65536 by decide), Nat.zero_le _⟩
  | succ n ih =>
    intro i G1 hi hj hf
    refine p_X13_runs_2 _ _ ⟨fun z => absurd z (nI_ge (by omega) (by omega)), fun _ => ⟨(ki_vp (by omega)).2 (by omega), ?_⟩⟩
    rw [nI_add, nI_clamp (by omega)]
    refine ih (i + 1) _ (by omega) (fun j hj2 => ?_) (hf.si rfl)
    simp only [mg_i_i, mg_i_l, mg_i_r, mg_i_b, mg_l_i, mg_l_l, mg_l_r, mg_l_b, mg_r_i, mg_r_l, mg_r_r, mg_r_b, false_and, and_false, true_and, and_true, reduceCtorEq, if_true, if_false, reduceIte, Nat.reduceEqDiff, Nat.reduceAdd, Nat.succ_ne_self, ne_eq, not_false_eq_true, not_true_eq_false]
    split
    · rfl
    · exact hj j (by omega)
