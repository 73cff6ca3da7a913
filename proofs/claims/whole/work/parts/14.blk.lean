set_option maxRecDepth 100000 in
set_option maxHeartbeats 4000000 in
theorem e_X2_clear {l : Launch} {κ : mm_K} {d : Nat} {G : mm_G} {K : mm_G → Prop}  (h : mV l κ true d 0 0 m_X2_clear 2 [some (.ref 98), some (.int (nI 0))] [] G (rV K)) : mC l κ true d 0 0 m_X2_clear [.ref 98] G (rV K) := by
  refine mC.of (by decide) (Nat.le_of_ble_eq_true rfl) [some (.ref 98), none] rfl ?_
  refine mV_iconst (n := 0) (v := nI 0) (by decide +kernel) (by decide) ?_
  refine mV_istore_n (k := 1) (ls' := [some (.ref 98), some (.int (nI 0))]) (by decide +kernel) (Nat.le_of_ble_eq_true rfl) rfl rfl ?_
  exact h
set_option maxRecDepth 100000 in
set_option maxHeartbeats 4000000 in
theorem p_X2_clear_2 {l : Launch} {κ : mm_K} {d : Nat} {G : mm_G} {K : mm_G → Prop} (v1 : Int32) (h : (((nI 4) ≤ v1 → K G) ∧ (¬ (nI 4) ≤ v1 → vp_in v1 4 ∧ mV l κ true d 0 0 m_X2_clear 2 [some (.ref 98), some (.int (v1 + (nI 1)))] [] (ms_i G 101 v1.toNatClampNeg (vp_nar .boolean (nI 0))) (rV K)))) : mV l κ true d 0 0 m_X2_clear 2 [some (.ref 98), some (.int v1)] [] G (rV K) := by
  refine mV_iload_n (k := 1) (by decide +kernel) rfl ?_
  refine mV_iconst (n := 4) (v := nI 4) (by decide +kernel) (by decide) ?_
  refine mV_icmp_ge (off := 16) (tgt := 20) (by decide +kernel) (by decide) (fun hc => ?_) (fun hc => ?_)
  · replace h := h.1 hc
    exact mV_vret (by decide +kernel) rfl h
  · replace h := h.2 hc
    refine mV_aload_n (k := 0) (by decide +kernel) rfl ?_
    refine mV_gfr (r := some 101) (by decide +kernel) fk_2_21 sh_98 (mm_rrs st_98_5) rfl ?_
    refine mV_iload_n (k := 1) (by decide +kernel) rfl ?_
    refine mV_iconst (n := 0) (v := nI 0) (by decide +kernel) (by decide) ?_
    refine mV_zas (by decide +kernel) sh_101 h.1 ?_
    replace h := h.2
    refine mV_iincc (i := 1) (n := 1) (c := nI 1) (ls' := [some (.ref 98), some (.int (v1 + (nI 1)))]) (by decide +kernel) (by decide) rfl (Nat.le_of_ble_eq_true rfl) rfl rfl ?_
    refine mV_goto (off := -15) (tgt := 2) (by decide +kernel) (by decide) ?_
    exact h
set_option maxRecDepth 100000 in
set_option maxHeartbeats 4000000 in
theorem e_X2_know {l : Launch} {κ : mm_K} {d : Nat} {G : mm_G} {K : mm_G → Prop} (a1 : Int32) (h : vp_in a1 4 ∧ (((mg_i G 101 a1.toNatClampNeg) = 0 → vp_in a1 4 ∧ mV l κ true (d + 3) 0 0 m_X2_know 19 [some (.ref 98), some (.int a1), some (.int (nI 0))] [] (ms_i G 100 a1.toNatClampNeg (nI 0)) (rV K)) ∧ (¬ (mg_i G 101 a1.toNatClampNeg) = 0 → K G))) : mC l κ true (d + 3) 0 0 m_X2_know [.ref 98, .int a1] G (rV K) := by
  refine mC.of (by decide) (Nat.le_of_ble_eq_true rfl) [some (.ref 98), some (.int a1), none] rfl ?_
  refine mV_aload_n (k := 0) (by decide +kernel) rfl ?_
  refine mV_gfr (r := some 101) (by decide +kernel) fk_2_21 sh_98 (mm_rrs st_98_5) rfl ?_
  refine mV_iload_n (k := 1) (by decide +kernel) rfl ?_
  refine mV_zalx (x := mg_i G 101 a1.toNatClampNeg) (by decide +kernel) sh_101 h.1 rfl ?_
  replace h := h.2
  refine mV_if_eq (off := 4) (tgt := 10) (by decide +kernel) (by decide) (fun hc => ?_) (fun hc => ?_)
  · replace h := h.1 hc
    refine mV_aload_n (k := 0) (by decide +kernel) rfl ?_
    refine mV_gfr (r := some 100) (by decide +kernel) fk_2_17 sh_98 (mm_rrs st_98_4) rfl ?_
    refine mV_iload_n (k := 1) (by decide +kernel) rfl ?_
    refine mV_iconst (n := 0) (v := nI 0) (by decide +kernel) (by decide) ?_
    refine mV_ias (by decide +kernel) sh_100 h.1 ?_
    replace h := h.2
    refine mV_iconst (n := 0) (v := nI 0) (by decide +kernel) (by decide) ?_
    refine mV_istore_n (k := 2) (ls' := [some (.ref 98), some (.int a1), some (.int (nI 0))]) (by decide +kernel) (Nat.le_of_ble_eq_true rfl) rfl rfl ?_
    exact h
  · replace h := h.2 hc
    exact mV_vret (by decide +kernel) rfl h
set_option maxRecDepth 100000 in
set_option maxHeartbeats 4000000 in
theorem p_X2_know_19 {l : Launch} {κ : mm_K} {d : Nat} {G : mm_G} {K : mm_G → Prop} (v1 : Int32) (v2 : Int32) (h : (((mg_i G 62 4) ≤ v2 → vp_in v1 4 ∧ K (ms_i G 101 v1.toNatClampNeg (vp_nar .boolean (nI 1)))) ∧ (¬ (mg_i G 62 4) ≤ v2 → vp_in v1 4 ∧ mC l κ true (d + 2) 0 0 m_X3_runs [.ref 91, .ref (54 + 2 * v1.toNatClampNeg), .int (nI 0), .int v2, .null] G (rV (fun G3 => vp_in ((v1 * (nI 8)) + v2) 32 ∧ mC l κ true (d + 2) 0 0 m_X0_copy [.ref (104 + 2 * ((v1 * (nI 8)) + v2).toNatClampNeg), .ref 92] G3 (rV (fun G6 => vp_in v1 4 ∧ vp_in v1 4 ∧ mV l κ true (d + 3) 0 0 m_X2_know 19 [some (.ref 98), some (.int v1), some (.int (v2 + (nI 1)))] [] (ms_i G6 100 v1.toNatClampNeg ((mg_i G6 100 v1.toNatClampNeg) ||| (mg_i G6 91 4))) (rV K)))))))) : mV l κ true (d + 3) 0 0 m_X2_know 19 [some (.ref 98), some (.int v1), some (.int v2)] [] G (rV K) := by
  refine mV_iload_n (k := 2) (by decide +kernel) rfl ?_
  refine mV_aload_n (k := 0) (by decide +kernel) rfl ?_
  refine mV_gfr (r := some 62) (by decide +kernel) fk_2_36 sh_98 (mm_rrs st_98_1) rfl ?_
  refine mV_gfix (x := mg_i G 62 4) (by decide +kernel) fk_2_45 sh_62 rfl ?_
  refine mV_icmp_ge (off := 65) (tgt := 92) (by decide +kernel) (by decide) (fun hc => ?_) (fun hc => ?_)
  · replace h := h.1 hc
    refine mV_aload_n (k := 0) (by decide +kernel) rfl ?_
    refine mV_gfr (r := some 101) (by decide +kernel) fk_2_21 sh_98 (mm_rrs st_98_5) rfl ?_
    refine mV_iload_n (k := 1) (by decide +kernel) rfl ?_
    refine mV_iconst (n := 1) (v := nI 1) (by decide +kernel) (by decide) ?_
    refine mV_zas (by decide +kernel) sh_101 h.1 ?_
    replace h := h.2
    exact mV_vret (by decide +kernel) rfl h
  · replace h := h.2 hc
    refine mV_aload_n (k := 0) (by decide +kernel) rfl ?_
    refine mV_gfr (r := some 91) (by decide +kernel) fk_2_40 sh_98 (mm_rrs st_98_2) rfl ?_
    refine mV_aload_n (k := 0) (by decide +kernel) rfl ?_
    refine mV_gfr (r := some 50) (by decide +kernel) fk_2_32 sh_98 (mm_rrs st_98_0) rfl ?_
    refine mV_gfr (r := some 51) (by decide +kernel) fk_2_51 sh_50 (mm_rrs st_50_0) rfl ?_
    refine mV_iload_n (k := 1) (by decide +kernel) rfl ?_
    have hj1 := h.1
    replace h := h.2
    refine mV_aal (t := 5) (r := some (54 + 2 * v1.toNatClampNeg)) (by decide +kernel) sh_51 (by decide) hj1 (mm_rrs (mm_rs50.2.2.2.2.2.2.2.1 _ (mm_ixlt hj1))) rfl ?_
    refine mV_iconst (n := 0) (v := nI 0) (by decide +kernel) (by decide) ?_
    refine mV_iload_n (k := 2) (by decide +kernel) rfl ?_
    refine mV_null (by decide +kernel) ?_
    refine mV_cV (as := [.ref (54 + 2 * v1.toNatClampNeg), .int (nI 0), .int v2, .null]) (rest := []) (mc1 := 0) (ms1 := 0) (mc := 0) (ms := 0) (by decide +kernel) md_X3_runs lk_2_57 sh_91 rfl rfl rfl (Nat.le_of_ble_eq_true rfl) (mC.mono (mm_contV (fun G3 hK => ?_)) h)
    replace h := hK
    refine mV_aload_n (k := 0) (by decide +kernel) rfl ?_
    refine mV_gfr (r := some 99) (by decide +kernel) fk_2_11 sh_98 (mm_rrs st_98_3) rfl ?_
    refine mV_iload_n (k := 1) (by decide +kernel) rfl ?_
    refine mV_bipush (n := 8) (v := nI 8) (by decide +kernel) (by decide) ?_
    refine mV_imul (by decide +kernel) ?_
    refine mV_iload_n (k := 2) (by decide +kernel) rfl ?_
    refine mV_iadd (by decide +kernel) ?_
    have hj4 := h.1
    replace h := h.2
    refine mV_aal (t := 7) (r := some (104 + 2 * ((v1 * (nI 8)) + v2).toNatClampNeg)) (by decide +kernel) sh_99 (by decide) hj4 (mm_rrs (mm_deed2 _ (mm_ixlt hj4)).2) rfl ?_
    refine mV_aload_n (k := 0) (by decide +kernel) rfl ?_
    refine mV_gfr (r := some 91) (by decide +kernel) fk_2_40 sh_98 (mm_rrs st_98_2) rfl ?_
    refine mV_gfr (r := some 92) (by decide +kernel) fk_2_63 sh_91 (mm_rrs st_91_0) rfl ?_
    refine mV_cV (as := [.ref 92]) (rest := []) (mc1 := 0) (ms1 := 0) (mc := 0) (ms := 0) (by decide +kernel) md_X0_copy lk_2_67 (mm_deedP (mm_deed2 _ (mm_ixlt hj4)).1).1 rfl rfl rfl (Nat.le_of_ble_eq_true rfl) (mC.mono (mm_contV (fun G6 hK => ?_)) h)
    replace h := hK
    refine mV_aload_n (k := 0) (by decide +kernel) rfl ?_
    refine mV_gfr (r := some 100) (by decide +kernel) fk_2_17 sh_98 (mm_rrs st_98_4) rfl ?_
    refine mV_iload_n (k := 1) (by decide +kernel) rfl ?_
    refine mV_dup2 (by decide +kernel) rfl rfl ?_
    refine mV_ialx (x := mg_i G6 100 v1.toNatClampNeg) (by decide +kernel) sh_100 h.1 rfl ?_
    replace h := h.2
    refine mV_aload_n (k := 0) (by decide +kernel) rfl ?_
    refine mV_gfr (r := some 91) (by decide +kernel) fk_2_40 sh_98 (mm_rrs st_98_2) rfl ?_
    refine mV_gfix (x := mg_i G6 91 4) (by decide +kernel) fk_2_71 sh_91 rfl ?_
    refine mV_ior (by decide +kernel) ?_
    refine mV_ias (by decide +kernel) sh_100 h.1 ?_
    replace h := h.2
    refine mV_iincc (i := 2) (n := 1) (c := nI 1) (ls' := [some (.ref 98), some (.int v1), some (.int (v2 + (nI 1)))]) (by decide +kernel) (by decide) rfl (Nat.le_of_ble_eq_true rfl) rfl rfl ?_
    refine mV_goto (off := -70) (tgt := 19) (by decide +kernel) (by decide) ?_
    exact h
set_option maxRecDepth 100000 in
set_option maxHeartbeats 4000000 in
theorem e_X2_isOther {l : Launch} {κ : mm_K} {d : Nat} {G : mm_G} {K : Int32 → mm_G → Prop} (a1 : Int32) (a2 : Int32) (a3 : Int32) (h : vp_in ((a1 * (nI 8)) + a3) 32 ∧ ((¬ ((mg_i G (104 + 2 * ((a1 * (nI 8)) + a3).toNatClampNeg) 3) &&& a2) = 0 → vp_in a1 4 ∧ mC l κ true (d + 2) 0 0 m_X3_runs [.ref 91, .ref (54 + 2 * a1.toNatClampNeg), .int a2, .int a3, .ref (104 + 2 * ((a1 * (nI 8)) + a3).toNatClampNeg)] G (rV (fun G4 => mC l κ true (d + 2) 0 0 m_X0_isLike [.ref 92, .ref (104 + 2 * ((a1 * (nI 8)) + a3).toNatClampNeg)] G4 (rI (fun r5 G6 => ((¬ r5 = 0 → K (nI 0) G6) ∧ (r5 = 0 → K (nI 1) G6))))))) ∧ (((mg_i G (104 + 2 * ((a1 * (nI 8)) + a3).toNatClampNeg) 3) &&& a2) = 0 → K (nI 0) G))) : mC l κ true (d + 3) 0 0 m_X2_isOther [.ref 98, .int a1, .int a2, .int a3] G (rI K) := by
  refine mC.of (by decide) (Nat.le_of_ble_eq_true rfl) [some (.ref 98), some (.int a1), some (.int a2), some (.int a3), none] rfl ?_
  refine mV_aload_n (k := 0) (by decide +kernel) rfl ?_
  refine mV_gfr (r := some 99) (by decide +kernel) fk_2_11 sh_98 (mm_rrs st_98_3) rfl ?_
  refine mV_iload_n (k := 1) (by decide +kernel) rfl ?_
  refine mV_bipush (n := 8) (v := nI 8) (by decide +kernel) (by decide) ?_
  refine mV_imul (by decide +kernel) ?_
  refine mV_iload_n (k := 3) (by decide +kernel) rfl ?_
  refine mV_iadd (by decide +kernel) ?_
  have hj1 := h.1
  replace h := h.2
  refine mV_aal (t := 7) (r := some (104 + 2 * ((a1 * (nI 8)) + a3).toNatClampNeg)) (by decide +kernel) sh_99 (by decide) hj1 (mm_rrs (mm_deed2 _ (mm_ixlt hj1)).2) rfl ?_
  refine mV_astore (i := 4) (ls' := [some (.ref 98), some (.int a1), some (.int a2), some (.int a3), some (.ref (104 + 2 * ((a1 * (nI 8)) + a3).toNatClampNeg))]) (by decide +kernel) (Nat.le_of_ble_eq_true rfl) rfl rfl ?_
  refine mV_aload (i := 4) (by decide +kernel) rfl ?_
  refine mV_gfix (x := mg_i G (104 + 2 * ((a1 * (nI 8)) + a3).toNatClampNeg) 3) (by decide +kernel) fk_2_74 (mm_deedP (mm_deed2 _ (mm_ixlt hj1)).1).1 rfl ?_
  refine mV_iload_n (k := 2) (by decide +kernel) rfl ?_
  refine mV_iand (by decide +kernel) ?_
  refine mV_if_ne (off := 5) (tgt := 25) (by decide +kernel) (by decide) (fun hc => ?_) (fun hc => ?_)
  · replace h := h.1 hc
    refine mV_aload_n (k := 0) (by decide +kernel) rfl ?_
    refine mV_gfr (r := some 91) (by decide +kernel) fk_2_40 sh_98 (mm_rrs st_98_2) rfl ?_
    refine mV_aload_n (k := 0) (by decide +kernel) rfl ?_
    refine mV_gfr (r := some 50) (by decide +kernel) fk_2_32 sh_98 (mm_rrs st_98_0) rfl ?_
    refine mV_gfr (r := some 51) (by decide +kernel) fk_2_51 sh_50 (mm_rrs st_50_0) rfl ?_
    refine mV_iload_n (k := 1) (by decide +kernel) rfl ?_
    have hj2 := h.1
    replace h := h.2
    refine mV_aal (t := 5) (r := some (54 + 2 * a1.toNatClampNeg)) (by decide +kernel) sh_51 (by decide) hj2 (mm_rrs (mm_rs50.2.2.2.2.2.2.2.1 _ (mm_ixlt hj2))) rfl ?_
    refine mV_iload_n (k := 2) (by decide +kernel) rfl ?_
    refine mV_iload_n (k := 3) (by decide +kernel) rfl ?_
    refine mV_aload (i := 4) (by decide +kernel) rfl ?_
    refine mV_cV (as := [.ref (54 + 2 * a1.toNatClampNeg), .int a2, .int a3, .ref (104 + 2 * ((a1 * (nI 8)) + a3).toNatClampNeg)]) (rest := []) (mc1 := 0) (ms1 := 0) (mc := 0) (ms := 0) (by decide +kernel) md_X3_runs lk_2_57 sh_91 rfl rfl rfl (Nat.le_of_ble_eq_true rfl) (mC.mono (mm_contV (fun G4 hK => ?_)) h)
    replace h := hK
    refine mV_aload_n (k := 0) (by decide +kernel) rfl ?_
    refine mV_gfr (r := some 91) (by decide +kernel) fk_2_40 sh_98 (mm_rrs st_98_2) rfl ?_
    refine mV_gfr (r := some 92) (by decide +kernel) fk_2_63 sh_91 (mm_rrs st_91_0) rfl ?_
    refine mV_aload (i := 4) (by decide +kernel) rfl ?_
    refine mV_cV (as := [.ref (104 + 2 * ((a1 * (nI 8)) + a3).toNatClampNeg)]) (rest := []) (mc1 := 0) (ms1 := 0) (mc := 0) (ms := 0) (by decide +kernel) md_X0_isLike lk_2_77 sh_92 rfl rfl rfl (Nat.le_of_ble_eq_true rfl) (mC.mono (mm_contI (fun r5 G6 hK => ?_)) h)
    replace h := hK
    refine mV_if_ne (off := 7) (tgt := 64) (by decide +kernel) (by decide) (fun hc => ?_) (fun hc => ?_)
    · replace h := h.1 hc
      refine mV_iconst (n := 0) (v := nI 0) (by decide +kernel) (by decide) ?_
      exact mV_zret (by decide +kernel) rfl (by decide) h
    · replace h := h.2 hc
      refine mV_iconst (n := 1) (v := nI 1) (by decide +kernel) (by decide) ?_
      refine mV_goto (off := 4) (tgt := 65) (by decide +kernel) (by decide) ?_
      exact mV_zret (by decide +kernel) rfl (by decide) h
  · replace h := h.2 hc
    refine mV_iconst (n := 0) (v := nI 0) (by decide +kernel) (by decide) ?_
    exact mV_zret (by decide +kernel) rfl (by decide) h
set_option maxRecDepth 100000 in
set_option maxHeartbeats 4000000 in
theorem e_X2_firstOther {l : Launch} {κ : mm_K} {d : Nat} {G : mm_G} {K : Int32 → mm_G → Prop} (a1 : Int32) (a2 : Int32) (h : mC l κ true (d + 3) 0 0 m_X2_know [.ref 98, .int a1] G (rV (fun G2 => mV l κ true (d + 4) 0 0 m_X2_firstOther 7 [some (.ref 98), some (.int a1), some (.int a2), some (.int (nI 0))] [] G2 (rI K)))) : mC l κ true (d + 4) 0 0 m_X2_firstOther [.ref 98, .int a1, .int a2] G (rI K) := by
  refine mC.of (by decide) (Nat.le_of_ble_eq_true rfl) [some (.ref 98), some (.int a1), some (.int a2), none] rfl ?_
  refine mV_aload_n (k := 0) (by decide +kernel) rfl ?_
  refine mV_iload_n (k := 1) (by decide +kernel) rfl ?_
  refine mV_cV (as := [.int a1]) (rest := []) (mc1 := 0) (ms1 := 0) (mc := 0) (ms := 0) (by decide +kernel) md_X2_know lk_2_81 sh_98 rfl rfl rfl (Nat.le_of_ble_eq_true rfl) (mC.mono (mm_contV (fun G2 hK => ?_)) h)
  replace h := hK
  refine mV_iconst (n := 0) (v := nI 0) (by decide +kernel) (by decide) ?_
  refine mV_istore_n (k := 3) (ls' := [some (.ref 98), some (.int a1), some (.int a2), some (.int (nI 0))]) (by decide +kernel) (Nat.le_of_ble_eq_true rfl) rfl rfl ?_
  exact h
set_option maxRecDepth 100000 in
set_option maxHeartbeats 4000000 in
theorem p_X2_firstOther_7 {l : Launch} {κ : mm_K} {d : Nat} {G : mm_G} {K : Int32 → mm_G → Prop} (v1 : Int32) (v2 : Int32) (v3 : Int32) (h : (((mg_i G 62 4) ≤ v3 → K (-2) G) ∧ (¬ (mg_i G 62 4) ≤ v3 → mC l κ true (d + 3) 0 0 m_X2_isOther [.ref 98, .int v1, .int v2, .int v3] G (rI (fun r1 G2 => ((r1 = 0 → mV l κ true (d + 4) 0 0 m_X2_firstOther 7 [some (.ref 98), some (.int v1), some (.int v2), some (.int (v3 + (nI 1)))] [] G2 (rI K)) ∧ (¬ r1 = 0 → K v3 G2))))))) : mV l κ true (d + 4) 0 0 m_X2_firstOther 7 [some (.ref 98), some (.int v1), some (.int v2), some (.int v3)] [] G (rI K) := by
  refine mV_iload_n (k := 3) (by decide +kernel) rfl ?_
  refine mV_aload_n (k := 0) (by decide +kernel) rfl ?_
  refine mV_gfr (r := some 62) (by decide +kernel) fk_2_36 sh_98 (mm_rrs st_98_1) rfl ?_
  refine mV_gfix (x := mg_i G 62 4) (by decide +kernel) fk_2_45 sh_62 rfl ?_
  refine mV_icmp_ge (off := 21) (tgt := 36) (by decide +kernel) (by decide) (fun hc => ?_) (fun hc => ?_)
  · replace h := h.1 hc
    refine mV_bipush (n := -2) (v := (-2)) (by decide +kernel) (by decide) ?_
    exact mV_iret (by decide +kernel) rfl h
  · replace h := h.2 hc
    refine mV_aload_n (k := 0) (by decide +kernel) rfl ?_
    refine mV_iload_n (k := 1) (by decide +kernel) rfl ?_
    refine mV_iload_n (k := 2) (by decide +kernel) rfl ?_
    refine mV_iload_n (k := 3) (by decide +kernel) rfl ?_
    refine mV_cV (as := [.int v1, .int v2, .int v3]) (rest := []) (mc1 := 0) (ms1 := 0) (mc := 0) (ms := 0) (by decide +kernel) md_X2_isOther lk_2_85 sh_98 rfl rfl rfl (Nat.le_of_ble_eq_true rfl) (mC.mono (mm_contI (fun r1 G2 hK => ?_)) h)
    replace h := hK
    refine mV_if_eq (off := 5) (tgt := 30) (by decide +kernel) (by decide) (fun hc => ?_) (fun hc => ?_)
    · replace h := h.1 hc
      refine mV_iincc (i := 3) (n := 1) (c := nI 1) (ls' := [some (.ref 98), some (.int v1), some (.int v2), some (.int (v3 + (nI 1)))]) (by decide +kernel) (by decide) rfl (Nat.le_of_ble_eq_true rfl) rfl rfl ?_
      refine mV_goto (off := -26) (tgt := 7) (by decide +kernel) (by decide) ?_
      exact h
    · replace h := h.2 hc
      refine mV_iload_n (k := 3) (by decide +kernel) rfl ?_
      exact mV_iret (by decide +kernel) rfl h
set_option maxRecDepth 100000 in
set_option maxHeartbeats 4000000 in
theorem e_X2_firstBroken {l : Launch} {κ : mm_K} {d : Nat} {G : mm_G} {K : Int32 → mm_G → Prop} (a1 : Int32) (a2 : Int32) (h : vp_in a1 4 ∧ mV l κ true (d + 5) 0 0 m_X2_firstBroken 25 [some (.ref 98), some (.int a1), some (.int a2), some (.int ((nI 1) <<< ((mg_i G (54 + 2 * a1.toNatClampNeg) 1) &&& 31))), some (.int (((nI 1) <<< (a2 &&& 31)) - (nI 1))), some (.int (nI 0))] [] G (rI K)) : mC l κ true (d + 5) 0 0 m_X2_firstBroken [.ref 98, .int a1, .int a2] G (rI K) := by
  refine mC.of (by decide) (Nat.le_of_ble_eq_true rfl) [some (.ref 98), some (.int a1), some (.int a2), none, none, none] rfl ?_
  refine mV_iconst (n := 1) (v := nI 1) (by decide +kernel) (by decide) ?_
  refine mV_aload_n (k := 0) (by decide +kernel) rfl ?_
  refine mV_gfr (r := some 50) (by decide +kernel) fk_2_32 sh_98 (mm_rrs st_98_0) rfl ?_
  refine mV_gfr (r := some 51) (by decide +kernel) fk_2_51 sh_50 (mm_rrs st_50_0) rfl ?_
  refine mV_iload_n (k := 1) (by decide +kernel) rfl ?_
  have hj1 := h.1
  replace h := h.2
  refine mV_aal (t := 5) (r := some (54 + 2 * a1.toNatClampNeg)) (by decide +kernel) sh_51 (by decide) hj1 (mm_rrs (mm_rs50.2.2.2.2.2.2.2.1 _ (mm_ixlt hj1))) rfl ?_
  refine mV_gfix (x := mg_i G (54 + 2 * a1.toNatClampNeg) 1) (by decide +kernel) fk_2_89 (mm_rs50.2.2.2.2.2.2.2.2 _ (mm_ixlt hj1)).1 rfl ?_
  refine mV_ishl (by decide +kernel) ?_
  refine mV_istore_n (k := 3) (ls' := [some (.ref 98), some (.int a1), some (.int a2), some (.int ((nI 1) <<< ((mg_i G (54 + 2 * a1.toNatClampNeg) 1) &&& 31))), none, none]) (by decide +kernel) (Nat.le_of_ble_eq_true rfl) rfl rfl ?_
  refine mV_iconst (n := 1) (v := nI 1) (by decide +kernel) (by decide) ?_
  refine mV_iload_n (k := 2) (by decide +kernel) rfl ?_
  refine mV_ishl (by decide +kernel) ?_
  refine mV_iconst (n := 1) (v := nI 1) (by decide +kernel) (by decide) ?_
  refine mV_isub (by decide +kernel) ?_
  refine mV_istore (i := 4) (ls' := [some (.ref 98), some (.int a1), some (.int a2), some (.int ((nI 1) <<< ((mg_i G (54 + 2 * a1.toNatClampNeg) 1) &&& 31))), some (.int (((nI 1) <<< (a2 &&& 31)) - (nI 1))), none]) (by decide +kernel) (Nat.le_of_ble_eq_true rfl) rfl rfl ?_
  refine mV_iconst (n := 0) (v := nI 0) (by decide +kernel) (by decide) ?_
  refine mV_istore (i := 5) (ls' := [some (.ref 98), some (.int a1), some (.int a2), some (.int ((nI 1) <<< ((mg_i G (54 + 2 * a1.toNatClampNeg) 1) &&& 31))), some (.int (((nI 1) <<< (a2 &&& 31)) - (nI 1))), some (.int (nI 0))]) (by decide +kernel) (Nat.le_of_ble_eq_true rfl) rfl rfl ?_
  exact h
set_option maxRecDepth 100000 in
set_option maxHeartbeats 4000000 in
theorem p_X2_firstBroken_25 {l : Launch} {κ : mm_K} {d : Nat} {G : mm_G} {K : Int32 → mm_G → Prop} (v1 : Int32) (v2 : Int32) (v3 : Int32) (v4 : Int32) (v5 : Int32) (h : ((v3 ≤ v5 → K (-2) G) ∧ (¬ v3 ≤ v5 → ((v3 ≤ v4 → K (-2) G) ∧ (¬ v3 ≤ v4 → mC l κ true (d + 4) 0 0 m_X2_firstOther [.ref 98, .int v1, .int v4] G (rI (fun r1 G2 => ((r1 = (-2) → mC l κ true (d + 4) 0 0 m_X12_setBehind [.int v4] G2 (rI (fun r3 G4 => mV l κ true (d + 5) 0 0 m_X2_firstBroken 25 [some (.ref 98), some (.int v1), some (.int v2), some (.int v3), some (.int r3), some (.int (v5 + (nI 1)))] [] G4 (rI K)))) ∧ (¬ r1 = (-2) → K v4 G2))))))))) : mV l κ true (d + 5) 0 0 m_X2_firstBroken 25 [some (.ref 98), some (.int v1), some (.int v2), some (.int v3), some (.int v4), some (.int v5)] [] G (rI K) := by
  refine mV_iload (i := 5) (by decide +kernel) rfl ?_
  refine mV_iload_n (k := 3) (by decide +kernel) rfl ?_
  refine mV_icmp_ge (off := 37) (tgt := 65) (by decide +kernel) (by decide) (fun hc => ?_) (fun hc => ?_)
  · replace h := h.1 hc
    refine mV_bipush (n := -2) (v := (-2)) (by decide +kernel) (by decide) ?_
    exact mV_iret (by decide +kernel) rfl h
  · replace h := h.2 hc
    refine mV_iload (i := 4) (by decide +kernel) rfl ?_
    refine mV_iload_n (k := 3) (by decide +kernel) rfl ?_
    refine mV_icmp_ge (off := 31) (tgt := 65) (by decide +kernel) (by decide) (fun hc => ?_) (fun hc => ?_)
    · replace h := h.1 hc
      refine mV_bipush (n := -2) (v := (-2)) (by decide +kernel) (by decide) ?_
      exact mV_iret (by decide +kernel) rfl h
    · replace h := h.2 hc
      refine mV_aload_n (k := 0) (by decide +kernel) rfl ?_
      refine mV_iload_n (k := 1) (by decide +kernel) rfl ?_
      refine mV_iload (i := 4) (by decide +kernel) rfl ?_
      refine mV_cV (as := [.int v1, .int v4]) (rest := []) (mc1 := 0) (ms1 := 0) (mc := 0) (ms := 0) (by decide +kernel) md_X2_firstOther lk_2_90 sh_98 rfl rfl rfl (Nat.le_of_ble_eq_true rfl) (mC.mono (mm_contI (fun r1 G2 hK => ?_)) h)
      replace h := hK
      refine mV_bipush (n := -2) (v := (-2)) (by decide +kernel) (by decide) ?_
      refine mV_icmp_eq (off := 6) (tgt := 52) (by decide +kernel) (by decide) (fun hc => ?_) (fun hc => ?_)
      · replace h := h.1 hc
        refine mV_iload (i := 4) (by decide +kernel) rfl ?_
        refine mV_cSN (as := [.int v4]) (rest := []) (mc1 := 0) (ms1 := 0) (mc := 0) (ms := 0) (by decide +kernel) md_X12_setBehind lk_2_94 rfl rfl (Nat.le_of_ble_eq_true rfl) (mC.mono (mm_contI (fun r3 G4 hK => ?_)) h)
        replace h := hK
        refine mV_istore (i := 4) (ls' := [some (.ref 98), some (.int v1), some (.int v2), some (.int v3), some (.int r3), some (.int v5)]) (by decide +kernel) (Nat.le_of_ble_eq_true rfl) rfl rfl ?_
        refine mV_iincc (i := 5) (n := 1) (c := nI 1) (ls' := [some (.ref 98), some (.int v1), some (.int v2), some (.int v3), some (.int r3), some (.int (v5 + (nI 1)))]) (by decide +kernel) (by decide) rfl (Nat.le_of_ble_eq_true rfl) rfl rfl ?_
        refine mV_goto (off := -37) (tgt := 25) (by decide +kernel) (by decide) ?_
        exact h
      · replace h := h.2 hc
        refine mV_iload (i := 4) (by decide +kernel) rfl ?_
        exact mV_iret (by decide +kernel) rfl h
set_option maxRecDepth 100000 in
set_option maxHeartbeats 4000000 in
theorem e_X2_idleLines {l : Launch} {κ : mm_K} {d : Nat} {G : mm_G} {K : Int32 → mm_G → Prop} (a1 : Int32) (h : mV l κ true (d + 5) 0 0 m_X2_idleLines 4 [some (.ref 98), some (.int a1), some (.int (nI 0)), some (.int (nI 0))] [] G (rI K)) : mC l κ true (d + 5) 0 0 m_X2_idleLines [.ref 98, .int a1] G (rI K) := by
  refine mC.of (by decide) (Nat.le_of_ble_eq_true rfl) [some (.ref 98), some (.int a1), none, none] rfl ?_
  refine mV_iconst (n := 0) (v := nI 0) (by decide +kernel) (by decide) ?_
  refine mV_istore_n (k := 2) (ls' := [some (.ref 98), some (.int a1), some (.int (nI 0)), none]) (by decide +kernel) (Nat.le_of_ble_eq_true rfl) rfl rfl ?_
  refine mV_iconst (n := 0) (v := nI 0) (by decide +kernel) (by decide) ?_
  refine mV_istore_n (k := 3) (ls' := [some (.ref 98), some (.int a1), some (.int (nI 0)), some (.int (nI 0))]) (by decide +kernel) (Nat.le_of_ble_eq_true rfl) rfl rfl ?_
  exact h
set_option maxRecDepth 100000 in
set_option maxHeartbeats 4000000 in
theorem p_X2_idleLines_4 {l : Launch} {κ : mm_K} {d : Nat} {G : mm_G} {K : Int32 → mm_G → Prop} (v1 : Int32) (v2 : Int32) (v3 : Int32) (h : vp_in v1 4 ∧ (((mg_i G (54 + 2 * v1.toNatClampNeg) 1) ≤ v3 → K v2 G) ∧ (¬ (mg_i G (54 + 2 * v1.toNatClampNeg) 1) ≤ v3 → mC l κ true (d + 4) 0 0 m_X2_firstOther [.ref 98, .int v1, .int ((nI 1) <<< (v3 &&& 31))] G (rI (fun r2 G3 => ((¬ r2 = (-2) → mV l κ true (d + 5) 0 0 m_X2_idleLines 4 [some (.ref 98), some (.int v1), some (.int v2), some (.int (v3 + (nI 1)))] [] G3 (rI K)) ∧ (r2 = (-2) → mV l κ true (d + 5) 0 0 m_X2_idleLines 4 [some (.ref 98), some (.int v1), some (.int (v2 ||| ((nI 1) <<< (v3 &&& 31)))), some (.int (v3 + (nI 1)))] [] G3 (rI K)))))))) : mV l κ true (d + 5) 0 0 m_X2_idleLines 4 [some (.ref 98), some (.int v1), some (.int v2), some (.int v3)] [] G (rI K) := by
  refine mV_iload_n (k := 3) (by decide +kernel) rfl ?_
  refine mV_aload_n (k := 0) (by decide +kernel) rfl ?_
  refine mV_gfr (r := some 50) (by decide +kernel) fk_2_32 sh_98 (mm_rrs st_98_0) rfl ?_
  refine mV_gfr (r := some 51) (by decide +kernel) fk_2_51 sh_50 (mm_rrs st_50_0) rfl ?_
  refine mV_iload_n (k := 1) (by decide +kernel) rfl ?_
  have hj1 := h.1
  replace h := h.2
  refine mV_aal (t := 5) (r := some (54 + 2 * v1.toNatClampNeg)) (by decide +kernel) sh_51 (by decide) hj1 (mm_rrs (mm_rs50.2.2.2.2.2.2.2.1 _ (mm_ixlt hj1))) rfl ?_
  refine mV_gfix (x := mg_i G (54 + 2 * v1.toNatClampNeg) 1) (by decide +kernel) fk_2_89 (mm_rs50.2.2.2.2.2.2.2.2 _ (mm_ixlt hj1)).1 rfl ?_
  refine mV_icmp_ge (off := 28) (tgt := 45) (by decide +kernel) (by decide) (fun hc => ?_) (fun hc => ?_)
  · replace h := h.1 hc
    refine mV_iload_n (k := 2) (by decide +kernel) rfl ?_
    exact mV_iret (by decide +kernel) rfl h
  · replace h := h.2 hc
    refine mV_aload_n (k := 0) (by decide +kernel) rfl ?_
    refine mV_iload_n (k := 1) (by decide +kernel) rfl ?_
    refine mV_iconst (n := 1) (v := nI 1) (by decide +kernel) (by decide) ?_
    refine mV_iload_n (k := 3) (by decide +kernel) rfl ?_
    refine mV_ishl (by decide +kernel) ?_
    refine mV_cV (as := [.int v1, .int ((nI 1) <<< (v3 &&& 31))]) (rest := []) (mc1 := 0) (ms1 := 0) (mc := 0) (ms := 0) (by decide +kernel) md_X2_firstOther lk_2_90 sh_98 rfl rfl rfl (Nat.le_of_ble_eq_true rfl) (mC.mono (mm_contI (fun r2 G3 hK => ?_)) h)
    replace h := hK
    refine mV_bipush (n := -2) (v := (-2)) (by decide +kernel) (by decide) ?_
    refine mV_icmp_ne (off := 9) (tgt := 39) (by decide +kernel) (by decide) (fun hc => ?_) (fun hc => ?_)
    · replace h := h.1 hc
      refine mV_iincc (i := 3) (n := 1) (c := nI 1) (ls' := [some (.ref 98), some (.int v1), some (.int v2), some (.int (v3 + (nI 1)))]) (by decide +kernel) (by decide) rfl (Nat.le_of_ble_eq_true rfl) rfl rfl ?_
      refine mV_goto (off := -38) (tgt := 4) (by decide +kernel) (by decide) ?_
      exact h
    · replace h := h.2 hc
      refine mV_iload_n (k := 2) (by decide +kernel) rfl ?_
      refine mV_iconst (n := 1) (v := nI 1) (by decide +kernel) (by decide) ?_
      refine mV_iload_n (k := 3) (by decide +kernel) rfl ?_
      refine mV_ishl (by decide +kernel) ?_
      refine mV_ior (by decide +kernel) ?_
      refine mV_istore_n (k := 2) (ls' := [some (.ref 98), some (.int v1), some (.int (v2 ||| ((nI 1) <<< (v3 &&& 31)))), some (.int v3)]) (by decide +kernel) (Nat.le_of_ble_eq_true rfl) rfl rfl ?_
      refine mV_iincc (i := 3) (n := 1) (c := nI 1) (ls' := [some (.ref 98), some (.int v1), some (.int (v2 ||| ((nI 1) <<< (v3 &&& 31)))), some (.int (v3 + (nI 1)))]) (by decide +kernel) (by decide) rfl (Nat.le_of_ble_eq_true rfl) rfl rfl ?_
      refine mV_goto (off := -38) (tgt := 4) (by decide +kernel) (by decide) ?_
      exact h
set_option maxRecDepth 100000 in
set_option maxHeartbeats 4000000 in
theorem e_X2_harmOf {l : Launch} {κ : mm_K} {d : Nat} {G : mm_G} {K : Int32 → mm_G → Prop} (a1 : Int32) (a2 : Int32) (h : mC l κ true (d + 3) 0 0 m_X2_know [.ref 98, .int a1] G (rV (fun G2 => mV l κ true (d + 4) 0 0 m_X2_harmOf 10 [some (.ref 98), some (.int a1), some (.int a2), some (.int (nI 0)), some (.int (nI 0))] [] G2 (rI K)))) : mC l κ true (d + 4) 0 0 m_X2_harmOf [.ref 98, .int a1, .int a2] G (rI K) := by
  refine mC.of (by decide) (Nat.le_of_ble_eq_true rfl) [some (.ref 98), some (.int a1), some (.int a2), none, none] rfl ?_
  refine mV_aload_n (k := 0) (by decide +kernel) rfl ?_
  refine mV_iload_n (k := 1) (by decide +kernel) rfl ?_
  refine mV_cV (as := [.int a1]) (rest := []) (mc1 := 0) (ms1 := 0) (mc := 0) (ms := 0) (by decide +kernel) md_X2_know lk_2_81 sh_98 rfl rfl rfl (Nat.le_of_ble_eq_true rfl) (mC.mono (mm_contV (fun G2 hK => ?_)) h)
  replace h := hK
  refine mV_iconst (n := 0) (v := nI 0) (by decide +kernel) (by decide) ?_
  refine mV_istore_n (k := 3) (ls' := [some (.ref 98), some (.int a1), some (.int a2), some (.int (nI 0)), none]) (by decide +kernel) (Nat.le_of_ble_eq_true rfl) rfl rfl ?_
  refine mV_iconst (n := 0) (v := nI 0) (by decide +kernel) (by decide) ?_
  refine mV_istore (i := 4) (ls' := [some (.ref 98), some (.int a1), some (.int a2), some (.int (nI 0)), some (.int (nI 0))]) (by decide +kernel) (Nat.le_of_ble_eq_true rfl) rfl rfl ?_
  exact h
set_option maxRecDepth 100000 in
set_option maxHeartbeats 4000000 in
theorem p_X2_harmOf_10 {l : Launch} {κ : mm_K} {d : Nat} {G : mm_G} {K : Int32 → mm_G → Prop} (v1 : Int32) (v2 : Int32) (v3 : Int32) (v4 : Int32) (h : (((mg_i G 62 4) ≤ v4 → K v3 G) ∧ (¬ (mg_i G 62 4) ≤ v4 → mC l κ true (d + 3) 0 0 m_X2_isOther [.ref 98, .int v1, .int ((nI 1) <<< (v2 &&& 31)), .int v4] G (rI (fun r1 G2 => ((r1 = 0 → mV l κ true (d + 4) 0 0 m_X2_harmOf 10 [some (.ref 98), some (.int v1), some (.int v2), some (.int v3), some (.int (v4 + (nI 1)))] [] G2 (rI K)) ∧ (¬ r1 = 0 → mV l κ true (d + 4) 0 0 m_X2_harmOf 10 [some (.ref 98), some (.int v1), some (.int v2), some (.int (v3 + (nI 1))), some (.int (v4 + (nI 1)))] [] G2 (rI K)))))))) : mV l κ true (d + 4) 0 0 m_X2_harmOf 10 [some (.ref 98), some (.int v1), some (.int v2), some (.int v3), some (.int v4)] [] G (rI K) := by
  refine mV_iload (i := 4) (by decide +kernel) rfl ?_
  refine mV_aload_n (k := 0) (by decide +kernel) rfl ?_
  refine mV_gfr (r := some 62) (by decide +kernel) fk_2_36 sh_98 (mm_rrs st_98_1) rfl ?_
  refine mV_gfix (x := mg_i G 62 4) (by decide +kernel) fk_2_45 sh_62 rfl ?_
  refine mV_icmp_ge (off := 25) (tgt := 44) (by decide +kernel) (by decide) (fun hc => ?_) (fun hc => ?_)
  · replace h := h.1 hc
    refine mV_iload_n (k := 3) (by decide +kernel) rfl ?_
    exact mV_iret (by decide +kernel) rfl h
  · replace h := h.2 hc
    refine mV_aload_n (k := 0) (by decide +kernel) rfl ?_
    refine mV_iload_n (k := 1) (by decide +kernel) rfl ?_
    refine mV_iconst (n := 1) (v := nI 1) (by decide +kernel) (by decide) ?_
    refine mV_iload_n (k := 2) (by decide +kernel) rfl ?_
    refine mV_ishl (by decide +kernel) ?_
    refine mV_iload (i := 4) (by decide +kernel) rfl ?_
    refine mV_cV (as := [.int v1, .int ((nI 1) <<< (v2 &&& 31)), .int v4]) (rest := []) (mc1 := 0) (ms1 := 0) (mc := 0) (ms := 0) (by decide +kernel) md_X2_isOther lk_2_85 sh_98 rfl rfl rfl (Nat.le_of_ble_eq_true rfl) (mC.mono (mm_contI (fun r1 G2 hK => ?_)) h)
    replace h := hK
    refine mV_if_eq (off := 6) (tgt := 38) (by decide +kernel) (by decide) (fun hc => ?_) (fun hc => ?_)
    · replace h := h.1 hc
      refine mV_iincc (i := 4) (n := 1) (c := nI 1) (ls' := [some (.ref 98), some (.int v1), some (.int v2), some (.int v3), some (.int (v4 + (nI 1)))]) (by decide +kernel) (by decide) rfl (Nat.le_of_ble_eq_true rfl) rfl rfl ?_
      refine mV_goto (off := -31) (tgt := 10) (by decide +kernel) (by decide) ?_
      exact h
    · replace h := h.2 hc
      refine mV_iincc (i := 3) (n := 1) (c := nI 1) (ls' := [some (.ref 98), some (.int v1), some (.int v2), some (.int (v3 + (nI 1))), some (.int v4)]) (by decide +kernel) (by decide) rfl (Nat.le_of_ble_eq_true rfl) rfl rfl ?_
      refine mV_iincc (i := 4) (n := 1) (c := nI 1) (ls' := [some (.ref 98), some (.int v1), some (.int v2), some (.int (v3 + (nI 1))), some (.int (v4 + (nI 1)))]) (by decide +kernel) (by decide) rfl (Nat.le_of_ble_eq_true rfl) rfl rfl ?_
      refine mV_goto (off := -31) (tgt := 10) (by decide +kernel) (by decide) ?_
      exact h
set_option maxRecDepth 100000 in
set_option maxHeartbeats 4000000 in
theorem e_X2_worstLine {l : Launch} {κ : mm_K} {d : Nat} {G : mm_G} {K : Int32 → mm_G → Prop} (a1 : Int32) (h : mV l κ true (d + 5) 0 0 m_X2_worstLine 8 [some (.ref 98), some (.int a1), some (.int (-2)), some (.int (-1)), some (.int (nI 0)), none] [] G (rI K)) : mC l κ true (d + 5) 0 0 m_X2_worstLine [.ref 98, .int a1] G (rI K) := by
  refine mC.of (by decide) (Nat.le_of_ble_eq_true rfl) [some (.ref 98), some (.int a1), none, none, none, none] rfl ?_
  refine mV_bipush (n := -2) (v := (-2)) (by decide +kernel) (by decide) ?_
  refine mV_istore_n (k := 2) (ls' := [some (.ref 98), some (.int a1), some (.int (-2)), none, none, none]) (by decide +kernel) (Nat.le_of_ble_eq_true rfl) rfl rfl ?_
  refine mV_iconst (n := -1) (v := (-1)) (by decide +kernel) (by decide) ?_
  refine mV_istore_n (k := 3) (ls' := [some (.ref 98), some (.int a1), some (.int (-2)), some (.int (-1)), none, none]) (by decide +kernel) (Nat.le_of_ble_eq_true rfl) rfl rfl ?_
  refine mV_iconst (n := 0) (v := nI 0) (by decide +kernel) (by decide) ?_
  refine mV_istore (i := 4) (ls' := [some (.ref 98), some (.int a1), some (.int (-2)), some (.int (-1)), some (.int (nI 0)), none]) (by decide +kernel) (Nat.le_of_ble_eq_true rfl) rfl rfl ?_
  exact h
set_option maxRecDepth 100000 in
set_option maxHeartbeats 4000000 in
theorem p_X2_worstLine_8 {l : Launch} {κ : mm_K} {d : Nat} {G : mm_G} {K : Int32 → mm_G → Prop} (v1 : Int32) (v2 : Int32) (v3 : Int32) (v4 : Int32) (h : vp_in v1 4 ∧ (((mg_i G (54 + 2 * v1.toNatClampNeg) 1) ≤ v4 → K v2 G) ∧ (¬ (mg_i G (54 + 2 * v1.toNatClampNeg) 1) ≤ v4 → mC l κ true (d + 4) 0 0 m_X2_harmOf [.ref 98, .int v1, .int v4] G (rI (fun r2 G3 => ((r2 ≤ v3 → mV l κ true (d + 5) 0 0 m_X2_worstLine 8 [some (.ref 98), some (.int v1), some (.int v2), some (.int v3), some (.int (v4 + (nI 1))), none] [] G3 (rI K)) ∧ (¬ r2 ≤ v3 → mV l κ true (d + 5) 0 0 m_X2_worstLine 8 [some (.ref 98), some (.int v1), some (.int v4), some (.int r2), some (.int (v4 + (nI 1))), none] [] G3 (rI K)))))))) : mV l κ true (d + 5) 0 0 m_X2_worstLine 8 [some (.ref 98), some (.int v1), some (.int v2), some (.int v3), some (.int v4), none] [] G (rI K) := by
  refine mV_iload (i := 4) (by decide +kernel) rfl ?_
  refine mV_aload_n (k := 0) (by decide +kernel) rfl ?_
  refine mV_gfr (r := some 50) (by decide +kernel) fk_2_32 sh_98 (mm_rrs st_98_0) rfl ?_
  refine mV_gfr (r := some 51) (by decide +kernel) fk_2_51 sh_50 (mm_rrs st_50_0) rfl ?_
  refine mV_iload_n (k := 1) (by decide +kernel) rfl ?_
  have hj1 := h.1
  replace h := h.2
  refine mV_aal (t := 5) (r := some (54 + 2 * v1.toNatClampNeg)) (by decide +kernel) sh_51 (by decide) hj1 (mm_rrs (mm_rs50.2.2.2.2.2.2.2.1 _ (mm_ixlt hj1))) rfl ?_
  refine mV_gfix (x := mg_i G (54 + 2 * v1.toNatClampNeg) 1) (by decide +kernel) fk_2_89 (mm_rs50.2.2.2.2.2.2.2.2 _ (mm_ixlt hj1)).1 rfl ?_
  refine mV_icmp_ge (off := 30) (tgt := 52) (by decide +kernel) (by decide) (fun hc => ?_) (fun hc => ?_)
  · replace h := h.1 hc
    refine mV_iload_n (k := 2) (by decide +kernel) rfl ?_
    exact mV_iret (by decide +kernel) rfl h
  · replace h := h.2 hc
    refine mV_aload_n (k := 0) (by decide +kernel) rfl ?_
    refine mV_iload_n (k := 1) (by decide +kernel) rfl ?_
    refine mV_iload (i := 4) (by decide +kernel) rfl ?_
    refine mV_cV (as := [.int v1, .int v4]) (rest := []) (mc1 := 0) (ms1 := 0) (mc := 0) (ms := 0) (by decide +kernel) md_X2_harmOf lk_2_98 sh_98 rfl rfl rfl (Nat.le_of_ble_eq_true rfl) (mC.mono (mm_contI (fun r2 G3 hK => ?_)) h)
    replace h := hK
    refine mV_istore (i := 5) (ls' := [some (.ref 98), some (.int v1), some (.int v2), some (.int v3), some (.int v4), some (.int r2)]) (by decide +kernel) (Nat.le_of_ble_eq_true rfl) rfl rfl ?_
    refine mV_iload (i := 5) (by decide +kernel) rfl ?_
    refine mV_iload_n (k := 3) (by decide +kernel) rfl ?_
    refine mV_icmp_le (off := 9) (tgt := 46) (by decide +kernel) (by decide) (fun hc => ?_) (fun hc => ?_)
    · replace h := h.1 hc
      refine mV_iincc (i := 4) (n := 1) (c := nI 1) (ls' := [some (.ref 98), some (.int v1), some (.int v2), some (.int v3), some (.int (v4 + (nI 1))), some (.int r2)]) (by decide +kernel) (by decide) rfl (Nat.le_of_ble_eq_true rfl) rfl rfl ?_
      refine mV_goto (off := -41) (tgt := 8) (by decide +kernel) (by decide) ?_
      refine mV_fg [5] (ls' := [some (.ref 98), some (.int v1), some (.int v2), some (.int v3), some (.int (v4 + (nI 1))), none]) rfl ?_
      exact h
    · replace h := h.2 hc
      refine mV_iload (i := 5) (by decide +kernel) rfl ?_
      refine mV_istore_n (k := 3) (ls' := [some (.ref 98), some (.int v1), some (.int v2), some (.int r2), some (.int v4), some (.int r2)]) (by decide +kernel) (Nat.le_of_ble_eq_true rfl) rfl rfl ?_
      refine mV_iload (i := 4) (by decide +kernel) rfl ?_
      refine mV_istore_n (k := 2) (ls' := [some (.ref 98), some (.int v1), some (.int v4), some (.int r2), some (.int v4), some (.int r2)]) (by decide +kernel) (Nat.le_of_ble_eq_true rfl) rfl rfl ?_
      refine mV_iincc (i := 4) (n := 1) (c := nI 1) (ls' := [some (.ref 98), some (.int v1), some (.int v4), some (.int r2), some (.int (v4 + (nI 1))), some (.int r2)]) (by decide +kernel) (by decide) rfl (Nat.le_of_ble_eq_true rfl) rfl rfl ?_
      refine mV_goto (off := -41) (tgt := 8) (by decide +kernel) (by decide) ?_
      refine mV_fg [5] (ls' := [some (.ref 98), some (.int v1), some (.int v4), some (.int r2), some (.int (v4 + (nI 1))), none]) rfl ?_
      exact h
set_option maxRecDepth 100000 in
set_option maxHeartbeats 4000000 in
theorem e_X2_firstPair {l : Launch} {κ : mm_K} {d : Nat} {G : mm_G} {K : Int32 → mm_G → Prop} (a1 : Int32) (h : mC l κ true (d + 5) 0 0 m_X2_idleLines [.ref 98, .int a1] G (rI (fun r1 G2 => mV l κ true (d + 6) 0 0 m_X2_firstPair 8 [some (.ref 98), some (.int a1), some (.int r1), some (.int (nI 0)), none, none] [] G2 (rI K)))) : mC l κ true (d + 6) 0 0 m_X2_firstPair [.ref 98, .int a1] G (rI K) := by
  refine mC.of (by decide) (Nat.le_of_ble_eq_true rfl) [some (.ref 98), some (.int a1), none, none, none, none] rfl ?_
  refine mV_aload_n (k := 0) (by decide +kernel) rfl ?_
  refine mV_iload_n (k := 1) (by decide +kernel) rfl ?_
  refine mV_cV (as := [.int a1]) (rest := []) (mc1 := 0) (ms1 := 0) (mc := 0) (ms := 0) (by decide +kernel) md_X2_idleLines lk_2_101 sh_98 rfl rfl rfl (Nat.le_of_ble_eq_true rfl) (mC.mono (mm_contI (fun r1 G2 hK => ?_)) h)
  replace h := hK
  refine mV_istore_n (k := 2) (ls' := [some (.ref 98), some (.int a1), some (.int r1), none, none, none]) (by decide +kernel) (Nat.le_of_ble_eq_true rfl) rfl rfl ?_
  refine mV_iconst (n := 0) (v := nI 0) (by decide +kernel) (by decide) ?_
  refine mV_istore_n (k := 3) (ls' := [some (.ref 98), some (.int a1), some (.int r1), some (.int (nI 0)), none, none]) (by decide +kernel) (Nat.le_of_ble_eq_true rfl) rfl rfl ?_
  exact h
set_option maxRecDepth 100000 in
set_option maxHeartbeats 4000000 in
theorem p_X2_firstPair_8 {l : Launch} {κ : mm_K} {d : Nat} {G : mm_G} {K : Int32 → mm_G → Prop} (v1 : Int32) (v2 : Int32) (v3 : Int32) (h : (((nI 16) ≤ v3 → K (-2) G) ∧ (¬ (nI 16) ≤ v3 → mV l κ true (d + 6) 0 0 m_X2_firstPair 19 [some (.ref 98), some (.int v1), some (.int v2), some (.int v3), some (.int (v3 + (nI 1))), none] [] G (rI K)))) : mV l κ true (d + 6) 0 0 m_X2_firstPair 8 [some (.ref 98), some (.int v1), some (.int v2), some (.int v3), none, none] [] G (rI K) := by
  refine mV_iload_n (k := 3) (by decide +kernel) rfl ?_
  refine mV_bipush (n := 16) (v := nI 16) (by decide +kernel) (by decide) ?_
  refine mV_icmp_ge (off := 66) (tgt := 77) (by decide +kernel) (by decide) (fun hc => ?_) (fun hc => ?_)
  · replace h := h.1 hc
    refine mV_bipush (n := -2) (v := (-2)) (by decide +kernel) (by decide) ?_
    exact mV_iret (by decide +kernel) rfl h
  · replace h := h.2 hc
    refine mV_iload_n (k := 3) (by decide +kernel) rfl ?_
    refine mV_iconst (n := 1) (v := nI 1) (by decide +kernel) (by decide) ?_
    refine mV_iadd (by decide +kernel) ?_
    refine mV_istore (i := 4) (ls' := [some (.ref 98), some (.int v1), some (.int v2), some (.int v3), some (.int (v3 + (nI 1))), none]) (by decide +kernel) (Nat.le_of_ble_eq_true rfl) rfl rfl ?_
    exact h
set_option maxRecDepth 100000 in
set_option maxHeartbeats 4000000 in
theorem p_X2_firstPair_19 {l : Launch} {κ : mm_K} {d : Nat} {G : mm_G} {K : Int32 → mm_G → Prop} (v1 : Int32) (v2 : Int32) (v3 : Int32) (v4 : Int32) (h : (((nI 16) ≤ v4 → mV l κ true (d + 6) 0 0 m_X2_firstPair 8 [some (.ref 98), some (.int v1), some (.int v2), some (.int (v3 + (nI 1))), none, none] [] G (rI K)) ∧ (¬ (nI 16) ≤ v4 → ((¬ (v2 &&& (((nI 1) <<< (v3 &&& 31)) ||| ((nI 1) <<< (v4 &&& 31)))) = (((nI 1) <<< (v3 &&& 31)) ||| ((nI 1) <<< (v4 &&& 31))) → mV l κ true (d + 6) 0 0 m_X2_firstPair 19 [some (.ref 98), some (.int v1), some (.int v2), some (.int v3), some (.int (v4 + (nI 1))), none] [] G (rI K)) ∧ ((v2 &&& (((nI 1) <<< (v3 &&& 31)) ||| ((nI 1) <<< (v4 &&& 31)))) = (((nI 1) <<< (v3 &&& 31)) ||| ((nI 1) <<< (v4 &&& 31))) → mC l κ true (d + 5) 0 0 m_X2_firstOther [.ref 98, .int v1, .int (((nI 1) <<< (v3 &&& 31)) ||| ((nI 1) <<< (v4 &&& 31)))] G (rI (fun r1 G2 => ((r1 = (-2) → mV l κ true (d + 6) 0 0 m_X2_firstPair 19 [some (.ref 98), some (.int v1), some (.int v2), some (.int v3), some (.int (v4 + (nI 1))), none] [] G2 (rI K)) ∧ (¬ r1 = (-2) → K (((nI 100) * v3) + v4) G2))))))))) : mV l κ true (d + 6) 0 0 m_X2_firstPair 19 [some (.ref 98), some (.int v1), some (.int v2), some (.int v3), some (.int v4), none] [] G (rI K) := by
  refine mV_iload (i := 4) (by decide +kernel) rfl ?_
  refine mV_bipush (n := 16) (v := nI 16) (by decide +kernel) (by decide) ?_
  refine mV_icmp_ge (off := 48) (tgt := 71) (by decide +kernel) (by decide) (fun hc => ?_) (fun hc => ?_)
  · replace h := h.1 hc
    refine mV_iincc (i := 3) (n := 1) (c := nI 1) (ls' := [some (.ref 98), some (.int v1), some (.int v2), some (.int (v3 + (nI 1))), some (.int v4), none]) (by decide +kernel) (by decide) rfl (Nat.le_of_ble_eq_true rfl) rfl rfl ?_
    refine mV_goto (off := -66) (tgt := 8) (by decide +kernel) (by decide) ?_
    refine mV_fg [4] (ls' := [some (.ref 98), some (.int v1), some (.int v2), some (.int (v3 + (nI 1))), none, none]) rfl ?_
    exact h
  · replace h := h.2 hc
    refine mV_iconst (n := 1) (v := nI 1) (by decide +kernel) (by decide) ?_
    refine mV_iload_n (k := 3) (by decide +kernel) rfl ?_
    refine mV_ishl (by decide +kernel) ?_
    refine mV_iconst (n := 1) (v := nI 1) (by decide +kernel) (by decide) ?_
    refine mV_iload (i := 4) (by decide +kernel) rfl ?_
    refine mV_ishl (by decide +kernel) ?_
    refine mV_ior (by decide +kernel) ?_
    refine mV_istore (i := 5) (ls' := [some (.ref 98), some (.int v1), some (.int v2), some (.int v3), some (.int v4), some (.int (((nI 1) <<< (v3 &&& 31)) ||| ((nI 1) <<< (v4 &&& 31))))]) (by decide +kernel) (Nat.le_of_ble_eq_true rfl) rfl rfl ?_
    refine mV_iload_n (k := 2) (by decide +kernel) rfl ?_
    refine mV_iload (i := 5) (by decide +kernel) rfl ?_
    refine mV_iand (by decide +kernel) ?_
    refine mV_iload (i := 5) (by decide +kernel) rfl ?_
    refine mV_icmp_ne (off := 23) (tgt := 65) (by decide +kernel) (by decide) (fun hc => ?_) (fun hc => ?_)
    · replace h := h.1 hc
      refine mV_iincc (i := 4) (n := 1) (c := nI 1) (ls' := [some (.ref 98), some (.int v1), some (.int v2), some (.int v3), some (.int (v4 + (nI 1))), some (.int (((nI 1) <<< (v3 &&& 31)) ||| ((nI 1) <<< (v4 &&& 31))))]) (by decide +kernel) (by decide) rfl (Nat.le_of_ble_eq_true rfl) rfl rfl ?_
      refine mV_goto (off := -49) (tgt := 19) (by decide +kernel) (by decide) ?_
      refine mV_fg [5] (ls' := [some (.ref 98), some (.int v1), some (.int v2), some (.int v3), some (.int (v4 + (nI 1))), none]) rfl ?_
      exact h
    · replace h := h.2 hc
      refine mV_aload_n (k := 0) (by decide +kernel) rfl ?_
      refine mV_iload_n (k := 1) (by decide +kernel) rfl ?_
      refine mV_iload (i := 5) (by decide +kernel) rfl ?_
      refine mV_cV (as := [.int v1, .int (((nI 1) <<< (v3 &&& 31)) ||| ((nI 1) <<< (v4 &&& 31)))]) (rest := []) (mc1 := 0) (ms1 := 0) (mc := 0) (ms := 0) (by decide +kernel) md_X2_firstOther lk_2_90 sh_98 rfl rfl rfl (Nat.le_of_ble_eq_true rfl) (mC.mono (mm_contI (fun r1 G2 hK => ?_)) h)
      replace h := hK
      refine mV_bipush (n := -2) (v := (-2)) (by decide +kernel) (by decide) ?_
      refine mV_icmp_eq (off := 11) (tgt := 65) (by decide +kernel) (by decide) (fun hc => ?_) (fun hc => ?_)
      · replace h := h.1 hc
        refine mV_iincc (i := 4) (n := 1) (c := nI 1) (ls' := [some (.ref 98), some (.int v1), some (.int v2), some (.int v3), some (.int (v4 + (nI 1))), some (.int (((nI 1) <<< (v3 &&& 31)) ||| ((nI 1) <<< (v4 &&& 31))))]) (by decide +kernel) (by decide) rfl (Nat.le_of_ble_eq_true rfl) rfl rfl ?_
        refine mV_goto (off := -49) (tgt := 19) (by decide +kernel) (by decide) ?_
        refine mV_fg [5] (ls' := [some (.ref 98), some (.int v1), some (.int v2), some (.int v3), some (.int (v4 + (nI 1))), none]) rfl ?_
        exact h
      · replace h := h.2 hc
        refine mV_bipush (n := 100) (v := nI 100) (by decide +kernel) (by decide) ?_
        refine mV_iload_n (k := 3) (by decide +kernel) rfl ?_
        refine mV_imul (by decide +kernel) ?_
        refine mV_iload (i := 4) (by decide +kernel) rfl ?_
        refine mV_iadd (by decide +kernel) ?_
        exact mV_iret (by decide +kernel) rfl h
set_option maxRecDepth 100000 in
set_option maxHeartbeats 4000000 in
theorem e_X2_mendingLines {l : Launch} {κ : mm_K} {d : Nat} {G : mm_G} {K : Int32 → mm_G → Prop} (a1 : Int32) (h : mC l κ true (d + 3) 0 0 m_X2_know [.ref 98, .int a1] G (rV (fun G2 => vp_in a1 4 ∧ mV l κ true (d + 4) 0 0 m_X2_mendingLines 20 [some (.ref 98), some (.int a1), some (.ref (54 + 2 * a1.toNatClampNeg)), some (.int (nI 0)), some (.int (nI 0))] [] G2 (rI K)))) : mC l κ true (d + 4) 0 0 m_X2_mendingLines [.ref 98, .int a1] G (rI K) := by
  refine mC.of (by decide) (Nat.le_of_ble_eq_true rfl) [some (.ref 98), some (.int a1), none, none, none] rfl ?_
  refine mV_aload_n (k := 0) (by decide +kernel) rfl ?_
  refine mV_iload_n (k := 1) (by decide +kernel) rfl ?_
  refine mV_cV (as := [.int a1]) (rest := []) (mc1 := 0) (ms1 := 0) (mc := 0) (ms := 0) (by decide +kernel) md_X2_know lk_2_81 sh_98 rfl rfl rfl (Nat.le_of_ble_eq_true rfl) (mC.mono (mm_contV (fun G2 hK => ?_)) h)
  replace h := hK
  refine mV_aload_n (k := 0) (by decide +kernel) rfl ?_
  refine mV_gfr (r := some 50) (by decide +kernel) fk_2_32 sh_98 (mm_rrs st_98_0) rfl ?_
  refine mV_gfr (r := some 51) (by decide +kernel) fk_2_51 sh_50 (mm_rrs st_50_0) rfl ?_
  refine mV_iload_n (k := 1) (by decide +kernel) rfl ?_
  have hj3 := h.1
  replace h := h.2
  refine mV_aal (t := 5) (r := some (54 + 2 * a1.toNatClampNeg)) (by decide +kernel) sh_51 (by decide) hj3 (mm_rrs (mm_rs50.2.2.2.2.2.2.2.1 _ (mm_ixlt hj3))) rfl ?_
  refine mV_astore_n (k := 2) (ls' := [some (.ref 98), some (.int a1), some (.ref (54 + 2 * a1.toNatClampNeg)), none, none]) (by decide +kernel) (Nat.le_of_ble_eq_true rfl) rfl rfl ?_
  refine mV_iconst (n := 0) (v := nI 0) (by decide +kernel) (by decide) ?_
  refine mV_istore_n (k := 3) (ls' := [some (.ref 98), some (.int a1), some (.ref (54 + 2 * a1.toNatClampNeg)), some (.int (nI 0)), none]) (by decide +kernel) (Nat.le_of_ble_eq_true rfl) rfl rfl ?_
  refine mV_iconst (n := 0) (v := nI 0) (by decide +kernel) (by decide) ?_
  refine mV_istore (i := 4) (ls' := [some (.ref 98), some (.int a1), some (.ref (54 + 2 * a1.toNatClampNeg)), some (.int (nI 0)), some (.int (nI 0))]) (by decide +kernel) (Nat.le_of_ble_eq_true rfl) rfl rfl ?_
  exact h
set_option maxRecDepth 100000 in
set_option maxHeartbeats 4000000 in
theorem p_X2_mendingLines_20 {l : Launch} {κ : mm_K} {d : Nat} {G : mm_G} {K : Int32 → mm_G → Prop} (v1 : Int32) (v2 : Nat) (hv2 : RowAt v2) (v3 : Int32) (v4 : Int32) (h : (((mg_i G v2 1) ≤ v4 → K v3 G) ∧ (¬ (mg_i G v2 1) ≤ v4 → mC l κ true (d + 3) 0 0 m_X6_copy [.ref 102, .ref v2] G (rV (fun G2 => vp_in v4 16 ∧ ∃ t4, mg_r G2 (v2 + 1) v4.toNatClampNeg = some t4 ∧ LineAt t4 ∧ mC l κ true (d + 3) 0 0 m_X6_insert [.ref 102, .ref t4, .int (v4 + (nI 1))] G2 (rV (fun G6 => mC l κ true (d + 3) 0 0 m_X2_doubledDoesAlike [.ref 98, .int v1] G6 (rI (fun r7 G8 => ((r7 = 0 → mV l κ true (d + 4) 0 0 m_X2_mendingLines 20 [some (.ref 98), some (.int v1), some (.ref v2), some (.int v3), some (.int (v4 + (nI 1)))] [] G8 (rI K)) ∧ (¬ r7 = 0 → mV l κ true (d + 4) 0 0 m_X2_mendingLines 20 [some (.ref 98), some (.int v1), some (.ref v2), some (.int (v3 ||| ((nI 1) <<< (v4 &&& 31)))), some (.int (v4 + (nI 1)))] [] G8 (rI K)))))))))))) : mV l κ true (d + 4) 0 0 m_X2_mendingLines 20 [some (.ref 98), some (.int v1), some (.ref v2), some (.int v3), some (.int v4)] [] G (rI K) := by
  refine mV_iload (i := 4) (by decide +kernel) rfl ?_
  refine mV_aload_n (k := 2) (by decide +kernel) rfl ?_
  refine mV_gfix (x := mg_i G v2 1) (by decide +kernel) fk_2_89 hv2.1 rfl ?_
  refine mV_icmp_ge (off := 50) (tgt := 76) (by decide +kernel) (by decide) (fun hc => ?_) (fun hc => ?_)
  · replace h := h.1 hc
    refine mV_iload_n (k := 3) (by decide +kernel) rfl ?_
    exact mV_iret (by decide +kernel) rfl h
  · replace h := h.2 hc
    refine mV_aload_n (k := 0) (by decide +kernel) rfl ?_
    refine mV_gfr (r := some 102) (by decide +kernel) fk_2_28 sh_98 (mm_rrs st_98_6) rfl ?_
    refine mV_aload_n (k := 2) (by decide +kernel) rfl ?_
    refine mV_cV (as := [.ref v2]) (rest := []) (mc1 := 0) (ms1 := 0) (mc := 0) (ms := 0) (by decide +kernel) md_X6_copy lk_2_104 sh_102 rfl rfl rfl (Nat.le_of_ble_eq_true rfl) (mC.mono (mm_contV (fun G2 hK => ?_)) h)
    replace h := hK
    refine mV_aload_n (k := 0) (by decide +kernel) rfl ?_
    refine mV_gfr (r := some 102) (by decide +kernel) fk_2_28 sh_98 (mm_rrs st_98_6) rfl ?_
    refine mV_aload_n (k := 2) (by decide +kernel) rfl ?_
    refine mV_gfr (r := some (v2 + 1)) (by decide +kernel) fk_2_107 hv2.1 (mm_rrs hv2.2.2.1) rfl ?_
    refine mV_iload (i := 4) (by decide +kernel) rfl ?_
    have hj3 := h.1
    replace h := h.2
    obtain ⟨t4, hrt4, hat4, h⟩ := h
    refine mV_aal (t := 4) (r := some t4) (by decide +kernel) hv2.2.1 (by decide) hj3 ((mm_rrd (hv2.2.2.2 _ (mm_ixlt hj3))).trans hrt4) rfl ?_
    refine mV_iload (i := 4) (by decide +kernel) rfl ?_
    refine mV_iconst (n := 1) (v := nI 1) (by decide +kernel) (by decide) ?_
    refine mV_iadd (by decide +kernel) ?_
    refine mV_cV (as := [.ref t4, .int (v4 + (nI 1))]) (rest := []) (mc1 := 0) (ms1 := 0) (mc := 0) (ms := 0) (by decide +kernel) md_X6_insert lk_2_111 sh_102 rfl rfl rfl (Nat.le_of_ble_eq_true rfl) (mC.mono (mm_contV (fun G6 hK => ?_)) h)
    replace h := hK
    refine mV_aload_n (k := 0) (by decide +kernel) rfl ?_
    refine mV_iload_n (k := 1) (by decide +kernel) rfl ?_
    refine mV_cV (as := [.int v1]) (rest := []) (mc1 := 0) (ms1 := 0) (mc := 0) (ms := 0) (by decide +kernel) md_X2_doubledDoesAlike lk_2_115 sh_98 rfl rfl rfl (Nat.le_of_ble_eq_true rfl) (mC.mono (mm_contI (fun r7 G8 hK => ?_)) h)
    replace h := hK
    refine mV_if_eq (off := 10) (tgt := 70) (by decide +kernel) (by decide) (fun hc => ?_) (fun hc => ?_)
    · replace h := h.1 hc
      refine mV_iincc (i := 4) (n := 1) (c := nI 1) (ls' := [some (.ref 98), some (.int v1), some (.ref v2), some (.int v3), some (.int (v4 + (nI 1)))]) (by decide +kernel) (by decide) rfl (Nat.le_of_ble_eq_true rfl) rfl rfl ?_
      refine mV_goto (off := -53) (tgt := 20) (by decide +kernel) (by decide) ?_
      exact h
    · replace h := h.2 hc
      refine mV_iload_n (k := 3) (by decide +kernel) rfl ?_
      refine mV_iconst (n := 1) (v := nI 1) (by decide +kernel) (by decide) ?_
      refine mV_iload (i := 4) (by decide +kernel) rfl ?_
      refine mV_ishl (by decide +kernel) ?_
      refine mV_ior (by decide +kernel) ?_
      refine mV_istore_n (k := 3) (ls' := [some (.ref 98), some (.int v1), some (.ref v2), some (.int (v3 ||| ((nI 1) <<< (v4 &&& 31)))), some (.int v4)]) (by decide +kernel) (Nat.le_of_ble_eq_true rfl) rfl rfl ?_
      refine mV_iincc (i := 4) (n := 1) (c := nI 1) (ls' := [some (.ref 98), some (.int v1), some (.ref v2), some (.int (v3 ||| ((nI 1) <<< (v4 &&& 31)))), some (.int (v4 + (nI 1)))]) (by decide +kernel) (by decide) rfl (Nat.le_of_ble_eq_true rfl) rfl rfl ?_
      refine mV_goto (off := -53) (tgt := 20) (by decide +kernel) (by decide) ?_
      exact h
set_option maxRecDepth 100000 in
set_option maxHeartbeats 4000000 in
theorem e_X2_doubledDoesAlike {l : Launch} {κ : mm_K} {d : Nat} {G : mm_G} {K : Int32 → mm_G → Prop} (a1 : Int32) (h : mV l κ true (d + 3) 0 0 m_X2_doubledDoesAlike 2 [some (.ref 98), some (.int a1), some (.int (nI 0)), none] [] G (rI K)) : mC l κ true (d + 3) 0 0 m_X2_doubledDoesAlike [.ref 98, .int a1] G (rI K) := by
  refine mC.of (by decide) (Nat.le_of_ble_eq_true rfl) [some (.ref 98), some (.int a1), none, none] rfl ?_
  refine mV_iconst (n := 0) (v := nI 0) (by decide +kernel) (by decide) ?_
  refine mV_istore_n (k := 2) (ls' := [some (.ref 98), some (.int a1), some (.int (nI 0)), none]) (by decide +kernel) (Nat.le_of_ble_eq_true rfl) rfl rfl ?_
  exact h
set_option maxRecDepth 100000 in
set_option maxHeartbeats 4000000 in
theorem p_X2_doubledDoesAlike_2 {l : Launch} {κ : mm_K} {d : Nat} {G : mm_G} {K : Int32 → mm_G → Prop} (v1 : Int32) (v2 : Int32) (h : (((mg_i G 62 4) ≤ v2 → K (nI 1) G) ∧ (¬ (mg_i G 62 4) ≤ v2 → vp_in ((v1 * (nI 8)) + v2) 32 ∧ mC l κ true (d + 2) 0 0 m_X3_runs [.ref 91, .ref 102, .int (nI 0), .int v2, .ref (104 + 2 * ((v1 * (nI 8)) + v2).toNatClampNeg)] G (rV (fun G3 => mC l κ true (d + 2) 0 0 m_X0_isLike [.ref 92, .ref (104 + 2 * ((v1 * (nI 8)) + v2).toNatClampNeg)] G3 (rI (fun r4 G5 => ((¬ r4 = 0 → mV l κ true (d + 3) 0 0 m_X2_doubledDoesAlike 2 [some (.ref 98), some (.int v1), some (.int (v2 + (nI 1))), none] [] G5 (rI K)) ∧ (r4 = 0 → K (nI 0) G5))))))))) : mV l κ true (d + 3) 0 0 m_X2_doubledDoesAlike 2 [some (.ref 98), some (.int v1), some (.int v2), none] [] G (rI K) := by
  refine mV_iload_n (k := 2) (by decide +kernel) rfl ?_
  refine mV_aload_n (k := 0) (by decide +kernel) rfl ?_
  refine mV_gfr (r := some 62) (by decide +kernel) fk_2_36 sh_98 (mm_rrs st_98_1) rfl ?_
  refine mV_gfix (x := mg_i G 62 4) (by decide +kernel) fk_2_45 sh_62 rfl ?_
  refine mV_icmp_ge (off := 51) (tgt := 61) (by decide +kernel) (by decide) (fun hc => ?_) (fun hc => ?_)
  · replace h := h.1 hc
    refine mV_iconst (n := 1) (v := nI 1) (by decide +kernel) (by decide) ?_
    exact mV_zret (by decide +kernel) rfl (by decide) h
  · replace h := h.2 hc
    refine mV_aload_n (k := 0) (by decide +kernel) rfl ?_
    refine mV_gfr (r := some 99) (by decide +kernel) fk_2_11 sh_98 (mm_rrs st_98_3) rfl ?_
    refine mV_iload_n (k := 1) (by decide +kernel) rfl ?_
    refine mV_bipush (n := 8) (v := nI 8) (by decide +kernel) (by decide) ?_
    refine mV_imul (by decide +kernel) ?_
    refine mV_iload_n (k := 2) (by decide +kernel) rfl ?_
    refine mV_iadd (by decide +kernel) ?_
    have hj1 := h.1
    replace h := h.2
    refine mV_aal (t := 7) (r := some (104 + 2 * ((v1 * (nI 8)) + v2).toNatClampNeg)) (by decide +kernel) sh_99 (by decide) hj1 (mm_rrs (mm_deed2 _ (mm_ixlt hj1)).2) rfl ?_
    refine mV_astore_n (k := 3) (ls' := [some (.ref 98), some (.int v1), some (.int v2), some (.ref (104 + 2 * ((v1 * (nI 8)) + v2).toNatClampNeg))]) (by decide +kernel) (Nat.le_of_ble_eq_true rfl) rfl rfl ?_
    refine mV_aload_n (k := 0) (by decide +kernel) rfl ?_
    refine mV_gfr (r := some 91) (by decide +kernel) fk_2_40 sh_98 (mm_rrs st_98_2) rfl ?_
    refine mV_aload_n (k := 0) (by decide +kernel) rfl ?_
    refine mV_gfr (r := some 102) (by decide +kernel) fk_2_28 sh_98 (mm_rrs st_98_6) rfl ?_
    refine mV_iconst (n := 0) (v := nI 0) (by decide +kernel) (by decide) ?_
    refine mV_iload_n (k := 2) (by decide +kernel) rfl ?_
    refine mV_aload_n (k := 3) (by decide +kernel) rfl ?_
    refine mV_cV (as := [.ref 102, .int (nI 0), .int v2, .ref (104 + 2 * ((v1 * (nI 8)) + v2).toNatClampNeg)]) (rest := []) (mc1 := 0) (ms1 := 0) (mc := 0) (ms := 0) (by decide +kernel) md_X3_runs lk_2_57 sh_91 rfl rfl rfl (Nat.le_of_ble_eq_true rfl) (mC.mono (mm_contV (fun G3 hK => ?_)) h)
    replace h := hK
    refine mV_aload_n (k := 0) (by decide +kernel) rfl ?_
    refine mV_gfr (r := some 91) (by decide +kernel) fk_2_40 sh_98 (mm_rrs st_98_2) rfl ?_
    refine mV_gfr (r := some 92) (by decide +kernel) fk_2_63 sh_91 (mm_rrs st_91_0) rfl ?_
    refine mV_aload_n (k := 3) (by decide +kernel) rfl ?_
    refine mV_cV (as := [.ref (104 + 2 * ((v1 * (nI 8)) + v2).toNatClampNeg)]) (rest := []) (mc1 := 0) (ms1 := 0) (mc := 0) (ms := 0) (by decide +kernel) md_X0_isLike lk_2_77 sh_92 rfl rfl rfl (Nat.le_of_ble_eq_true rfl) (mC.mono (mm_contI (fun r4 G5 hK => ?_)) h)
    replace h := hK
    refine mV_if_ne (off := 5) (tgt := 55) (by decide +kernel) (by decide) (fun hc => ?_) (fun hc => ?_)
    · replace h := h.1 hc
      refine mV_iincc (i := 2) (n := 1) (c := nI 1) (ls' := [some (.ref 98), some (.int v1), some (.int (v2 + (nI 1))), some (.ref (104 + 2 * ((v1 * (nI 8)) + v2).toNatClampNeg))]) (by decide +kernel) (by decide) rfl (Nat.le_of_ble_eq_true rfl) rfl rfl ?_
      refine mV_goto (off := -56) (tgt := 2) (by decide +kernel) (by decide) ?_
      refine mV_fg [3] (ls' := [some (.ref 98), some (.int v1), some (.int (v2 + (nI 1))), none]) rfl ?_
      exact h
    · replace h := h.2 hc
      refine mV_iconst (n := 0) (v := nI 0) (by decide +kernel) (by decide) ?_
      exact mV_zret (by decide +kernel) rfl (by decide) h
set_option maxRecDepth 100000 in
set_option maxHeartbeats 4000000 in
theorem e_X2_reachedLines {l : Launch} {κ : mm_K} {d : Nat} {G : mm_G} {K : Int32 → mm_G → Prop} (a1 : Int32) (h : mC l κ true (d + 3) 0 0 m_X2_know [.ref 98, .int a1] G (rV (fun G2 => vp_in a1 4 ∧ K (mg_i G2 100 a1.toNatClampNeg) G2))) : mC l κ true (d + 4) 0 0 m_X2_reachedLines [.ref 98, .int a1] G (rI K) := by
  refine mC.of (by decide) (Nat.le_of_ble_eq_true rfl) [some (.ref 98), some (.int a1)] rfl ?_
  refine mV_aload_n (k := 0) (by decide +kernel) rfl ?_
  refine mV_iload_n (k := 1) (by decide +kernel) rfl ?_
  refine mV_cV (as := [.int a1]) (rest := []) (mc1 := 0) (ms1 := 0) (mc := 0) (ms := 0) (by decide +kernel) md_X2_know lk_2_81 sh_98 rfl rfl rfl (Nat.le_of_ble_eq_true rfl) (mC.mono (mm_contV (fun G2 hK => ?_)) h)
  replace h := hK
  refine mV_aload_n (k := 0) (by decide +kernel) rfl ?_
  refine mV_gfr (r := some 100) (by decide +kernel) fk_2_17 sh_98 (mm_rrs st_98_4) rfl ?_
  refine mV_iload_n (k := 1) (by decide +kernel) rfl ?_
  refine mV_ialx (x := mg_i G2 100 a1.toNatClampNeg) (by decide +kernel) sh_100 h.1 rfl ?_
  replace h := h.2
  exact mV_iret (by decide +kernel) rfl h
set_option maxRecDepth 100000 in
set_option maxHeartbeats 4000000 in
theorem e_X2_lifeBy {l : Launch} {κ : mm_K} {d : Nat} {G : mm_G} {K : Int32 → mm_G → Prop} (a1 : Int32) (a2 : Int32) (a3 : Int32) (h : vp_in a1 4 ∧ mV l κ true (d + 5) 0 0 m_X2_lifeBy 20 [some (.ref 98), some (.int a1), some (.int a2), some (.int a3), some (.int (mg_i G (54 + 2 * a1.toNatClampNeg) 1)), some (.int (nI 0)), some (.int (nI 0))] [] G (rI K)) : mC l κ true (d + 5) 0 0 m_X2_lifeBy [.ref 98, .int a1, .int a2, .int a3] G (rI K) := by
  refine mC.of (by decide) (Nat.le_of_ble_eq_true rfl) [some (.ref 98), some (.int a1), some (.int a2), some (.int a3), none, none, none] rfl ?_
  refine mV_aload_n (k := 0) (by decide +kernel) rfl ?_
  refine mV_gfr (r := some 50) (by decide +kernel) fk_2_32 sh_98 (mm_rrs st_98_0) rfl ?_
  refine mV_gfr (r := some 51) (by decide +kernel) fk_2_51 sh_50 (mm_rrs st_50_0) rfl ?_
  refine mV_iload_n (k := 1) (by decide +kernel) rfl ?_
  have hj1 := h.1
  replace h := h.2
  refine mV_aal (t := 5) (r := some (54 + 2 * a1.toNatClampNeg)) (by decide +kernel) sh_51 (by decide) hj1 (mm_rrs (mm_rs50.2.2.2.2.2.2.2.1 _ (mm_ixlt hj1))) rfl ?_
  refine mV_gfix (x := mg_i G (54 + 2 * a1.toNatClampNeg) 1) (by decide +kernel) fk_2_89 (mm_rs50.2.2.2.2.2.2.2.2 _ (mm_ixlt hj1)).1 rfl ?_
  refine mV_istore (i := 4) (ls' := [some (.ref 98), some (.int a1), some (.int a2), some (.int a3), some (.int (mg_i G (54 + 2 * a1.toNatClampNeg) 1)), none, none]) (by decide +kernel) (Nat.le_of_ble_eq_true rfl) rfl rfl ?_
  refine mV_iconst (n := 0) (v := nI 0) (by decide +kernel) (by decide) ?_
  refine mV_istore (i := 5) (ls' := [some (.ref 98), some (.int a1), some (.int a2), some (.int a3), some (.int (mg_i G (54 + 2 * a1.toNatClampNeg) 1)), some (.int (nI 0)), none]) (by decide +kernel) (Nat.le_of_ble_eq_true rfl) rfl rfl ?_
  refine mV_iconst (n := 0) (v := nI 0) (by decide +kernel) (by decide) ?_
  refine mV_istore (i := 6) (ls' := [some (.ref 98), some (.int a1), some (.int a2), some (.int a3), some (.int (mg_i G (54 + 2 * a1.toNatClampNeg) 1)), some (.int (nI 0)), some (.int (nI 0))]) (by decide +kernel) (Nat.le_of_ble_eq_true rfl) rfl rfl ?_
  exact h
set_option maxRecDepth 100000 in
set_option maxHeartbeats 4000000 in
theorem p_X2_lifeBy_20 {l : Launch} {κ : mm_K} {d : Nat} {G : mm_G} {K : Int32 → mm_G → Prop} (v1 : Int32) (v2 : Int32) (v3 : Int32) (v4 : Int32) (v5 : Int32) (v6 : Int32) (h : ((v4 ≤ v6 → K (v4 + (nI 1)) G) ∧ (¬ v4 ≤ v6 → mC l κ true (d + 4) 0 0 m_X2_victim [.ref 98, .int v1, .int v2, .int v3, .int v5] G (rI (fun r1 G2 => mC l κ true (d + 4) 0 0 m_X2_firstOther [.ref 98, .int v1, .int (v5 ||| ((nI 1) <<< (r1 &&& 31)))] G2 (rI (fun r3 G4 => ((r3 = (-2) → mV l κ true (d + 5) 0 0 m_X2_lifeBy 20 [some (.ref 98), some (.int v1), some (.int v2), some (.int v3), some (.int v4), some (.int (v5 ||| ((nI 1) <<< (r1 &&& 31)))), some (.int (v6 + (nI 1)))] [] G4 (rI K)) ∧ (¬ r3 = (-2) → K (v6 + (nI 1)) G4))))))))) : mV l κ true (d + 5) 0 0 m_X2_lifeBy 20 [some (.ref 98), some (.int v1), some (.int v2), some (.int v3), some (.int v4), some (.int v5), some (.int v6)] [] G (rI K) := by
  refine mV_iload (i := 6) (by decide +kernel) rfl ?_
  refine mV_iload (i := 4) (by decide +kernel) rfl ?_
  refine mV_icmp_ge (off := 42) (tgt := 66) (by decide +kernel) (by decide) (fun hc => ?_) (fun hc => ?_)
  · replace h := h.1 hc
    refine mV_iload (i := 4) (by decide +kernel) rfl ?_
    refine mV_iconst (n := 1) (v := nI 1) (by decide +kernel) (by decide) ?_
    refine mV_iadd (by decide +kernel) ?_
    exact mV_iret (by decide +kernel) rfl h
  · replace h := h.2 hc
    refine mV_iload (i := 5) (by decide +kernel) rfl ?_
    refine mV_iconst (n := 1) (v := nI 1) (by decide +kernel) (by decide) ?_
    refine mV_aload_n (k := 0) (by decide +kernel) rfl ?_
    refine mV_iload_n (k := 1) (by decide +kernel) rfl ?_
    refine mV_iload_n (k := 2) (by decide +kernel) rfl ?_
    refine mV_iload_n (k := 3) (by decide +kernel) rfl ?_
    refine mV_iload (i := 5) (by decide +kernel) rfl ?_
    refine mV_cV (as := [.int v1, .int v2, .int v3, .int v5]) (rest := [.int (nI 1), .int v5]) (mc1 := 0) (ms1 := 0) (mc := 0) (ms := 0) (by decide +kernel) md_X2_victim lk_2_119 sh_98 rfl rfl rfl (Nat.le_of_ble_eq_true rfl) (mC.mono (mm_contI (fun r1 G2 hK => ?_)) h)
    replace h := hK
    refine mV_ishl (by decide +kernel) ?_
    refine mV_ior (by decide +kernel) ?_
    refine mV_istore (i := 5) (ls' := [some (.ref 98), some (.int v1), some (.int v2), some (.int v3), some (.int v4), some (.int (v5 ||| ((nI 1) <<< (r1 &&& 31)))), some (.int v6)]) (by decide +kernel) (Nat.le_of_ble_eq_true rfl) rfl rfl ?_
    refine mV_aload_n (k := 0) (by decide +kernel) rfl ?_
    refine mV_iload_n (k := 1) (by decide +kernel) rfl ?_
    refine mV_iload (i := 5) (by decide +kernel) rfl ?_
    refine mV_cV (as := [.int v1, .int (v5 ||| ((nI 1) <<< (r1 &&& 31)))]) (rest := []) (mc1 := 0) (ms1 := 0) (mc := 0) (ms := 0) (by decide +kernel) md_X2_firstOther lk_2_90 sh_98 rfl rfl rfl (Nat.le_of_ble_eq_true rfl) (mC.mono (mm_contI (fun r3 G4 hK => ?_)) h)
    replace h := hK
    refine mV_bipush (n := -2) (v := (-2)) (by decide +kernel) (by decide) ?_
    refine mV_icmp_eq (off := 8) (tgt := 60) (by decide +kernel) (by decide) (fun hc => ?_) (fun hc => ?_)
    · replace h := h.1 hc
      refine mV_iincc (i := 6) (n := 1) (c := nI 1) (ls' := [some (.ref 98), some (.int v1), some (.int v2), some (.int v3), some (.int v4), some (.int (v5 ||| ((nI 1) <<< (r1 &&& 31)))), some (.int (v6 + (nI 1)))]) (by decide +kernel) (by decide) rfl (Nat.le_of_ble_eq_true rfl) rfl rfl ?_
      refine mV_goto (off := -43) (tgt := 20) (by decide +kernel) (by decide) ?_
      exact h
    · replace h := h.2 hc
      refine mV_iload (i := 6) (by decide +kernel) rfl ?_
      refine mV_iconst (n := 1) (v := nI 1) (by decide +kernel) (by decide) ?_
      refine mV_iadd (by decide +kernel) ?_
      exact mV_iret (by decide +kernel) rfl h
set_option maxRecDepth 100000 in
set_option maxHeartbeats 4000000 in
theorem e_X2_victim {l : Launch} {κ : mm_K} {d : Nat} {G : mm_G} {K : Int32 → mm_G → Prop} (a1 : Int32) (a2 : Int32) (a3 : Int32) (a4 : Int32) (h : mC l κ true (d + 1) 0 0 m_J6_bitCount_0f7a4 [.int a4] G (rI (fun r1 G2 => vp_in a1 4 ∧ ((a2 = nI 0 → mC l κ true (d + 1) 0 0 m_X2_lineThere [.int a4, .int (((mg_i G2 (54 + 2 * a1.toNatClampNeg) 1) - r1) - (nI 1))] G2 (rI (fun r8 G9 => K r8 G9))) ∧ (a2 = nI 1 → mC l κ true (d + 1) 0 0 m_X2_lineThere [.int a4, .int (nI 0)] G2 (rI (fun r10 G11 => K r10 G11))) ∧ (a2 = nI 2 → vp_in a1 4 ∧ mC l κ true (d + 1) 0 0 m_X2_longestThere [.ref (54 + 2 * a1.toNatClampNeg), .int a4] G2 (rI (fun r13 G14 => K r13 G14))) ∧ ((a2.toInt < 0 ∨ 2 < a2.toInt) → mC l κ true (d + 1) 0 0 m_X12_lot [.int ((mg_i G2 (54 + 2 * a1.toNatClampNeg) 1) - r1), .int a3, .int r1] G2 (rI (fun r4 G5 => mC l κ true (d + 1) 0 0 m_X2_lineThere [.int a4, .int r4] G5 (rI (fun r6 G7 => K r6 G7))))))))) : mC l κ true (d + 2) 0 0 m_X2_victim [.ref 98, .int a1, .int a2, .int a3, .int a4] G (rI K) := by
  refine mC.of (by decide) (Nat.le_of_ble_eq_true rfl) [some (.ref 98), some (.int a1), some (.int a2), some (.int a3), some (.int a4), none, none] rfl ?_
  refine mV_iload (i := 4) (by decide +kernel) rfl ?_
  refine mV_cS (as := [.int a4]) (rest := []) (mc1 := 0) (ms1 := 0) (mc := 0) (ms := 0) (by decide +kernel) md_J6_bitCount_0f7a4 lk_2_123 rfl rfl (Nat.le_of_ble_eq_true rfl) (mC.mono (mm_contI (fun r1 G2 hK => ?_)) h)
  replace h := hK
  refine mV_istore (i := 5) (ls' := [some (.ref 98), some (.int a1), some (.int a2), some (.int a3), some (.int a4), some (.int r1), none]) (by decide +kernel) (Nat.le_of_ble_eq_true rfl) rfl rfl ?_
  refine mV_aload_n (k := 0) (by decide +kernel) rfl ?_
  refine mV_gfr (r := some 50) (by decide +kernel) fk_2_32 sh_98 (mm_rrs st_98_0) rfl ?_
  refine mV_gfr (r := some 51) (by decide +kernel) fk_2_51 sh_50 (mm_rrs st_50_0) rfl ?_
  refine mV_iload_n (k := 1) (by decide +kernel) rfl ?_
  have hj3 := h.1
  replace h := h.2
  refine mV_aal (t := 5) (r := some (54 + 2 * a1.toNatClampNeg)) (by decide +kernel) sh_51 (by decide) hj3 (mm_rrs (mm_rs50.2.2.2.2.2.2.2.1 _ (mm_ixlt hj3))) rfl ?_
  refine mV_gfix (x := mg_i G2 (54 + 2 * a1.toNatClampNeg) 1) (by decide +kernel) fk_2_89 (mm_rs50.2.2.2.2.2.2.2.2 _ (mm_ixlt hj3)).1 rfl ?_
  refine mV_iload (i := 5) (by decide +kernel) rfl ?_
  refine mV_isub (by decide +kernel) ?_
  refine mV_istore (i := 6) (ls' := [some (.ref 98), some (.int a1), some (.int a2), some (.int a3), some (.int a4), some (.int r1), some (.int ((mg_i G2 (54 + 2 * a1.toNatClampNeg) 1) - r1))]) (by decide +kernel) (Nat.le_of_ble_eq_true rfl) rfl rfl ?_
  refine mV_iload_n (k := 2) (by decide +kernel) rfl ?_
  have hsw : (a2.toInt < 0 ∨ 2 < a2.toInt) ∨ a2.toInt = 0 ∨ a2.toInt = 1 ∨ a2.toInt = 2 := by omega
  rcases hsw with hc | hc | hc | hc
  · replace h := h.2.2.2 hc
    refine mV_tabOut (dflt := 59) (lo := 0) (hi := 2) (offs := #[27, 37, 44]) (len := 27) (tgt := 84) (by decide +kernel) hc (by decide) ?_
    refine mV_iload (i := 4) (by decide +kernel) rfl ?_
    refine mV_iload (i := 6) (by decide +kernel) rfl ?_
    refine mV_iload_n (k := 3) (by decide +kernel) rfl ?_
    refine mV_iload (i := 5) (by decide +kernel) rfl ?_
    refine mV_cSN (as := [.int ((mg_i G2 (54 + 2 * a1.toNatClampNeg) 1) - r1), .int a3, .int r1]) (rest := [.int a4]) (mc1 := 0) (ms1 := 0) (mc := 0) (ms := 0) (by decide +kernel) md_X12_lot lk_2_135 rfl rfl (Nat.le_of_ble_eq_true rfl) (mC.mono (mm_contI (fun r4 G5 hK => ?_)) h)
    replace h := hK
    refine mV_cS (as := [.int a4, .int r4]) (rest := []) (mc1 := 0) (ms1 := 0) (mc := 0) (ms := 0) (by decide +kernel) md_X2_lineThere lk_2_128 rfl rfl (Nat.le_of_ble_eq_true rfl) (mC.mono (mm_contI (fun r6 G7 hK => ?_)) h)
    replace h := hK
    exact mV_iret (by decide +kernel) rfl h
  · replace h := h.1 (mm_eqI hc (by decide))
    refine mV_tabIn (dflt := 59) (lo := 0) (hi := 2) (offs := #[27, 37, 44]) (len := 27) (off := 27) (tgt := 52) (by decide +kernel) (by rw [hc]; decide) (by rw [hc]; decide) (by rw [hc]; rfl) (by decide) ?_
    refine mV_iload (i := 4) (by decide +kernel) rfl ?_
    refine mV_iload (i := 6) (by decide +kernel) rfl ?_
    refine mV_iconst (n := 1) (v := nI 1) (by decide +kernel) (by decide) ?_
    refine mV_isub (by decide +kernel) ?_
    refine mV_cS (as := [.int a4, .int (((mg_i G2 (54 + 2 * a1.toNatClampNeg) 1) - r1) - (nI 1))]) (rest := []) (mc1 := 0) (ms1 := 0) (mc := 0) (ms := 0) (by decide +kernel) md_X2_lineThere lk_2_128 rfl rfl (Nat.le_of_ble_eq_true rfl) (mC.mono (mm_contI (fun r8 G9 hK => ?_)) h)
    replace h := hK
    exact mV_iret (by decide +kernel) rfl h
  · replace h := h.2.1 (mm_eqI hc (by decide))
    refine mV_tabIn (dflt := 59) (lo := 0) (hi := 2) (offs := #[27, 37, 44]) (len := 27) (off := 37) (tgt := 62) (by decide +kernel) (by rw [hc]; decide) (by rw [hc]; decide) (by rw [hc]; rfl) (by decide) ?_
    refine mV_iload (i := 4) (by decide +kernel) rfl ?_
    refine mV_iconst (n := 0) (v := nI 0) (by decide +kernel) (by decide) ?_
    refine mV_cS (as := [.int a4, .int (nI 0)]) (rest := []) (mc1 := 0) (ms1 := 0) (mc := 0) (ms := 0) (by decide +kernel) md_X2_lineThere lk_2_128 rfl rfl (Nat.le_of_ble_eq_true rfl) (mC.mono (mm_contI (fun r10 G11 hK => ?_)) h)
    replace h := hK
    exact mV_iret (by decide +kernel) rfl h
  · replace h := h.2.2.1 (mm_eqI hc (by decide))
    refine mV_tabIn (dflt := 59) (lo := 0) (hi := 2) (offs := #[27, 37, 44]) (len := 27) (off := 44) (tgt := 69) (by decide +kernel) (by rw [hc]; decide) (by rw [hc]; decide) (by rw [hc]; rfl) (by decide) ?_
    refine mV_aload_n (k := 0) (by decide +kernel) rfl ?_
    refine mV_gfr (r := some 50) (by decide +kernel) fk_2_32 sh_98 (mm_rrs st_98_0) rfl ?_
    refine mV_gfr (r := some 51) (by decide +kernel) fk_2_51 sh_50 (mm_rrs st_50_0) rfl ?_
    refine mV_iload_n (k := 1) (by decide +kernel) rfl ?_
    have hj12 := h.1
    replace h := h.2
    refine mV_aal (t := 5) (r := some (54 + 2 * a1.toNatClampNeg)) (by decide +kernel) sh_51 (by decide) hj12 (mm_rrs (mm_rs50.2.2.2.2.2.2.2.1 _ (mm_ixlt hj12))) rfl ?_
    refine mV_iload (i := 4) (by decide +kernel) rfl ?_
    refine mV_cS (as := [.ref (54 + 2 * a1.toNatClampNeg), .int a4]) (rest := []) (mc1 := 0) (ms1 := 0) (mc := 0) (ms := 0) (by decide +kernel) md_X2_longestThere lk_2_131 rfl rfl (Nat.le_of_ble_eq_true rfl) (mC.mono (mm_contI (fun r13 G14 hK => ?_)) h)
    replace h := hK
    exact mV_iret (by decide +kernel) rfl h
set_option maxRecDepth 100000 in
set_option maxHeartbeats 4000000 in
theorem e_X2_lineThere {l : Launch} {κ : mm_K} {d : Nat} {G : mm_G} {K : Int32 → mm_G → Prop} (a1 : Int32) (a2 : Int32) (h : mV l κ true d 0 0 m_X2_lineThere 4 [some (.int a1), some (.int a2), some (.int (nI 0)), some (.int (nI 0))] [] G (rI K)) : mC l κ true d 0 0 m_X2_lineThere [.int a1, .int a2] G (rI K) := by
  refine mC.of (by decide) (Nat.le_of_ble_eq_true rfl) [some (.int a1), some (.int a2), none, none] rfl ?_
  refine mV_iconst (n := 0) (v := nI 0) (by decide +kernel) (by decide) ?_
  refine mV_istore_n (k := 2) (ls' := [some (.int a1), some (.int a2), some (.int (nI 0)), none]) (by decide +kernel) (Nat.le_of_ble_eq_true rfl) rfl rfl ?_
  refine mV_iconst (n := 0) (v := nI 0) (by decide +kernel) (by decide) ?_
  refine mV_istore_n (k := 3) (ls' := [some (.int a1), some (.int a2), some (.int (nI 0)), some (.int (nI 0))]) (by decide +kernel) (Nat.le_of_ble_eq_true rfl) rfl rfl ?_
  exact h
set_option maxRecDepth 100000 in
set_option maxHeartbeats 4000000 in
theorem p_X2_lineThere_4 {l : Launch} {κ : mm_K} {d : Nat} {G : mm_G} {K : Int32 → mm_G → Prop} (v0 : Int32) (v1 : Int32) (v2 : Int32) (v3 : Int32) (h : (((nI 16) ≤ v3 → K (nI 0) G) ∧ (¬ (nI 16) ≤ v3 → ((¬ (((v0.toUInt32 >>> (v3.toUInt32 &&& Int32.toUInt32 31)).toInt32) &&& (nI 1)) = 0 → mV l κ true d 0 0 m_X2_lineThere 4 [some (.int v0), some (.int v1), some (.int v2), some (.int (v3 + (nI 1)))] [] G (rI K)) ∧ ((((v0.toUInt32 >>> (v3.toUInt32 &&& Int32.toUInt32 31)).toInt32) &&& (nI 1)) = 0 → ((¬ v2 = v1 → mV l κ true d 0 0 m_X2_lineThere 4 [some (.int v0), some (.int v1), some (.int (v2 + (nI 1))), some (.int (v3 + (nI 1)))] [] G (rI K)) ∧ (v2 = v1 → K v3 G))))))) : mV l κ true d 0 0 m_X2_lineThere 4 [some (.int v0), some (.int v1), some (.int v2), some (.int v3)] [] G (rI K) := by
  refine mV_iload_n (k := 3) (by decide +kernel) rfl ?_
  refine mV_bipush (n := 16) (v := nI 16) (by decide +kernel) (by decide) ?_
  refine mV_icmp_ge (off := 27) (tgt := 34) (by decide +kernel) (by decide) (fun hc => ?_) (fun hc => ?_)
  · replace h := h.1 hc
    refine mV_iconst (n := 0) (v := nI 0) (by decide +kernel) (by decide) ?_
    exact mV_iret (by decide +kernel) rfl h
  · replace h := h.2 hc
    refine mV_iload_n (k := 0) (by decide +kernel) rfl ?_
    refine mV_iload_n (k := 3) (by decide +kernel) rfl ?_
    refine mV_iushr (by decide +kernel) ?_
    refine mV_iconst (n := 1) (v := nI 1) (by decide +kernel) (by decide) ?_
    refine mV_iand (by decide +kernel) ?_
    refine mV_if_ne (off := 13) (tgt := 28) (by decide +kernel) (by decide) (fun hc => ?_) (fun hc => ?_)
    · replace h := h.1 hc
      refine mV_iincc (i := 3) (n := 1) (c := nI 1) (ls' := [some (.int v0), some (.int v1), some (.int v2), some (.int (v3 + (nI 1)))]) (by decide +kernel) (by decide) rfl (Nat.le_of_ble_eq_true rfl) rfl rfl ?_
      refine mV_goto (off := -27) (tgt := 4) (by decide +kernel) (by decide) ?_
      exact h
    · replace h := h.2 hc
      refine mV_iload_n (k := 2) (by decide +kernel) rfl ?_
      refine mV_iload_n (k := 1) (by decide +kernel) rfl ?_
      refine mV_icmp_ne (off := 5) (tgt := 25) (by decide +kernel) (by decide) (fun hc => ?_) (fun hc => ?_)
      · replace h := h.1 hc
        refine mV_iincc (i := 2) (n := 1) (c := nI 1) (ls' := [some (.int v0), some (.int v1), some (.int (v2 + (nI 1))), some (.int v3)]) (by decide +kernel) (by decide) rfl (Nat.le_of_ble_eq_true rfl) rfl rfl ?_
        refine mV_iincc (i := 3) (n := 1) (c := nI 1) (ls' := [some (.int v0), some (.int v1), some (.int (v2 + (nI 1))), some (.int (v3 + (nI 1)))]) (by decide +kernel) (by decide) rfl (Nat.le_of_ble_eq_true rfl) rfl rfl ?_
        refine mV_goto (off := -27) (tgt := 4) (by decide +kernel) (by decide) ?_
        exact h
      · replace h := h.2 hc
        refine mV_iload_n (k := 3) (by decide +kernel) rfl ?_
        exact mV_iret (by decide +kernel) rfl h
set_option maxRecDepth 100000 in
set_option maxHeartbeats 4000000 in
theorem e_X2_longestThere {l : Launch} {κ : mm_K} {d : Nat} {G : mm_G} {K : Int32 → mm_G → Prop} (a1 : Nat) (ha1 : RowAt a1) (a2 : Int32) (h : mV l κ true d 0 0 m_X2_longestThere 7 [some (.ref a1), some (.int a2), some (.int (nI 0)), some (.int (nI 0)), some (.int (nI 0))] [] G (rI K)) : mC l κ true d 0 0 m_X2_longestThere [.ref a1, .int a2] G (rI K) := by
  refine mC.of (by decide) (Nat.le_of_ble_eq_true rfl) [some (.ref a1), some (.int a2), none, none, none] rfl ?_
  refine mV_iconst (n := 0) (v := nI 0) (by decide +kernel) (by decide) ?_
  refine mV_istore_n (k := 2) (ls' := [some (.ref a1), some (.int a2), some (.int (nI 0)), none, none]) (by decide +kernel) (Nat.le_of_ble_eq_true rfl) rfl rfl ?_
  refine mV_iconst (n := 0) (v := nI 0) (by decide +kernel) (by decide) ?_
  refine mV_istore_n (k := 3) (ls' := [some (.ref a1), some (.int a2), some (.int (nI 0)), some (.int (nI 0)), none]) (by decide +kernel) (Nat.le_of_ble_eq_true rfl) rfl rfl ?_
  refine mV_iconst (n := 0) (v := nI 0) (by decide +kernel) (by decide) ?_
  refine mV_istore (i := 4) (ls' := [some (.ref a1), some (.int a2), some (.int (nI 0)), some (.int (nI 0)), some (.int (nI 0))]) (by decide +kernel) (Nat.le_of_ble_eq_true rfl) rfl rfl ?_
  exact h
set_option maxRecDepth 100000 in
set_option maxHeartbeats 4000000 in
theorem p_X2_longestThere_7 {l : Launch} {κ : mm_K} {d : Nat} {G : mm_G} {K : Int32 → mm_G → Prop} (a1 : Nat) (ha1 : RowAt a1) (v1 : Int32) (v2 : Int32) (v3 : Int32) (v4 : Int32) (h : (((mg_i G a1 1) ≤ v4 → K v2 G) ∧ (¬ (mg_i G a1 1) ≤ v4 → ((¬ (((v1.toUInt32 >>> (v4.toUInt32 &&& Int32.toUInt32 31)).toInt32) &&& (nI 1)) = 0 → mV l κ true d 0 0 m_X2_longestThere 7 [some (.ref a1), some (.int v1), some (.int v2), some (.int v3), some (.int (v4 + (nI 1)))] [] G (rI K)) ∧ ((((v1.toUInt32 >>> (v4.toUInt32 &&& Int32.toUInt32 31)).toInt32) &&& (nI 1)) = 0 → vp_in v4 16 ∧ ∃ t2, mg_r G (a1 + 1) v4.toNatClampNeg = some t2 ∧ LineAt t2 ∧ (((mg_i G t2 2) ≤ v3 → mV l κ true d 0 0 m_X2_longestThere 7 [some (.ref a1), some (.int v1), some (.int v2), some (.int v3), some (.int (v4 + (nI 1)))] [] G (rI K)) ∧ (¬ (mg_i G t2 2) ≤ v3 → vp_in v4 16 ∧ ∃ t4, mg_r G (a1 + 1) v4.toNatClampNeg = some t4 ∧ LineAt t4 ∧ mV l κ true d 0 0 m_X2_longestThere 7 [some (.ref a1), some (.int v1), some (.int v4), some (.int (mg_i G t4 2)), some (.int (v4 + (nI 1)))] [] G (rI K)))))))) : mV l κ true d 0 0 m_X2_longestThere 7 [some (.ref a1), some (.int v1), some (.int v2), some (.int v3), some (.int v4)] [] G (rI K) := by
  refine mV_iload (i := 4) (by decide +kernel) rfl ?_
  refine mV_aload_n (k := 0) (by decide +kernel) rfl ?_
  refine mV_gfix (x := mg_i G a1 1) (by decide +kernel) fk_2_89 ha1.1 rfl ?_
  refine mV_icmp_ge (off := 46) (tgt := 59) (by decide +kernel) (by decide) (fun hc => ?_) (fun hc => ?_)
  · replace h := h.1 hc
    refine mV_iload_n (k := 2) (by decide +kernel) rfl ?_
    exact mV_iret (by decide +kernel) rfl h
  · replace h := h.2 hc
    refine mV_iload_n (k := 1) (by decide +kernel) rfl ?_
    refine mV_iload (i := 4) (by decide +kernel) rfl ?_
    refine mV_iushr (by decide +kernel) ?_
    refine mV_iconst (n := 1) (v := nI 1) (by decide +kernel) (by decide) ?_
    refine mV_iand (by decide +kernel) ?_
    refine mV_if_ne (off := 31) (tgt := 53) (by decide +kernel) (by decide) (fun hc => ?_) (fun hc => ?_)
    · replace h := h.1 hc
      refine mV_iincc (i := 4) (n := 1) (c := nI 1) (ls' := [some (.ref a1), some (.int v1), some (.int v2), some (.int v3), some (.int (v4 + (nI 1)))]) (by decide +kernel) (by decide) rfl (Nat.le_of_ble_eq_true rfl) rfl rfl ?_
      refine mV_goto (off := -49) (tgt := 7) (by decide +kernel) (by decide) ?_
      exact h
    · replace h := h.2 hc
      refine mV_aload_n (k := 0) (by decide +kernel) rfl ?_
      refine mV_gfr (r := some (a1 + 1)) (by decide +kernel) fk_2_107 ha1.1 (mm_rrs ha1.2.2.1) rfl ?_
      refine mV_iload (i := 4) (by decide +kernel) rfl ?_
      have hj1 := h.1
      replace h := h.2
      obtain ⟨t2, hrt2, hat2, h⟩ := h
      refine mV_aal (t := 4) (r := some t2) (by decide +kernel) ha1.2.1 (by decide) hj1 ((mm_rrd (ha1.2.2.2 _ (mm_ixlt hj1))).trans hrt2) rfl ?_
      refine mV_gfix (x := mg_i G t2 2) (by decide +kernel) fk_2_139 hat2 rfl ?_
      refine mV_iload_n (k := 3) (by decide +kernel) rfl ?_
      refine mV_icmp_le (off := 17) (tgt := 53) (by decide +kernel) (by decide) (fun hc => ?_) (fun hc => ?_)
      · replace h := h.1 hc
        refine mV_iincc (i := 4) (n := 1) (c := nI 1) (ls' := [some (.ref a1), some (.int v1), some (.int v2), some (.int v3), some (.int (v4 + (nI 1)))]) (by decide +kernel) (by decide) rfl (Nat.le_of_ble_eq_true rfl) rfl rfl ?_
        refine mV_goto (off := -49) (tgt := 7) (by decide +kernel) (by decide) ?_
        exact h
      · replace h := h.2 hc
        refine mV_aload_n (k := 0) (by decide +kernel) rfl ?_
        refine mV_gfr (r := some (a1 + 1)) (by decide +kernel) fk_2_107 ha1.1 (mm_rrs ha1.2.2.1) rfl ?_
        refine mV_iload (i := 4) (by decide +kernel) rfl ?_
        have hj3 := h.1
        replace h := h.2
        obtain ⟨t4, hrt4, hat4, h⟩ := h
        refine mV_aal (t := 4) (r := some t4) (by decide +kernel) ha1.2.1 (by decide) hj3 ((mm_rrd (ha1.2.2.2 _ (mm_ixlt hj3))).trans hrt4) rfl ?_
        refine mV_gfix (x := mg_i G t4 2) (by decide +kernel) fk_2_139 hat4 rfl ?_
        refine mV_istore_n (k := 3) (ls' := [some (.ref a1), some (.int v1), some (.int v2), some (.int (mg_i G t4 2)), some (.int v4)]) (by decide +kernel) (Nat.le_of_ble_eq_true rfl) rfl rfl ?_
        refine mV_iload (i := 4) (by decide +kernel) rfl ?_
        refine mV_istore_n (k := 2) (ls' := [some (.ref a1), some (.int v1), some (.int v4), some (.int (mg_i G t4 2)), some (.int v4)]) (by decide +kernel) (Nat.le_of_ble_eq_true rfl) rfl rfl ?_
        refine mV_iincc (i := 4) (n := 1) (c := nI 1) (ls' := [some (.ref a1), some (.int v1), some (.int v4), some (.int (mg_i G t4 2)), some (.int (v4 + (nI 1)))]) (by decide +kernel) (by decide) rfl (Nat.le_of_ble_eq_true rfl) rfl rfl ?_
        refine mV_goto (off := -49) (tgt := 7) (by decide +kernel) (by decide) ?_
        exact h
set_option maxRecDepth 100000 in
set_option maxHeartbeats 4000000 in
theorem e_X3_runs0 {l : Launch} {κ : mm_K} {d : Nat} {G : mm_G} {K : mm_G → Prop} (a1 : Nat) (ha1 : RowAt a1) (a2 : Int32) (a3 : Int32) (h : mC l κ true (d + 1) 0 0 m_X3_begin [.ref 91, .ref a1, .int a2, .int a3, .null] G (rV (fun G2 => mV l κ true (d + 2) 0 0 m_X3_runs 12 [some (.ref 91), some (.ref a1), some (.int a2), some (.int a3), some .null, some (.int (nI 0))] [] G2 (rV K)))) : mC l κ true (d + 2) 0 0 m_X3_runs [.ref 91, .ref a1, .int a2, .int a3, .null] G (rV K) := by
  refine mC.of (by decide) (Nat.le_of_ble_eq_true rfl) [some (.ref 91), some (.ref a1), some (.int a2), some (.int a3), some .null, none] rfl ?_
  refine mV_aload_n (k := 0) (by decide +kernel) rfl ?_
  refine mV_aload_n (k := 1) (by decide +kernel) rfl ?_
  refine mV_iload_n (k := 2) (by decide +kernel) rfl ?_
  refine mV_iload_n (k := 3) (by decide +kernel) rfl ?_
  refine mV_aloadN (i := 4) (by decide +kernel) rfl ?_
  refine mV_cV (as := [.ref a1, .int a2, .int a3, .null]) (rest := []) (mc1 := 0) (ms1 := 0) (mc := 0) (ms := 0) (by decide +kernel) md_X3_begin lk_3_42 sh_91 rfl rfl rfl (Nat.le_of_ble_eq_true rfl) (mC.mono (mm_contV (fun G2 hK => ?_)) h)
  replace h := hK
  refine mV_iconst (n := 0) (v := nI 0) (by decide +kernel) (by decide) ?_
  refine mV_istore (i := 5) (ls' := [some (.ref 91), some (.ref a1), some (.int a2), some (.int a3), some .null, some (.int (nI 0))]) (by decide +kernel) (Nat.le_of_ble_eq_true rfl) rfl rfl ?_
  exact h
set_option maxRecDepth 100000 in
set_option maxHeartbeats 4000000 in
theorem p_X3_runs0_12 {l : Launch} {κ : mm_K} {d : Nat} {G : mm_G} {K : mm_G → Prop} (a1 : Nat) (ha1 : RowAt a1) (v2 : Int32) (v3 : Int32) (v5 : Int32) (h : (((nI 300) < v5 → K G) ∧ (¬ (nI 300) < v5 → mC l κ true (d + 1) 0 0 m_X3_comesToLine [.ref 91] G (rI (fun r1 G2 => ((¬ r1 = 0 → (((mg_i G2 62 5) ≤ v5 → K (ms_i G2 92 2 (nI 1))) ∧ (¬ (mg_i G2 62 5) ≤ v5 → ((v5 < (nI 300) → mC l κ true (d + 1) 0 0 m_X3_doesLine [.ref 91] G2 (rI (fun r3 G4 => ((¬ r3 = 0 → mV l κ true (d + 2) 0 0 m_X3_runs 12 [some (.ref 91), some (.ref a1), some (.int v2), some (.int v3), some .null, some (.int (v5 + (nI 1)))] [] G4 (rV K)) ∧ (r3 = 0 → K G4))))) ∧ (¬ v5 < (nI 300) → K (ms_i G2 92 2 (nI 1))))))) ∧ (r1 = 0 → K (ms_i G2 92 2 (nI 0))))))))) : mV l κ true (d + 2) 0 0 m_X3_runs 12 [some (.ref 91), some (.ref a1), some (.int v2), some (.int v3), some .null, some (.int v5)] [] G (rV K) := by
  refine mV_iload (i := 5) (by decide +kernel) rfl ?_
  refine mV_sipush (n := 300) (v := nI 300) (by decide +kernel) (by decide) ?_
  refine mV_icmp_gt (off := 62) (tgt := 79) (by decide +kernel) (by decide) (fun hc => ?_) (fun hc => ?_)
  · replace h := h.1 hc
    exact mV_vret (by decide +kernel) rfl h
  · replace h := h.2 hc
    refine mV_aload_n (k := 0) (by decide +kernel) rfl ?_
    refine mV_cV (as := []) (rest := []) (mc1 := 0) (ms1 := 0) (mc := 0) (ms := 0) (by decide +kernel) md_X3_comesToLine lk_3_46 sh_91 rfl rfl rfl (Nat.le_of_ble_eq_true rfl) (mC.mono (mm_contI (fun r1 G2 hK => ?_)) h)
    replace h := hK
    refine mV_if_ne (off := 12) (tgt := 36) (by decide +kernel) (by decide) (fun hc => ?_) (fun hc => ?_)
    · replace h := h.1 hc
      refine mV_iload (i := 5) (by decide +kernel) rfl ?_
      refine mV_aload_n (k := 0) (by decide +kernel) rfl ?_
      refine mV_gfr (r := some 62) (by decide +kernel) fk_3_38 sh_91 (mm_rrs st_91_7) rfl ?_
      refine mV_gfix (x := mg_i G2 62 5) (by decide +kernel) fk_3_54 sh_62 rfl ?_
      refine mV_icmp_ge (off := 11) (tgt := 56) (by decide +kernel) (by decide) (fun hc => ?_) (fun hc => ?_)
      · replace h := h.1 hc
        refine mV_aload_n (k := 0) (by decide +kernel) rfl ?_
        refine mV_gfr (r := some 92) (by decide +kernel) fk_3_12 sh_91 (mm_rrs st_91_0) rfl ?_
        refine mV_iconst (n := 1) (v := nI 1) (by decide +kernel) (by decide) ?_
        refine mV_pfi (by decide +kernel) fk_3_50 sh_92 ?_
        exact mV_vret (by decide +kernel) rfl h
      · replace h := h.2 hc
        refine mV_iload (i := 5) (by decide +kernel) rfl ?_
        refine mV_sipush (n := 300) (v := nI 300) (by decide +kernel) (by decide) ?_
        refine mV_icmp_lt (off := 12) (tgt := 65) (by decide +kernel) (by decide) (fun hc => ?_) (fun hc => ?_)
        · replace h := h.1 hc
          refine mV_aload_n (k := 0) (by decide +kernel) rfl ?_
          refine mV_cV (as := []) (rest := []) (mc1 := 0) (ms1 := 0) (mc := 0) (ms := 0) (by decide +kernel) md_X3_doesLine lk_3_59 sh_91 rfl rfl rfl (Nat.le_of_ble_eq_true rfl) (mC.mono (mm_contI (fun r3 G4 hK => ?_)) h)
          replace h := hK
          refine mV_if_ne (off := 4) (tgt := 73) (by decide +kernel) (by decide) (fun hc => ?_) (fun hc => ?_)
          · replace h := h.1 hc
            refine mV_iincc (i := 5) (n := 1) (c := nI 1) (ls' := [some (.ref 91), some (.ref a1), some (.int v2), some (.int v3), some .null, some (.int (v5 + (nI 1)))]) (by decide +kernel) (by decide) rfl (Nat.le_of_ble_eq_true rfl) rfl rfl ?_
            refine mV_goto (off := -64) (tgt := 12) (by decide +kernel) (by decide) ?_
            exact h
          · replace h := h.2 hc
            exact mV_vret (by decide +kernel) rfl h
        · replace h := h.2 hc
          refine mV_aload_n (k := 0) (by decide +kernel) rfl ?_
          refine mV_gfr (r := some 92) (by decide +kernel) fk_3_12 sh_91 (mm_rrs st_91_0) rfl ?_
          refine mV_iconst (n := 1) (v := nI 1) (by decide +kernel) (by decide) ?_
          refine mV_pfi (by decide +kernel) fk_3_50 sh_92 ?_
          exact mV_vret (by decide +kernel) rfl h
    · replace h := h.2 hc
      refine mV_aload_n (k := 0) (by decide +kernel) rfl ?_
      refine mV_gfr (r := some 92) (by decide +kernel) fk_3_12 sh_91 (mm_rrs st_91_0) rfl ?_
      refine mV_iconst (n := 0) (v := nI 0) (by decide +kernel) (by decide) ?_
      refine mV_pfi (by decide +kernel) fk_3_50 sh_92 ?_
      exact mV_vret (by decide +kernel) rfl h
set_option maxRecDepth 100000 in
set_option maxHeartbeats 4000000 in
theorem e_X3_runs1 {l : Launch} {κ : mm_K} {d : Nat} {G : mm_G} {K : mm_G → Prop} (a1 : Nat) (ha1 : RowAt a1) (a2 : Int32) (a3 : Int32) (a4 : Nat) (ha4 : DeedAt a4) (h : mC l κ true (d + 1) 0 0 m_X3_begin [.ref 91, .ref a1, .int a2, .int a3, .ref a4] G (rV (fun G2 => mV l κ true (d + 2) 0 0 m_X3_runs 12 [some (.ref 91), some (.ref a1), some (.int a2), some (.int a3), some (.ref a4), some (.int (nI 0))] [] G2 (rV K)))) : mC l κ true (d + 2) 0 0 m_X3_runs [.ref 91, .ref a1, .int a2, .int a3, .ref a4] G (rV K) := by
  refine mC.of (by decide) (Nat.le_of_ble_eq_true rfl) [some (.ref 91), some (.ref a1), some (.int a2), some (.int a3), some (.ref a4), none] rfl ?_
  refine mV_aload_n (k := 0) (by decide +kernel) rfl ?_
  refine mV_aload_n (k := 1) (by decide +kernel) rfl ?_
  refine mV_iload_n (k := 2) (by decide +kernel) rfl ?_
  refine mV_iload_n (k := 3) (by decide +kernel) rfl ?_
  refine mV_aload (i := 4) (by decide +kernel) rfl ?_
  refine mV_cV (as := [.ref a1, .int a2, .int a3, .ref a4]) (rest := []) (mc1 := 0) (ms1 := 0) (mc := 0) (ms := 0) (by decide +kernel) md_X3_begin lk_3_42 sh_91 rfl rfl rfl (Nat.le_of_ble_eq_true rfl) (mC.mono (mm_contV (fun G2 hK => ?_)) h)
  replace h := hK
  refine mV_iconst (n := 0) (v := nI 0) (by decide +kernel) (by decide) ?_
  refine mV_istore (i := 5) (ls' := [some (.ref 91), some (.ref a1), some (.int a2), some (.int a3), some (.ref a4), some (.int (nI 0))]) (by decide +kernel) (Nat.le_of_ble_eq_true rfl) rfl rfl ?_
  exact h
set_option maxRecDepth 100000 in
set_option maxHeartbeats 4000000 in
theorem p_X3_runs1_12 {l : Launch} {κ : mm_K} {d : Nat} {G : mm_G} {K : mm_G → Prop} (a1 : Nat) (ha1 : RowAt a1) (a4 : Nat) (ha4 : DeedAt a4) (v2 : Int32) (v3 : Int32) (v5 : Int32) (h : (((nI 300) < v5 → K G) ∧ (¬ (nI 300) < v5 → mC l κ true (d + 1) 0 0 m_X3_comesToLine [.ref 91] G (rI (fun r1 G2 => ((¬ r1 = 0 → (((mg_i G2 62 5) ≤ v5 → K (ms_i G2 92 2 (nI 1))) ∧ (¬ (mg_i G2 62 5) ≤ v5 → ((v5 < (nI 300) → mC l κ true (d + 1) 0 0 m_X3_doesLine [.ref 91] G2 (rI (fun r3 G4 => ((¬ r3 = 0 → mV l κ true (d + 2) 0 0 m_X3_runs 12 [some (.ref 91), some (.ref a1), some (.int v2), some (.int v3), some (.ref a4), some (.int (v5 + (nI 1)))] [] G4 (rV K)) ∧ (r3 = 0 → K G4))))) ∧ (¬ v5 < (nI 300) → K (ms_i G2 92 2 (nI 1))))))) ∧ (r1 = 0 → K (ms_i G2 92 2 (nI 0))))))))) : mV l κ true (d + 2) 0 0 m_X3_runs 12 [some (.ref 91), some (.ref a1), some (.int v2), some (.int v3), some (.ref a4), some (.int v5)] [] G (rV K) := by
  refine mV_iload (i := 5) (by decide +kernel) rfl ?_
  refine mV_sipush (n := 300) (v := nI 300) (by decide +kernel) (by decide) ?_
  refine mV_icmp_gt (off := 62) (tgt := 79) (by decide +kernel) (by decide) (fun hc => ?_) (fun hc => ?_)
  · replace h := h.1 hc
    exact mV_vret (by decide +kernel) rfl h
  · replace h := h.2 hc
    refine mV_aload_n (k := 0) (by decide +kernel) rfl ?_
    refine mV_cV (as := []) (rest := []) (mc1 := 0) (ms1 := 0) (mc := 0) (ms := 0) (by decide +kernel) md_X3_comesToLine lk_3_46 sh_91 rfl rfl rfl (Nat.le_of_ble_eq_true rfl) (mC.mono (mm_contI (fun r1 G2 hK => ?_)) h)
    replace h := hK
    refine mV_if_ne (off := 12) (tgt := 36) (by decide +kernel) (by decide) (fun hc => ?_) (fun hc => ?_)
    · replace h := h.1 hc
      refine mV_iload (i := 5) (by decide +kernel) rfl ?_
      refine mV_aload_n (k := 0) (by decide +kernel) rfl ?_
      refine mV_gfr (r := some 62) (by decide +kernel) fk_3_38 sh_91 (mm_rrs st_91_7) rfl ?_
      refine mV_gfix (x := mg_i G2 62 5) (by decide +kernel) fk_3_54 sh_62 rfl ?_
      refine mV_icmp_ge (off := 11) (tgt := 56) (by decide +kernel) (by decide) (fun hc => ?_) (fun hc => ?_)
      · replace h := h.1 hc
        refine mV_aload_n (k := 0) (by decide +kernel) rfl ?_
        refine mV_gfr (r := some 92) (by decide +kernel) fk_3_12 sh_91 (mm_rrs st_91_0) rfl ?_
        refine mV_iconst (n := 1) (v := nI 1) (by decide +kernel) (by decide) ?_
        refine mV_pfi (by decide +kernel) fk_3_50 sh_92 ?_
        exact mV_vret (by decide +kernel) rfl h
      · replace h := h.2 hc
        refine mV_iload (i := 5) (by decide +kernel) rfl ?_
        refine mV_sipush (n := 300) (v := nI 300) (by decide +kernel) (by decide) ?_
        refine mV_icmp_lt (off := 12) (tgt := 65) (by decide +kernel) (by decide) (fun hc => ?_) (fun hc => ?_)
        · replace h := h.1 hc
          refine mV_aload_n (k := 0) (by decide +kernel) rfl ?_
          refine mV_cV (as := []) (rest := []) (mc1 := 0) (ms1 := 0) (mc := 0) (ms := 0) (by decide +kernel) md_X3_doesLine lk_3_59 sh_91 rfl rfl rfl (Nat.le_of_ble_eq_true rfl) (mC.mono (mm_contI (fun r3 G4 hK => ?_)) h)
          replace h := hK
          refine mV_if_ne (off := 4) (tgt := 73) (by decide +kernel) (by decide) (fun hc => ?_) (fun hc => ?_)
          · replace h := h.1 hc
            refine mV_iincc (i := 5) (n := 1) (c := nI 1) (ls' := [some (.ref 91), some (.ref a1), some (.int v2), some (.int v3), some (.ref a4), some (.int (v5 + (nI 1)))]) (by decide +kernel) (by decide) rfl (Nat.le_of_ble_eq_true rfl) rfl rfl ?_
            refine mV_goto (off := -64) (tgt := 12) (by decide +kernel) (by decide) ?_
            exact h
          · replace h := h.2 hc
            exact mV_vret (by decide +kernel) rfl h
        · replace h := h.2 hc
          refine mV_aload_n (k := 0) (by decide +kernel) rfl ?_
          refine mV_gfr (r := some 92) (by decide +kernel) fk_3_12 sh_91 (mm_rrs st_91_0) rfl ?_
          refine mV_iconst (n := 1) (v := nI 1) (by decide +kernel) (by decide) ?_
          refine mV_pfi (by decide +kernel) fk_3_50 sh_92 ?_
          exact mV_vret (by decide +kernel) rfl h
    · replace h := h.2 hc
      refine mV_aload_n (k := 0) (by decide +kernel) rfl ?_
      refine mV_gfr (r := some 92) (by decide +kernel) fk_3_12 sh_91 (mm_rrs st_91_0) rfl ?_
      refine mV_iconst (n := 0) (v := nI 0) (by decide +kernel) (by decide) ?_
      refine mV_pfi (by decide +kernel) fk_3_50 sh_92 ?_
      exact mV_vret (by decide +kernel) rfl h
set_option maxRecDepth 100000 in
set_option maxHeartbeats 4000000 in
theorem e_X3_begin0 {l : Launch} {κ : mm_K} {d : Nat} {G : mm_G} {K : mm_G → Prop} (a1 : Nat) (ha1 : RowAt a1) (a2 : Int32) (a3 : Int32) (h : mC l κ true d 0 0 m_X0_begin [.ref 92] G (rV (fun G2 => mV l κ true (d + 1) 0 0 m_X3_begin 10 [some (.ref 91), some (.ref a1), some (.int a2), some (.int a3), some .null, some (.int (nI 0))] [] G2 (rV K)))) : mC l κ true (d + 1) 0 0 m_X3_begin [.ref 91, .ref a1, .int a2, .int a3, .null] G (rV K) := by
  refine mC.of (by decide) (Nat.le_of_ble_eq_true rfl) [some (.ref 91), some (.ref a1), some (.int a2), some (.int a3), some .null, none] rfl ?_
  refine mV_aload_n (k := 0) (by decide +kernel) rfl ?_
  refine mV_gfr (r := some 92) (by decide +kernel) fk_3_12 sh_91 (mm_rrs st_91_0) rfl ?_
  refine mV_cV (as := []) (rest := []) (mc1 := 0) (ms1 := 0) (mc := 0) (ms := 0) (by decide +kernel) md_X0_begin lk_3_62 sh_92 rfl rfl rfl (Nat.le_of_ble_eq_true rfl) (mC.mono (mm_contV (fun G2 hK => ?_)) h)
  replace h := hK
  refine mV_iconst (n := 0) (v := nI 0) (by decide +kernel) (by decide) ?_
  refine mV_istore (i := 5) (ls' := [some (.ref 91), some (.ref a1), some (.int a2), some (.int a3), some .null, some (.int (nI 0))]) (by decide +kernel) (Nat.le_of_ble_eq_true rfl) rfl rfl ?_
  exact h
set_option maxRecDepth 100000 in
set_option maxHeartbeats 4000000 in
theorem p_X3_begin0_10 {l : Launch} {κ : mm_K} {d : Nat} {G : mm_G} {K : mm_G → Prop} (a1 : Nat) (ha1 : RowAt a1) (v2 : Int32) (v3 : Int32) (v5 : Int32) (h : (((nI 4) ≤ v5 → vp_in (nI 0) 4 ∧ vp_in (nI 0) 4 ∧ K (ms_r (ms_i (ms_i (ms_i (ms_i (ms_i (ms_r (ms_i (ms_i (ms_i G 91 3 (nI 0)) 91 4 (nI 0)) 91 5 (-1)) 96 ((nI 0).toNatClampNeg) (some a1)) 97 ((nI 0).toNatClampNeg) (nI 0)) 91 10 (nI 0)) 91 11 v2) 91 12 v3) 91 13 (nI 0)) 91 14 none)) ∧ (¬ (nI 4) ≤ v5 → vp_in v5 4 ∧ mV l κ true (d + 1) 0 0 m_X3_begin 10 [some (.ref 91), some (.ref a1), some (.int v2), some (.int v3), some .null, some (.int (v5 + (nI 1)))] [] (ms_i G 94 v5.toNatClampNeg (nI 0)) (rV K)))) : mV l κ true (d + 1) 0 0 m_X3_begin 10 [some (.ref 91), some (.ref a1), some (.int v2), some (.int v3), some .null, some (.int v5)] [] G (rV K) := by
  refine mV_iload (i := 5) (by decide +kernel) rfl ?_
  refine mV_iconst (n := 4) (v := nI 4) (by decide +kernel) (by decide) ?_
  refine mV_icmp_ge (off := 17) (tgt := 30) (by decide +kernel) (by decide) (fun hc => ?_) (fun hc => ?_)
  · replace h := h.1 hc
    refine mV_aload_n (k := 0) (by decide +kernel) rfl ?_
    refine mV_iconst (n := 0) (v := nI 0) (by decide +kernel) (by decide) ?_
    refine mV_pfi (by decide +kernel) fk_3_64 sh_91 ?_
    refine mV_aload_n (k := 0) (by decide +kernel) rfl ?_
    refine mV_iconst (n := 0) (v := nI 0) (by decide +kernel) (by decide) ?_
    refine mV_pfi (by decide +kernel) fk_3_67 sh_91 ?_
    refine mV_aload_n (k := 0) (by decide +kernel) rfl ?_
    refine mV_iconst (n := -1) (v := (-1)) (by decide +kernel) (by decide) ?_
    refine mV_pfi (by decide +kernel) fk_3_70 sh_91 ?_
    refine mV_aload_n (k := 0) (by decide +kernel) rfl ?_
    refine mV_gfr (r := some 96) (by decide +kernel) fk_3_27 sh_91 (mm_rrs st_91_8) rfl ?_
    refine mV_iconst (n := 0) (v := nI 0) (by decide +kernel) (by decide) ?_
    refine mV_aload_n (k := 1) (by decide +kernel) rfl ?_
    refine mV_aas (t := 5) (by decide +kernel) sh_96 (by decide) rfl ha1.1 rfl h.1 (st96 _ (mm_ixlt h.1)) ?_
    replace h := h.2
    refine mV_aload_n (k := 0) (by decide +kernel) rfl ?_
    refine mV_gfr (r := some 97) (by decide +kernel) fk_3_31 sh_91 (mm_rrs st_91_9) rfl ?_
    refine mV_iconst (n := 0) (v := nI 0) (by decide +kernel) (by decide) ?_
    refine mV_iconst (n := 0) (v := nI 0) (by decide +kernel) (by decide) ?_
    refine mV_ias (by decide +kernel) sh_97 h.1 ?_
    replace h := h.2
    refine mV_aload_n (k := 0) (by decide +kernel) rfl ?_
    refine mV_iconst (n := 0) (v := nI 0) (by decide +kernel) (by decide) ?_
    refine mV_pfi (by decide +kernel) fk_3_73 sh_91 ?_
    refine mV_aload_n (k := 0) (by decide +kernel) rfl ?_
    refine mV_iload_n (k := 2) (by decide +kernel) rfl ?_
    refine mV_pfi (by decide +kernel) fk_3_76 sh_91 ?_
    refine mV_aload_n (k := 0) (by decide +kernel) rfl ?_
    refine mV_iload_n (k := 3) (by decide +kernel) rfl ?_
    refine mV_pfi (by decide +kernel) fk_3_79 sh_91 ?_
    refine mV_aload_n (k := 0) (by decide +kernel) rfl ?_
    refine mV_iconst (n := 0) (v := nI 0) (by decide +kernel) (by decide) ?_
    refine mV_pfi (by decide +kernel) fk_3_82 sh_91 ?_
    refine mV_aload_n (k := 0) (by decide +kernel) rfl ?_
    refine mV_aloadN (i := 4) (by decide +kernel) rfl ?_
    refine mV_pfr (r := none) (by decide +kernel) fk_3_85 sh_91 st91_14 rfl ?_
    exact mV_vret (by decide +kernel) rfl h
  · replace h := h.2 hc
    refine mV_aload_n (k := 0) (by decide +kernel) rfl ?_
    refine mV_gfr (r := some 94) (by decide +kernel) fk_3_18 sh_91 (mm_rrs st_91_1) rfl ?_
    refine mV_iload (i := 5) (by decide +kernel) rfl ?_
    refine mV_iconst (n := 0) (v := nI 0) (by decide +kernel) (by decide) ?_
    refine mV_ias (by decide +kernel) sh_94 h.1 ?_
    replace h := h.2
    refine mV_iincc (i := 5) (n := 1) (c := nI 1) (ls' := [some (.ref 91), some (.ref a1), some (.int v2), some (.int v3), some .null, some (.int (v5 + (nI 1)))]) (by decide +kernel) (by decide) rfl (Nat.le_of_ble_eq_true rfl) rfl rfl ?_
    refine mV_goto (off := -17) (tgt := 10) (by decide +kernel) (by decide) ?_
    exact h
set_option maxRecDepth 100000 in
set_option maxHeartbeats 4000000 in
theorem e_X3_begin1 {l : Launch} {κ : mm_K} {d : Nat} {G : mm_G} {K : mm_G → Prop} (a1 : Nat) (ha1 : RowAt a1) (a2 : Int32) (a3 : Int32) (a4 : Nat) (ha4 : DeedAt a4) (h : mC l κ true d 0 0 m_X0_begin [.ref 92] G (rV (fun G2 => mV l κ true (d + 1) 0 0 m_X3_begin 10 [some (.ref 91), some (.ref a1), some (.int a2), some (.int a3), some (.ref a4), some (.int (nI 0))] [] G2 (rV K)))) : mC l κ true (d + 1) 0 0 m_X3_begin [.ref 91, .ref a1, .int a2, .int a3, .ref a4] G (rV K) := by
  refine mC.of (by decide) (Nat.le_of_ble_eq_true rfl) [some (.ref 91), some (.ref a1), some (.int a2), some (.int a3), some (.ref a4), none] rfl ?_
  refine mV_aload_n (k := 0) (by decide +kernel) rfl ?_
  refine mV_gfr (r := some 92) (by decide +kernel) fk_3_12 sh_91 (mm_rrs st_91_0) rfl ?_
  refine mV_cV (as := []) (rest := []) (mc1 := 0) (ms1 := 0) (mc := 0) (ms := 0) (by decide +kernel) md_X0_begin lk_3_62 sh_92 rfl rfl rfl (Nat.le_of_ble_eq_true rfl) (mC.mono (mm_contV (fun G2 hK => ?_)) h)
  replace h := hK
  refine mV_iconst (n := 0) (v := nI 0) (by decide +kernel) (by decide) ?_
  refine mV_istore (i := 5) (ls' := [some (.ref 91), some (.ref a1), some (.int a2), some (.int a3), some (.ref a4), some (.int (nI 0))]) (by decide +kernel) (Nat.le_of_ble_eq_true rfl) rfl rfl ?_
  exact h
set_option maxRecDepth 100000 in
set_option maxHeartbeats 4000000 in
theorem p_X3_begin1_10 {l : Launch} {κ : mm_K} {d : Nat} {G : mm_G} {K : mm_G → Prop} (a1 : Nat) (ha1 : RowAt a1) (a4 : Nat) (ha4 : DeedAt a4) (v2 : Int32) (v3 : Int32) (v5 : Int32) (h : (((nI 4) ≤ v5 → vp_in (nI 0) 4 ∧ vp_in (nI 0) 4 ∧ K (ms_r (ms_i (ms_i (ms_i (ms_i (ms_i (ms_r (ms_i (ms_i (ms_i G 91 3 (nI 0)) 91 4 (nI 0)) 91 5 (-1)) 96 ((nI 0).toNatClampNeg) (some a1)) 97 ((nI 0).toNatClampNeg) (nI 0)) 91 10 (nI 0)) 91 11 v2) 91 12 v3) 91 13 (nI 0)) 91 14 (some a4))) ∧ (¬ (nI 4) ≤ v5 → vp_in v5 4 ∧ mV l κ true (d + 1) 0 0 m_X3_begin 10 [some (.ref 91), some (.ref a1), some (.int v2), some (.int v3), some (.ref a4), some (.int (v5 + (nI 1)))] [] (ms_i G 94 v5.toNatClampNeg (nI 0)) (rV K)))) : mV l κ true (d + 1) 0 0 m_X3_begin 10 [some (.ref 91), some (.ref a1), some (.int v2), some (.int v3), some (.ref a4), some (.int v5)] [] G (rV K) := by
  refine mV_iload (i := 5) (by decide +kernel) rfl ?_
  refine mV_iconst (n := 4) (v := nI 4) (by decide +kernel) (by decide) ?_
  refine mV_icmp_ge (off := 17) (tgt := 30) (by decide +kernel) (by decide) (fun hc => ?_) (fun hc => ?_)
  · replace h := h.1 hc
    refine mV_aload_n (k := 0) (by decide +kernel) rfl ?_
    refine mV_iconst (n := 0) (v := nI 0) (by decide +kernel) (by decide) ?_
    refine mV_pfi (by decide +kernel) fk_3_64 sh_91 ?_
    refine mV_aload_n (k := 0) (by decide +kernel) rfl ?_
    refine mV_iconst (n := 0) (v := nI 0) (by decide +kernel) (by decide) ?_
    refine mV_pfi (by decide +kernel) fk_3_67 sh_91 ?_
    refine mV_aload_n (k := 0) (by decide +kernel) rfl ?_
    refine mV_iconst (n := -1) (v := (-1)) (by decide +kernel) (by decide) ?_
    refine mV_pfi (by decide +kernel) fk_3_70 sh_91 ?_
    refine mV_aload_n (k := 0) (by decide +kernel) rfl ?_
    refine mV_gfr (r := some 96) (by decide +kernel) fk_3_27 sh_91 (mm_rrs st_91_8) rfl ?_
    refine mV_iconst (n := 0) (v := nI 0) (by decide +kernel) (by decide) ?_
    refine mV_aload_n (k := 1) (by decide +kernel) rfl ?_
    refine mV_aas (t := 5) (by decide +kernel) sh_96 (by decide) rfl ha1.1 rfl h.1 (st96 _ (mm_ixlt h.1)) ?_
    replace h := h.2
    refine mV_aload_n (k := 0) (by decide +kernel) rfl ?_
    refine mV_gfr (r := some 97) (by decide +kernel) fk_3_31 sh_91 (mm_rrs st_91_9) rfl ?_
    refine mV_iconst (n := 0) (v := nI 0) (by decide +kernel) (by decide) ?_
    refine mV_iconst (n := 0) (v := nI 0) (by decide +kernel) (by decide) ?_
    refine mV_ias (by decide +kernel) sh_97 h.1 ?_
    replace h := h.2
    refine mV_aload_n (k := 0) (by decide +kernel) rfl ?_
    refine mV_iconst (n := 0) (v := nI 0) (by decide +kernel) (by decide) ?_
    refine mV_pfi (by decide +kernel) fk_3_73 sh_91 ?_
    refine mV_aload_n (k := 0) (by decide +kernel) rfl ?_
    refine mV_iload_n (k := 2) (by decide +kernel) rfl ?_
    refine mV_pfi (by decide +kernel) fk_3_76 sh_91 ?_
    refine mV_aload_n (k := 0) (by decide +kernel) rfl ?_
    refine mV_iload_n (k := 3) (by decide +kernel) rfl ?_
    refine mV_pfi (by decide +kernel) fk_3_79 sh_91 ?_
    refine mV_aload_n (k := 0) (by decide +kernel) rfl ?_
    refine mV_iconst (n := 0) (v := nI 0) (by decide +kernel) (by decide) ?_
    refine mV_pfi (by decide +kernel) fk_3_82 sh_91 ?_
    refine mV_aload_n (k := 0) (by decide +kernel) rfl ?_
    refine mV_aload (i := 4) (by decide +kernel) rfl ?_
    refine mV_pfr (r := some a4) (by decide +kernel) fk_3_85 sh_91 st91_14 rfl ?_
    exact mV_vret (by decide +kernel) rfl h
  · replace h := h.2 hc
    refine mV_aload_n (k := 0) (by decide +kernel) rfl ?_
    refine mV_gfr (r := some 94) (by decide +kernel) fk_3_18 sh_91 (mm_rrs st_91_1) rfl ?_
    refine mV_iload (i := 5) (by decide +kernel) rfl ?_
    refine mV_iconst (n := 0) (v := nI 0) (by decide +kernel) (by decide) ?_
    refine mV_ias (by decide +kernel) sh_94 h.1 ?_
    replace h := h.2
    refine mV_iincc (i := 5) (n := 1) (c := nI 1) (ls' := [some (.ref 91), some (.ref a1), some (.int v2), some (.int v3), some (.ref a4), some (.int (v5 + (nI 1)))]) (by decide +kernel) (by decide) rfl (Nat.le_of_ble_eq_true rfl) rfl rfl ?_
    refine mV_goto (off := -17) (tgt := 10) (by decide +kernel) (by decide) ?_
    exact h
set_option maxRecDepth 100000 in
set_option maxHeartbeats 4000000 in
theorem e_X3_comesToLine {l : Launch} {κ : mm_K} {d : Nat} {G : mm_G} {K : Int32 → mm_G → Prop}  (h : (((mg_i G 91 10) ≤ 0 → vp_in (nI 0) 4 ∧ mV l κ true (d + 1) 0 0 m_X3_comesToLine 53 [some (.ref 91), some (.int (mg_i G 97 ((nI 0).toNatClampNeg)))] [] G (rI K)) ∧ (¬ (mg_i G 91 10) ≤ 0 → vp_in (mg_i G 91 10) 4 ∧ vp_in (mg_i G 91 10) 4 ∧ ∃ t2, mg_r G 96 ((mg_i G 91 10).toNatClampNeg) = some t2 ∧ RowAt t2 ∧ (((mg_i G t2 1) ≤ (mg_i G 97 ((mg_i G 91 10).toNatClampNeg)) → mV l κ true (d + 1) 0 0 m_X3_comesToLine 0 [some (.ref 91), none] [] (ms_i G 91 10 ((mg_i G 91 10) - (nI 1))) (rI K)) ∧ (¬ (mg_i G t2 1) ≤ (mg_i G 97 ((mg_i G 91 10).toNatClampNeg)) → K (nI 1) G))))) : mC l κ true (d + 1) 0 0 m_X3_comesToLine [.ref 91] G (rI K) := by
  refine mC.of (by decide) (Nat.le_of_ble_eq_true rfl) [some (.ref 91), none] rfl ?_
  refine mV_aload_n (k := 0) (by decide +kernel) rfl ?_
  refine mV_gfix (x := mg_i G 91 10) (by decide +kernel) fk_3_73 sh_91 rfl ?_
  refine mV_if_le (off := 42) (tgt := 46) (by decide +kernel) (by decide) (fun hc => ?_) (fun hc => ?_)
  · replace h := h.1 hc
    refine mV_aload_n (k := 0) (by decide +kernel) rfl ?_
    refine mV_gfr (r := some 97) (by decide +kernel) fk_3_31 sh_91 (mm_rrs st_91_9) rfl ?_
    refine mV_iconst (n := 0) (v := nI 0) (by decide +kernel) (by decide) ?_
    refine mV_ialx (x := mg_i G 97 ((nI 0).toNatClampNeg)) (by decide +kernel) sh_97 h.1 rfl ?_
    replace h := h.2
    refine mV_istore_n (k := 1) (ls' := [some (.ref 91), some (.int (mg_i G 97 ((nI 0).toNatClampNeg)))]) (by decide +kernel) (Nat.le_of_ble_eq_true rfl) rfl rfl ?_
    exact h
  · replace h := h.2 hc
    refine mV_aload_n (k := 0) (by decide +kernel) rfl ?_
    refine mV_gfr (r := some 97) (by decide +kernel) fk_3_31 sh_91 (mm_rrs st_91_9) rfl ?_
    refine mV_aload_n (k := 0) (by decide +kernel) rfl ?_
    refine mV_gfix (x := mg_i G 91 10) (by decide +kernel) fk_3_73 sh_91 rfl ?_
    refine mV_ialx (x := mg_i G 97 ((mg_i G 91 10).toNatClampNeg)) (by decide +kernel) sh_97 h.1 rfl ?_
    replace h := h.2
    refine mV_aload_n (k := 0) (by decide +kernel) rfl ?_
    refine mV_gfr (r := some 96) (by decide +kernel) fk_3_27 sh_91 (mm_rrs st_91_8) rfl ?_
    refine mV_aload_n (k := 0) (by decide +kernel) rfl ?_
    refine mV_gfix (x := mg_i G 91 10) (by decide +kernel) fk_3_73 sh_91 rfl ?_
    have hj1 := h.1
    replace h := h.2
    obtain ⟨t2, hrt2, hat2, h⟩ := h
    refine mV_aal (t := 5) (r := some t2) (by decide +kernel) sh_96 (by decide) hj1 ((mm_rrd (st96 _ (mm_ixlt hj1))).trans hrt2) rfl ?_
    refine mV_gfix (x := mg_i G t2 1) (by decide +kernel) fk_3_88 hat2.1 rfl ?_
    refine mV_icmp_ge (off := 5) (tgt := 33) (by decide +kernel) (by decide) (fun hc => ?_) (fun hc => ?_)
    · replace h := h.1 hc
      refine mV_aload_n (k := 0) (by decide +kernel) rfl ?_
      refine mV_dup (by decide +kernel) rfl ?_
      refine mV_gfix (x := mg_i G 91 10) (by decide +kernel) fk_3_73 sh_91 rfl ?_
      refine mV_iconst (n := 1) (v := nI 1) (by decide +kernel) (by decide) ?_
      refine mV_isub (by decide +kernel) ?_
      refine mV_pfi (by decide +kernel) fk_3_73 sh_91 ?_
      refine mV_goto (off := -43) (tgt := 0) (by decide +kernel) (by decide) ?_
      exact h
    · replace h := h.2 hc
      refine mV_iconst (n := 1) (v := nI 1) (by decide +kernel) (by decide) ?_
      exact mV_zret (by decide +kernel) rfl (by decide) h
set_option maxRecDepth 100000 in
set_option maxHeartbeats 4000000 in
theorem p_X3_comesToLine_0 {l : Launch} {κ : mm_K} {d : Nat} {G : mm_G} {K : Int32 → mm_G → Prop}  (h : (((mg_i G 91 10) ≤ 0 → vp_in (nI 0) 4 ∧ mV l κ true (d + 1) 0 0 m_X3_comesToLine 53 [some (.ref 91), some (.int (mg_i G 97 ((nI 0).toNatClampNeg)))] [] G (rI K)) ∧ (¬ (mg_i G 91 10) ≤ 0 → vp_in (mg_i G 91 10) 4 ∧ vp_in (mg_i G 91 10) 4 ∧ ∃ t2, mg_r G 96 ((mg_i G 91 10).toNatClampNeg) = some t2 ∧ RowAt t2 ∧ (((mg_i G t2 1) ≤ (mg_i G 97 ((mg_i G 91 10).toNatClampNeg)) → mV l κ true (d + 1) 0 0 m_X3_comesToLine 0 [some (.ref 91), none] [] (ms_i G 91 10 ((mg_i G 91 10) - (nI 1))) (rI K)) ∧ (¬ (mg_i G t2 1) ≤ (mg_i G 97 ((mg_i G 91 10).toNatClampNeg)) → K (nI 1) G))))) : mV l κ true (d + 1) 0 0 m_X3_comesToLine 0 [some (.ref 91), none] [] G (rI K) := by
  refine mV_aload_n (k := 0) (by decide +kernel) rfl ?_
  refine mV_gfix (x := mg_i G 91 10) (by decide +kernel) fk_3_73 sh_91 rfl ?_
  refine mV_if_le (off := 42) (tgt := 46) (by decide +kernel) (by decide) (fun hc => ?_) (fun hc => ?_)
  · replace h := h.1 hc
    refine mV_aload_n (k := 0) (by decide +kernel) rfl ?_
    refine mV_gfr (r := some 97) (by decide +kernel) fk_3_31 sh_91 (mm_rrs st_91_9) rfl ?_
    refine mV_iconst (n := 0) (v := nI 0) (by decide +kernel) (by decide) ?_
    refine mV_ialx (x := mg_i G 97 ((nI 0).toNatClampNeg)) (by decide +kernel) sh_97 h.1 rfl ?_
    replace h := h.2
    refine mV_istore_n (k := 1) (ls' := [some (.ref 91), some (.int (mg_i G 97 ((nI 0).toNatClampNeg)))]) (by decide +kernel) (Nat.le_of_ble_eq_true rfl) rfl rfl ?_
    exact h
  · replace h := h.2 hc
    refine mV_aload_n (k := 0) (by decide +kernel) rfl ?_
    refine mV_gfr (r := some 97) (by decide +kernel) fk_3_31 sh_91 (mm_rrs st_91_9) rfl ?_
    refine mV_aload_n (k := 0) (by decide +kernel) rfl ?_
    refine mV_gfix (x := mg_i G 91 10) (by decide +kernel) fk_3_73 sh_91 rfl ?_
    refine mV_ialx (x := mg_i G 97 ((mg_i G 91 10).toNatClampNeg)) (by decide +kernel) sh_97 h.1 rfl ?_
    replace h := h.2
    refine mV_aload_n (k := 0) (by decide +kernel) rfl ?_
    refine mV_gfr (r := some 96) (by decide +kernel) fk_3_27 sh_91 (mm_rrs st_91_8) rfl ?_
    refine mV_aload_n (k := 0) (by decide +kernel) rfl ?_
    refine mV_gfix (x := mg_i G 91 10) (by decide +kernel) fk_3_73 sh_91 rfl ?_
    have hj1 := h.1
    replace h := h.2
    obtain ⟨t2, hrt2, hat2, h⟩ := h
    refine mV_aal (t := 5) (r := some t2) (by decide +kernel) sh_96 (by decide) hj1 ((mm_rrd (st96 _ (mm_ixlt hj1))).trans hrt2) rfl ?_
    refine mV_gfix (x := mg_i G t2 1) (by decide +kernel) fk_3_88 hat2.1 rfl ?_
    refine mV_icmp_ge (off := 5) (tgt := 33) (by decide +kernel) (by decide) (fun hc => ?_) (fun hc => ?_)
    · replace h := h.1 hc
      refine mV_aload_n (k := 0) (by decide +kernel) rfl ?_
      refine mV_dup (by decide +kernel) rfl ?_
      refine mV_gfix (x := mg_i G 91 10) (by decide +kernel) fk_3_73 sh_91 rfl ?_
      refine mV_iconst (n := 1) (v := nI 1) (by decide +kernel) (by decide) ?_
      refine mV_isub (by decide +kernel) ?_
      refine mV_pfi (by decide +kernel) fk_3_73 sh_91 ?_
      refine mV_goto (off := -43) (tgt := 0) (by decide +kernel) (by decide) ?_
      exact h
    · replace h := h.2 hc
      refine mV_iconst (n := 1) (v := nI 1) (by decide +kernel) (by decide) ?_
      exact mV_zret (by decide +kernel) rfl (by decide) h
set_option maxRecDepth 100000 in
set_option maxHeartbeats 4000000 in
theorem p_X3_comesToLine_53 {l : Launch} {κ : mm_K} {d : Nat} {G : mm_G} {K : Int32 → mm_G → Prop} (v1 : Int32) (h : vp_in (nI 0) 4 ∧ ∃ t2, mg_r G 96 ((nI 0).toNatClampNeg) = some t2 ∧ RowAt t2 ∧ (((mg_i G t2 1) ≤ v1 → vp_in (nI 0) 4 ∧ vp_in (nI 0) 4 ∧ ∃ t4, mg_r G 96 ((nI 0).toNatClampNeg) = some t4 ∧ RowAt t4 ∧ ((v1 < (mg_i (ms_i G 97 ((nI 0).toNatClampNeg) v1) t4 1) → K (nI 1) (ms_i (ms_i (ms_i G 97 ((nI 0).toNatClampNeg) v1) 92 3 ((mg_i G 92 3) ||| ((nI 1) <<< (v1 &&& 31)))) 91 5 (if (mg_i G 91 5) < v1 then v1 else (mg_i G 91 5)))) ∧ (¬ v1 < (mg_i (ms_i G 97 ((nI 0).toNatClampNeg) v1) t4 1) → K (nI 0) (ms_i G 97 ((nI 0).toNatClampNeg) v1)))) ∧ (¬ (mg_i G t2 1) ≤ v1 → ((((((mg_i G 91 11).toUInt32 >>> (v1.toUInt32 &&& Int32.toUInt32 31)).toInt32) &&& (nI 1)) = 0 → vp_in (nI 0) 4 ∧ vp_in (nI 0) 4 ∧ ∃ t6, mg_r G 96 ((nI 0).toNatClampNeg) = some t6 ∧ RowAt t6 ∧ ((v1 < (mg_i (ms_i G 97 ((nI 0).toNatClampNeg) v1) t6 1) → K (nI 1) (ms_i (ms_i (ms_i G 97 ((nI 0).toNatClampNeg) v1) 92 3 ((mg_i G 92 3) ||| ((nI 1) <<< (v1 &&& 31)))) 91 5 (if (mg_i G 91 5) < v1 then v1 else (mg_i G 91 5)))) ∧ (¬ v1 < (mg_i (ms_i G 97 ((nI 0).toNatClampNeg) v1) t6 1) → K (nI 0) (ms_i G 97 ((nI 0).toNatClampNeg) v1)))) ∧ (¬ ((((mg_i G 91 11).toUInt32 >>> (v1.toUInt32 &&& Int32.toUInt32 31)).toInt32) &&& (nI 1)) = 0 → mV l κ true (d + 1) 0 0 m_X3_comesToLine 53 [some (.ref 91), some (.int (v1 + (nI 1)))] [] G (rI K)))))) : mV l κ true (d + 1) 0 0 m_X3_comesToLine 53 [some (.ref 91), some (.int v1)] [] G (rI K) := by
  refine mV_iload_n (k := 1) (by decide +kernel) rfl ?_
  refine mV_aload_n (k := 0) (by decide +kernel) rfl ?_
  refine mV_gfr (r := some 96) (by decide +kernel) fk_3_27 sh_91 (mm_rrs st_91_8) rfl ?_
  refine mV_iconst (n := 0) (v := nI 0) (by decide +kernel) (by decide) ?_
  have hj1 := h.1
  replace h := h.2
  obtain ⟨t2, hrt2, hat2, h⟩ := h
  refine mV_aal (t := 5) (r := some t2) (by decide +kernel) sh_96 (by decide) hj1 ((mm_rrd (st96 _ (mm_ixlt hj1))).trans hrt2) rfl ?_
  refine mV_gfix (x := mg_i G t2 1) (by decide +kernel) fk_3_88 hat2.1 rfl ?_
  refine mV_icmp_ge (off := 20) (tgt := 83) (by decide +kernel) (by decide) (fun hc => ?_) (fun hc => ?_)
  · replace h := h.1 hc
    refine mV_aload_n (k := 0) (by decide +kernel) rfl ?_
    refine mV_gfr (r := some 97) (by decide +kernel) fk_3_31 sh_91 (mm_rrs st_91_9) rfl ?_
    refine mV_iconst (n := 0) (v := nI 0) (by decide +kernel) (by decide) ?_
    refine mV_iload_n (k := 1) (by decide +kernel) rfl ?_
    refine mV_ias (by decide +kernel) sh_97 h.1 ?_
    replace h := h.2
    refine mV_iload_n (k := 1) (by decide +kernel) rfl ?_
    refine mV_aload_n (k := 0) (by decide +kernel) rfl ?_
    refine mV_gfr (r := some 96) (by decide +kernel) fk_3_27 sh_91 (mm_rrs st_91_8) rfl ?_
    refine mV_iconst (n := 0) (v := nI 0) (by decide +kernel) (by decide) ?_
    have hj3 := h.1
    replace h := h.2
    obtain ⟨t4, hrt4, hat4, h⟩ := h
    refine mV_aal (t := 5) (r := some t4) (by decide +kernel) sh_96 (by decide) hj3 ((mm_rrd (st96 _ (mm_ixlt hj3))).trans hrt4) rfl ?_
    refine mV_gfix (x := mg_i (ms_i G 97 ((nI 0).toNatClampNeg) v1) t4 1) (by decide +kernel) fk_3_88 hat4.1 rfl ?_
    refine mV_icmp_lt (off := 5) (tgt := 105) (by decide +kernel) (by decide) (fun hc => ?_) (fun hc => ?_)
    · replace h := h.1 hc
      refine mV_aload_n (k := 0) (by decide +kernel) rfl ?_
      refine mV_gfr (r := some 92) (by decide +kernel) fk_3_12 sh_91 (mm_rrs st_91_0) rfl ?_
      refine mV_dup (by decide +kernel) rfl ?_
      refine mV_gfix (x := mg_i G 92 3) (by decide +kernel) fk_3_91 sh_92 rfl ?_
      refine mV_iconst (n := 1) (v := nI 1) (by decide +kernel) (by decide) ?_
      refine mV_iload_n (k := 1) (by decide +kernel) rfl ?_
      refine mV_ishl (by decide +kernel) ?_
      refine mV_ior (by decide +kernel) ?_
      refine mV_pfi (by decide +kernel) fk_3_91 sh_92 ?_
      refine mV_aload_n (k := 0) (by decide +kernel) rfl ?_
      refine mV_aload_n (k := 0) (by decide +kernel) rfl ?_
      refine mV_gfix (x := mg_i G 91 5) (by decide +kernel) fk_3_70 sh_91 rfl ?_
      refine mV_iload_n (k := 1) (by decide +kernel) rfl ?_
      refine mV_max (by decide +kernel) lk_3_94 (Nat.le_of_ble_eq_true rfl) ?_
      refine mV_pfi (by decide +kernel) fk_3_70 sh_91 ?_
      refine mV_iconst (n := 1) (v := nI 1) (by decide +kernel) (by decide) ?_
      exact mV_zret (by decide +kernel) rfl (by decide) h
    · replace h := h.2 hc
      refine mV_iconst (n := 0) (v := nI 0) (by decide +kernel) (by decide) ?_
      exact mV_zret (by decide +kernel) rfl (by decide) h
  · replace h := h.2 hc
    refine mV_aload_n (k := 0) (by decide +kernel) rfl ?_
    refine mV_gfix (x := mg_i G 91 11) (by decide +kernel) fk_3_76 sh_91 rfl ?_
    refine mV_iload_n (k := 1) (by decide +kernel) rfl ?_
    refine mV_iushr (by decide +kernel) ?_
    refine mV_iconst (n := 1) (v := nI 1) (by decide +kernel) (by decide) ?_
    refine mV_iand (by decide +kernel) ?_
    refine mV_if_eq (off := 9) (tgt := 83) (by decide +kernel) (by decide) (fun hc => ?_) (fun hc => ?_)
    · replace h := h.1 hc
      refine mV_aload_n (k := 0) (by decide +kernel) rfl ?_
      refine mV_gfr (r := some 97) (by decide +kernel) fk_3_31 sh_91 (mm_rrs st_91_9) rfl ?_
      refine mV_iconst (n := 0) (v := nI 0) (by decide +kernel) (by decide) ?_
      refine mV_iload_n (k := 1) (by decide +kernel) rfl ?_
      refine mV_ias (by decide +kernel) sh_97 h.1 ?_
      replace h := h.2
      refine mV_iload_n (k := 1) (by decide +kernel) rfl ?_
      refine mV_aload_n (k := 0) (by decide +kernel) rfl ?_
      refine mV_gfr (r := some 96) (by decide +kernel) fk_3_27 sh_91 (mm_rrs st_91_8) rfl ?_
      refine mV_iconst (n := 0) (v := nI 0) (by decide +kernel) (by decide) ?_
      have hj5 := h.1
      replace h := h.2
      obtain ⟨t6, hrt6, hat6, h⟩ := h
      refine mV_aal (t := 5) (r := some t6) (by decide +kernel) sh_96 (by decide) hj5 ((mm_rrd (st96 _ (mm_ixlt hj5))).trans hrt6) rfl ?_
      refine mV_gfix (x := mg_i (ms_i G 97 ((nI 0).toNatClampNeg) v1) t6 1) (by decide +kernel) fk_3_88 hat6.1 rfl ?_
      refine mV_icmp_lt (off := 5) (tgt := 105) (by decide +kernel) (by decide) (fun hc => ?_) (fun hc => ?_)
      · replace h := h.1 hc
        refine mV_aload_n (k := 0) (by decide +kernel) rfl ?_
        refine mV_gfr (r := some 92) (by decide +kernel) fk_3_12 sh_91 (mm_rrs st_91_0) rfl ?_
        refine mV_dup (by decide +kernel) rfl ?_
        refine mV_gfix (x := mg_i G 92 3) (by decide +kernel) fk_3_91 sh_92 rfl ?_
        refine mV_iconst (n := 1) (v := nI 1) (by decide +kernel) (by decide) ?_
        refine mV_iload_n (k := 1) (by decide +kernel) rfl ?_
        refine mV_ishl (by decide +kernel) ?_
        refine mV_ior (by decide +kernel) ?_
        refine mV_pfi (by decide +kernel) fk_3_91 sh_92 ?_
        refine mV_aload_n (k := 0) (by decide +kernel) rfl ?_
        refine mV_aload_n (k := 0) (by decide +kernel) rfl ?_
        refine mV_gfix (x := mg_i G 91 5) (by decide +kernel) fk_3_70 sh_91 rfl ?_
        refine mV_iload_n (k := 1) (by decide +kernel) rfl ?_
        refine mV_max (by decide +kernel) lk_3_94 (Nat.le_of_ble_eq_true rfl) ?_
        refine mV_pfi (by decide +kernel) fk_3_70 sh_91 ?_
        refine mV_iconst (n := 1) (v := nI 1) (by decide +kernel) (by decide) ?_
        exact mV_zret (by decide +kernel) rfl (by decide) h
      · replace h := h.2 hc
        refine mV_iconst (n := 0) (v := nI 0) (by decide +kernel) (by decide) ?_
        exact mV_zret (by decide +kernel) rfl (by decide) h
    · replace h := h.2 hc
      refine mV_iincc (i := 1) (n := 1) (c := nI 1) (ls' := [some (.ref 91), some (.int (v1 + (nI 1)))]) (by decide +kernel) (by decide) rfl (Nat.le_of_ble_eq_true rfl) rfl rfl ?_
      refine mV_goto (off := -27) (tgt := 53) (by decide +kernel) (by decide) ?_
      exact h
set_option maxRecDepth 100000 in
set_option maxHeartbeats 4000000 in
theorem e_X3_doesLine {l : Launch} {κ : mm_K} {d : Nat} {G : mm_G} {K : Int32 → mm_G → Prop}  (h : vp_in (mg_i G 91 10) 4 ∧ ∃ t2, mg_r G 96 ((mg_i G 91 10).toNatClampNeg) = some t2 ∧ RowAt t2 ∧ vp_in (mg_i G 91 10) 4 ∧ vp_in (mg_i G 97 ((mg_i G 91 10).toNatClampNeg)) 16 ∧ ∃ t4, mg_r G (t2 + 1) ((mg_i G 97 ((mg_i G 91 10).toNatClampNeg)).toNatClampNeg) = some t4 ∧ LineAt t4 ∧ vp_in (mg_i G 91 3) 300 ∧ ((¬ (mg_i G 91 10) = 0 → mV l κ true (d + 1) 0 0 m_X3_doesLine 74 [some (.ref 91), some (.ref t2), some (.int (mg_i G 97 ((mg_i G 91 10).toNatClampNeg))), some (.ref t4), none] [] (ms_i (ms_i G 95 ((mg_i G 91 3).toNatClampNeg) (((nI 20) * (mg_i G t2 2)) + (mg_i G 97 ((mg_i G 91 10).toNatClampNeg)))) 91 3 ((mg_i G 91 3) + (nI 1))) (rI K)) ∧ ((mg_i G 91 10) = 0 → mV l κ true (d + 1) 0 0 m_X3_doesLine 74 [some (.ref 91), some (.ref t2), some (.int (mg_i G 97 ((mg_i G 91 10).toNatClampNeg))), some (.ref t4), none] [] (ms_i (ms_i (ms_i G 95 ((mg_i G 91 3).toNatClampNeg) (((nI 20) * (mg_i G t2 2)) + (mg_i G 97 ((mg_i G 91 10).toNatClampNeg)))) 91 3 ((mg_i G 91 3) + (nI 1))) 91 4 ((mg_i G 91 4) ||| ((nI 1) <<< ((mg_i G 97 ((mg_i G 91 10).toNatClampNeg)) &&& 31)))) (rI K)))) : mC l κ true (d + 1) 0 0 m_X3_doesLine [.ref 91] G (rI K) := by
  refine mC.of (by decide) (Nat.le_of_ble_eq_true rfl) [some (.ref 91), none, none, none, none] rfl ?_
  refine mV_aload_n (k := 0) (by decide +kernel) rfl ?_
  refine mV_gfr (r := some 96) (by decide +kernel) fk_3_27 sh_91 (mm_rrs st_91_8) rfl ?_
  refine mV_aload_n (k := 0) (by decide +kernel) rfl ?_
  refine mV_gfix (x := mg_i G 91 10) (by decide +kernel) fk_3_73 sh_91 rfl ?_
  have hj1 := h.1
  replace h := h.2
  obtain ⟨t2, hrt2, hat2, h⟩ := h
  refine mV_aal (t := 5) (r := some t2) (by decide +kernel) sh_96 (by decide) hj1 ((mm_rrd (st96 _ (mm_ixlt hj1))).trans hrt2) rfl ?_
  refine mV_astore_n (k := 1) (ls' := [some (.ref 91), some (.ref t2), none, none, none]) (by decide +kernel) (Nat.le_of_ble_eq_true rfl) rfl rfl ?_
  refine mV_aload_n (k := 0) (by decide +kernel) rfl ?_
  refine mV_gfr (r := some 97) (by decide +kernel) fk_3_31 sh_91 (mm_rrs st_91_9) rfl ?_
  refine mV_aload_n (k := 0) (by decide +kernel) rfl ?_
  refine mV_gfix (x := mg_i G 91 10) (by decide +kernel) fk_3_73 sh_91 rfl ?_
  refine mV_ialx (x := mg_i G 97 ((mg_i G 91 10).toNatClampNeg)) (by decide +kernel) sh_97 h.1 rfl ?_
  replace h := h.2
  refine mV_istore_n (k := 2) (ls' := [some (.ref 91), some (.ref t2), some (.int (mg_i G 97 ((mg_i G 91 10).toNatClampNeg))), none, none]) (by decide +kernel) (Nat.le_of_ble_eq_true rfl) rfl rfl ?_
  refine mV_aload_n (k := 1) (by decide +kernel) rfl ?_
  refine mV_gfr (r := some (t2 + 1)) (by decide +kernel) fk_3_100 hat2.1 (mm_rrs hat2.2.2.1) rfl ?_
  refine mV_iload_n (k := 2) (by decide +kernel) rfl ?_
  have hj3 := h.1
  replace h := h.2
  obtain ⟨t4, hrt4, hat4, h⟩ := h
  refine mV_aal (t := 4) (r := some t4) (by decide +kernel) hat2.2.1 (by decide) hj3 ((mm_rrd (hat2.2.2.2 _ (mm_ixlt hj3))).trans hrt4) rfl ?_
  refine mV_astore_n (k := 3) (ls' := [some (.ref 91), some (.ref t2), some (.int (mg_i G 97 ((mg_i G 91 10).toNatClampNeg))), some (.ref t4), none]) (by decide +kernel) (Nat.le_of_ble_eq_true rfl) rfl rfl ?_
  refine mV_aload_n (k := 0) (by decide +kernel) rfl ?_
  refine mV_gfr (r := some 95) (by decide +kernel) fk_3_22 sh_91 (mm_rrs st_91_2) rfl ?_
  refine mV_aload_n (k := 0) (by decide +kernel) rfl ?_
  refine mV_gfix (x := mg_i G 91 3) (by decide +kernel) fk_3_64 sh_91 rfl ?_
  refine mV_bipush (n := 20) (v := nI 20) (by decide +kernel) (by decide) ?_
  refine mV_aload_n (k := 1) (by decide +kernel) rfl ?_
  refine mV_gfix (x := mg_i G t2 2) (by decide +kernel) fk_3_104 hat2.1 rfl ?_
  refine mV_imul (by decide +kernel) ?_
  refine mV_iload_n (k := 2) (by decide +kernel) rfl ?_
  refine mV_iadd (by decide +kernel) ?_
  refine mV_ias (by decide +kernel) sh_95 h.1 ?_
  replace h := h.2
  refine mV_aload_n (k := 0) (by decide +kernel) rfl ?_
  refine mV_dup (by decide +kernel) rfl ?_
  refine mV_gfix (x := mg_i G 91 3) (by decide +kernel) fk_3_64 sh_91 rfl ?_
  refine mV_iconst (n := 1) (v := nI 1) (by decide +kernel) (by decide) ?_
  refine mV_iadd (by decide +kernel) ?_
  refine mV_pfi (by decide +kernel) fk_3_64 sh_91 ?_
  refine mV_aload_n (k := 0) (by decide +kernel) rfl ?_
  refine mV_gfix (x := mg_i G 91 10) (by decide +kernel) fk_3_73 sh_91 rfl ?_
  refine mV_if_ne (off := 15) (tgt := 74) (by decide +kernel) (by decide) (fun hc => ?_) (fun hc => ?_)
  · replace h := h.1 hc
    exact h
  · replace h := h.2 hc
    refine mV_aload_n (k := 0) (by decide +kernel) rfl ?_
    refine mV_dup (by decide +kernel) rfl ?_
    refine mV_gfix (x := mg_i G 91 4) (by decide +kernel) fk_3_67 sh_91 rfl ?_
    refine mV_iconst (n := 1) (v := nI 1) (by decide +kernel) (by decide) ?_
    refine mV_iload_n (k := 2) (by decide +kernel) rfl ?_
    refine mV_ishl (by decide +kernel) ?_
    refine mV_ior (by decide +kernel) ?_
    refine mV_pfi (by decide +kernel) fk_3_67 sh_91 ?_
    exact h
set_option maxRecDepth 100000 in
set_option maxHeartbeats 4000000 in
theorem p_X3_doesLine_74 {l : Launch} {κ : mm_K} {d : Nat} {G : mm_G} {K : Int32 → mm_G → Prop} (v1 : Nat) (hv1 : RowAt v1) (v2 : Int32) (v3 : Nat) (hv3 : LineAt v3) (h : vp_in (mg_i G 91 10) 4 ∧ (((mg_i (ms_i G 97 ((mg_i G 91 10).toNatClampNeg) (v2 + (nI 1))) v3 1) = nI 5 → mC l κ true d 0 0 m_X3_valueOf [.ref 91, .int (mg_i (ms_i G 97 ((mg_i G 91 10).toNatClampNeg) (v2 + (nI 1))) v3 4), .int (mg_i (ms_i G 97 ((mg_i G 91 10).toNatClampNeg) (v2 + (nI 1))) v3 5)] (ms_i G 97 ((mg_i G 91 10).toNatClampNeg) (v2 + (nI 1))) (rI (fun r5 G6 => mC l κ true d 0 0 m_X3_putsOut [.ref 91, .int r5] G6 (rI (fun r7 G8 => (r7 = 0 ∨ r7 = 1) ∧ K r7 G8))))) ∧ ((mg_i (ms_i G 97 ((mg_i G 91 10).toNatClampNeg) (v2 + (nI 1))) v3 1) = nI 6 → ((¬ (mg_i G 91 10) = 0 → mC l κ true d 0 0 m_X6_where [.ref v1, .long (mg_l G v3 9), .int (nI 0)] (ms_i G 97 ((mg_i G 91 10).toNatClampNeg) (v2 + (nI 1))) (rI (fun r9 G10 => mC l κ true d 0 0 m_X3_jump [.ref 91, .int r9] G10 (rV (fun G12 => K (nI 1) G12))))) ∧ ((mg_i G 91 10) = 0 → mC l κ true d 0 0 m_X6_where [.ref v1, .long (mg_l G v3 9), .int (mg_i G 91 11)] (ms_i G 97 ((mg_i G 91 10).toNatClampNeg) (v2 + (nI 1))) (rI (fun r13 G14 => mC l κ true d 0 0 m_X3_jump [.ref 91, .int r13] G14 (rV (fun G16 => K (nI 1) G16))))))) ∧ ((mg_i (ms_i G 97 ((mg_i G 91 10).toNatClampNeg) (v2 + (nI 1))) v3 1) = nI 7 → mC l κ true d 0 0 m_X3_valueOf [.ref 91, .int (mg_i (ms_i G 97 ((mg_i G 91 10).toNatClampNeg) (v2 + (nI 1))) v3 6), .int (mg_i (ms_i G 97 ((mg_i G 91 10).toNatClampNeg) (v2 + (nI 1))) v3 7)] (ms_i G 97 ((mg_i G 91 10).toNatClampNeg) (v2 + (nI 1))) (rI (fun r17 G18 => mC l κ true d 0 0 m_X3_valueOf [.ref 91, .int (mg_i G18 v3 4), .int (mg_i G18 v3 5)] G18 (rI (fun r19 G20 => mC l κ true d 0 0 m_X3_holds [.int (mg_i G18 v3 8), .int r17, .int r19] G20 (rI (fun r21 G22 => ((r21 = 0 → K (nI 1) G22) ∧ (¬ r21 = 0 → ((¬ (mg_i G22 91 10) = 0 → mC l κ true d 0 0 m_X6_where [.ref v1, .long (mg_l G22 v3 9), .int (nI 0)] G22 (rI (fun r23 G24 => mC l κ true d 0 0 m_X3_jump [.ref 91, .int r23] G24 (rV (fun G26 => K (nI 1) G26))))) ∧ ((mg_i G22 91 10) = 0 → mC l κ true d 0 0 m_X6_where [.ref v1, .long (mg_l G22 v3 9), .int (mg_i G22 91 11)] G22 (rI (fun r27 G28 => mC l κ true d 0 0 m_X3_jump [.ref 91, .int r27] G28 (rV (fun G30 => K (nI 1) G30))))))))))))))) ∧ ((mg_i (ms_i G 97 ((mg_i G 91 10).toNatClampNeg) (v2 + (nI 1))) v3 1) = nI 8 → mC l κ true d 0 0 m_X3_enter [.ref 91, .int (mg_i (ms_i G 97 ((mg_i G 91 10).toNatClampNeg) (v2 + (nI 1))) v3 10)] (ms_i G 97 ((mg_i G 91 10).toNatClampNeg) (v2 + (nI 1))) (rV (fun G32 => K (nI 1) G32))) ∧ ((mg_i (ms_i G 97 ((mg_i G 91 10).toNatClampNeg) (v2 + (nI 1))) v3 1) = nI 9 → vp_in (mg_i G 91 10) 4 ∧ K (nI 1) (ms_i (ms_i G 97 ((mg_i G 91 10).toNatClampNeg) (v2 + (nI 1))) 97 ((mg_i G 91 10).toNatClampNeg) (mg_i (ms_i G 97 ((mg_i G 91 10).toNatClampNeg) (v2 + (nI 1))) v1 1))) ∧ ((mg_i (ms_i G 97 ((mg_i G 91 10).toNatClampNeg) (v2 + (nI 1))) v3 1) = nI 10 → K (nI 1) (ms_i G 97 ((mg_i G 91 10).toNatClampNeg) (v2 + (nI 1)))) ∧ (((mg_i (ms_i G 97 ((mg_i G 91 10).toNatClampNeg) (v2 + (nI 1))) v3 1).toInt < 5 ∨ 10 < (mg_i (ms_i G 97 ((mg_i G 91 10).toNatClampNeg) (v2 + (nI 1))) v3 1).toInt) → mC l κ true d 0 0 m_X3_valueOf [.ref 91, .int (mg_i (ms_i G 97 ((mg_i G 91 10).toNatClampNeg) (v2 + (nI 1))) v3 4), .int (mg_i (ms_i G 97 ((mg_i G 91 10).toNatClampNeg) (v2 + (nI 1))) v3 5)] (ms_i G 97 ((mg_i G 91 10).toNatClampNeg) (v2 + (nI 1))) (rI (fun r1 G2 => mC l κ true d 0 0 m_X3_reckons [.ref 91, .ref v3, .int r1] G2 (rI (fun r3 G4 => (r3 = 0 ∨ r3 = 1) ∧ K r3 G4))))))) : mV l κ true (d + 1) 0 0 m_X3_doesLine 74 [some (.ref 91), some (.ref v1), some (.int v2), some (.ref v3), none] [] G (rI K) := by
  refine mV_aload_n (k := 0) (by decide +kernel) rfl ?_
  refine mV_gfr (r := some 97) (by decide +kernel) fk_3_31 sh_91 (mm_rrs st_91_9) rfl ?_
  refine mV_aload_n (k := 0) (by decide +kernel) rfl ?_
  refine mV_gfix (x := mg_i G 91 10) (by decide +kernel) fk_3_73 sh_91 rfl ?_
  refine mV_iload_n (k := 2) (by decide +kernel) rfl ?_
  refine mV_iconst (n := 1) (v := nI 1) (by decide +kernel) (by decide) ?_
  refine mV_iadd (by decide +kernel) ?_
  refine mV_ias (by decide +kernel) sh_97 h.1 ?_
  replace h := h.2
  refine mV_aload_n (k := 3) (by decide +kernel) rfl ?_
  refine mV_gfix (x := mg_i (ms_i G 97 ((mg_i G 91 10).toNatClampNeg) (v2 + (nI 1))) v3 1) (by decide +kernel) fk_3_107 hv3 rfl ?_
  have hsw : ((mg_i (ms_i G 97 ((mg_i G 91 10).toNatClampNeg) (v2 + (nI 1))) v3 1).toInt < 5 ∨ 10 < (mg_i (ms_i G 97 ((mg_i G 91 10).toNatClampNeg) (v2 + (nI 1))) v3 1).toInt) ∨ (mg_i (ms_i G 97 ((mg_i G 91 10).toNatClampNeg) (v2 + (nI 1))) v3 1).toInt = 5 ∨ (mg_i (ms_i G 97 ((mg_i G 91 10).toNatClampNeg) (v2 + (nI 1))) v3 1).toInt = 6 ∨ (mg_i (ms_i G 97 ((mg_i G 91 10).toNatClampNeg) (v2 + (nI 1))) v3 1).toInt = 7 ∨ (mg_i (ms_i G 97 ((mg_i G 91 10).toNatClampNeg) (v2 + (nI 1))) v3 1).toInt = 8 ∨ (mg_i (ms_i G 97 ((mg_i G 91 10).toNatClampNeg) (v2 + (nI 1))) v3 1).toInt = 9 ∨ (mg_i (ms_i G 97 ((mg_i G 91 10).toNatClampNeg) (v2 + (nI 1))) v3 1).toInt = 10 := by omega
  rcases hsw with hc | hc | hc | hc | hc | hc | hc
  · replace h := h.2.2.2.2.2.2 hc
    refine mV_tabOut (dflt := 178) (lo := 5) (hi := 10) (offs := #[38, 55, 84, 151, 161, 176]) (len := 38) (tgt := 268) (by decide +kernel) hc (by decide) ?_
    refine mV_aload_n (k := 0) (by decide +kernel) rfl ?_
    refine mV_aload_n (k := 3) (by decide +kernel) rfl ?_
    refine mV_aload_n (k := 0) (by decide +kernel) rfl ?_
    refine mV_aload_n (k := 3) (by decide +kernel) rfl ?_
    refine mV_gfix (x := mg_i (ms_i G 97 ((mg_i G 91 10).toNatClampNeg) (v2 + (nI 1))) v3 4) (by decide +kernel) fk_3_112 hv3 rfl ?_
    refine mV_aload_n (k := 3) (by decide +kernel) rfl ?_
    refine mV_gfix (x := mg_i (ms_i G 97 ((mg_i G 91 10).toNatClampNeg) (v2 + (nI 1))) v3 5) (by decide +kernel) fk_3_115 hv3 rfl ?_
    refine mV_cV (as := [.int (mg_i (ms_i G 97 ((mg_i G 91 10).toNatClampNeg) (v2 + (nI 1))) v3 4), .int (mg_i (ms_i G 97 ((mg_i G 91 10).toNatClampNeg) (v2 + (nI 1))) v3 5)]) (rest := [.ref v3, .ref 91]) (mc1 := 0) (ms1 := 0) (mc := 0) (ms := 0) (by decide +kernel) md_X3_valueOf lk_3_118 sh_91 rfl rfl rfl (Nat.le_of_ble_eq_true rfl) (mC.mono (mm_contI (fun r1 G2 hK => ?_)) h)
    replace h := hK
    refine mV_cV (as := [.ref v3, .int r1]) (rest := []) (mc1 := 0) (ms1 := 0) (mc := 0) (ms := 0) (by decide +kernel) md_X3_reckons lk_3_156 sh_91 rfl rfl rfl (Nat.le_of_ble_eq_true rfl) (mC.mono (mm_contI (fun r3 G4 hK => ?_)) h)
    replace h := hK
    exact mV_zret (by decide +kernel) rfl h.1 h.2
  · replace h := h.1 (mm_eqI hc (by decide))
    refine mV_tabIn (dflt := 178) (lo := 5) (hi := 10) (offs := #[38, 55, 84, 151, 161, 176]) (len := 38) (off := 38) (tgt := 128) (by decide +kernel) (by rw [hc]; decide) (by rw [hc]; decide) (by rw [hc]; rfl) (by decide) ?_
    refine mV_aload_n (k := 0) (by decide +kernel) rfl ?_
    refine mV_aload_n (k := 0) (by decide +kernel) rfl ?_
    refine mV_aload_n (k := 3) (by decide +kernel) rfl ?_
    refine mV_gfix (x := mg_i (ms_i G 97 ((mg_i G 91 10).toNatClampNeg) (v2 + (nI 1))) v3 4) (by decide +kernel) fk_3_112 hv3 rfl ?_
    refine mV_aload_n (k := 3) (by decide +kernel) rfl ?_
    refine mV_gfix (x := mg_i (ms_i G 97 ((mg_i G 91 10).toNatClampNeg) (v2 + (nI 1))) v3 5) (by decide +kernel) fk_3_115 hv3 rfl ?_
    refine mV_cV (as := [.int (mg_i (ms_i G 97 ((mg_i G 91 10).toNatClampNeg) (v2 + (nI 1))) v3 4), .int (mg_i (ms_i G 97 ((mg_i G 91 10).toNatClampNeg) (v2 + (nI 1))) v3 5)]) (rest := [.ref 91]) (mc1 := 0) (ms1 := 0) (mc := 0) (ms := 0) (by decide +kernel) md_X3_valueOf lk_3_118 sh_91 rfl rfl rfl (Nat.le_of_ble_eq_true rfl) (mC.mono (mm_contI (fun r5 G6 hK => ?_)) h)
    replace h := hK
    refine mV_cV (as := [.int r5]) (rest := []) (mc1 := 0) (ms1 := 0) (mc := 0) (ms := 0) (by decide +kernel) md_X3_putsOut lk_3_121 sh_91 rfl rfl rfl (Nat.le_of_ble_eq_true rfl) (mC.mono (mm_contI (fun r7 G8 hK => ?_)) h)
    replace h := hK
    exact mV_zret (by decide +kernel) rfl h.1 h.2
  · replace h := h.2.1 (mm_eqI hc (by decide))
    refine mV_tabIn (dflt := 178) (lo := 5) (hi := 10) (offs := #[38, 55, 84, 151, 161, 176]) (len := 38) (off := 55) (tgt := 145) (by decide +kernel) (by rw [hc]; decide) (by rw [hc]; decide) (by rw [hc]; rfl) (by decide) ?_
    refine mV_aload_n (k := 0) (by decide +kernel) rfl ?_
    refine mV_aload_n (k := 1) (by decide +kernel) rfl ?_
    refine mV_aload_n (k := 3) (by decide +kernel) rfl ?_
    refine mV_gflx (x := mg_l G v3 9) (by decide +kernel) fk_3_125 hv3 rfl ?_
    refine mV_aload_n (k := 0) (by decide +kernel) rfl ?_
    refine mV_gfix (x := mg_i G 91 10) (by decide +kernel) fk_3_73 sh_91 rfl ?_
    refine mV_if_ne (off := 10) (tgt := 165) (by decide +kernel) (by decide) (fun hc => ?_) (fun hc => ?_)
    · replace h := h.1 hc
      refine mV_iconst (n := 0) (v := nI 0) (by decide +kernel) (by decide) ?_
      refine mV_cV (as := [.long (mg_l G v3 9), .int (nI 0)]) (rest := [.ref 91]) (mc1 := 0) (ms1 := 0) (mc := 0) (ms := 0) (by decide +kernel) md_X6_where lk_3_129 hv1.1 rfl rfl rfl (Nat.le_of_ble_eq_true rfl) (mC.mono (mm_contI (fun r9 G10 hK => ?_)) h)
      replace h := hK
      refine mV_cV (as := [.int r9]) (rest := []) (mc1 := 0) (ms1 := 0) (mc := 0) (ms := 0) (by decide +kernel) md_X3_jump lk_3_133 sh_91 rfl rfl rfl (Nat.le_of_ble_eq_true rfl) (mC.mono (mm_contV (fun G12 hK => ?_)) h)
      replace h := hK
      refine mV_iconst (n := 1) (v := nI 1) (by decide +kernel) (by decide) ?_
      exact mV_zret (by decide +kernel) rfl (by decide) h
    · replace h := h.2 hc
      refine mV_aload_n (k := 0) (by decide +kernel) rfl ?_
      refine mV_gfix (x := mg_i G 91 11) (by decide +kernel) fk_3_76 sh_91 rfl ?_
      refine mV_goto (off := 4) (tgt := 166) (by decide +kernel) (by decide) ?_
      refine mV_cV (as := [.long (mg_l G v3 9), .int (mg_i G 91 11)]) (rest := [.ref 91]) (mc1 := 0) (ms1 := 0) (mc := 0) (ms := 0) (by decide +kernel) md_X6_where lk_3_129 hv1.1 rfl rfl rfl (Nat.le_of_ble_eq_true rfl) (mC.mono (mm_contI (fun r13 G14 hK => ?_)) h)
      replace h := hK
      refine mV_cV (as := [.int r13]) (rest := []) (mc1 := 0) (ms1 := 0) (mc := 0) (ms := 0) (by decide +kernel) md_X3_jump lk_3_133 sh_91 rfl rfl rfl (Nat.le_of_ble_eq_true rfl) (mC.mono (mm_contV (fun G16 hK => ?_)) h)
      replace h := hK
      refine mV_iconst (n := 1) (v := nI 1) (by decide +kernel) (by decide) ?_
      exact mV_zret (by decide +kernel) rfl (by decide) h
  · replace h := h.2.2.1 (mm_eqI hc (by decide))
    refine mV_tabIn (dflt := 178) (lo := 5) (hi := 10) (offs := #[38, 55, 84, 151, 161, 176]) (len := 38) (off := 84) (tgt := 174) (by decide +kernel) (by rw [hc]; decide) (by rw [hc]; decide) (by rw [hc]; rfl) (by decide) ?_
    refine mV_aload_n (k := 0) (by decide +kernel) rfl ?_
    refine mV_aload_n (k := 3) (by decide +kernel) rfl ?_
    refine mV_gfix (x := mg_i (ms_i G 97 ((mg_i G 91 10).toNatClampNeg) (v2 + (nI 1))) v3 6) (by decide +kernel) fk_3_137 hv3 rfl ?_
    refine mV_aload_n (k := 3) (by decide +kernel) rfl ?_
    refine mV_gfix (x := mg_i (ms_i G 97 ((mg_i G 91 10).toNatClampNeg) (v2 + (nI 1))) v3 7) (by decide +kernel) fk_3_140 hv3 rfl ?_
    refine mV_cV (as := [.int (mg_i (ms_i G 97 ((mg_i G 91 10).toNatClampNeg) (v2 + (nI 1))) v3 6), .int (mg_i (ms_i G 97 ((mg_i G 91 10).toNatClampNeg) (v2 + (nI 1))) v3 7)]) (rest := []) (mc1 := 0) (ms1 := 0) (mc := 0) (ms := 0) (by decide +kernel) md_X3_valueOf lk_3_118 sh_91 rfl rfl rfl (Nat.le_of_ble_eq_true rfl) (mC.mono (mm_contI (fun r17 G18 hK => ?_)) h)
    replace h := hK
    refine mV_istore (i := 4) (ls' := [some (.ref 91), some (.ref v1), some (.int v2), some (.ref v3), some (.int r17)]) (by decide +kernel) (Nat.le_of_ble_eq_true rfl) rfl rfl ?_
    refine mV_aload_n (k := 3) (by decide +kernel) rfl ?_
    refine mV_gfix (x := mg_i G18 v3 8) (by decide +kernel) fk_3_143 hv3 rfl ?_
    refine mV_iload (i := 4) (by decide +kernel) rfl ?_
    refine mV_aload_n (k := 0) (by decide +kernel) rfl ?_
    refine mV_aload_n (k := 3) (by decide +kernel) rfl ?_
    refine mV_gfix (x := mg_i G18 v3 4) (by decide +kernel) fk_3_112 hv3 rfl ?_
    refine mV_aload_n (k := 3) (by decide +kernel) rfl ?_
    refine mV_gfix (x := mg_i G18 v3 5) (by decide +kernel) fk_3_115 hv3 rfl ?_
    refine mV_cV (as := [.int (mg_i G18 v3 4), .int (mg_i G18 v3 5)]) (rest := [.int r17, .int (mg_i G18 v3 8)]) (mc1 := 0) (ms1 := 0) (mc := 0) (ms := 0) (by decide +kernel) md_X3_valueOf lk_3_118 sh_91 rfl rfl rfl (Nat.le_of_ble_eq_true rfl) (mC.mono (mm_contI (fun r19 G20 hK => ?_)) h)
    replace h := hK
    refine mV_cS (as := [.int (mg_i G18 v3 8), .int r17, .int r19]) (rest := []) (mc1 := 0) (ms1 := 0) (mc := 0) (ms := 0) (by decide +kernel) md_X3_holds lk_3_146 rfl rfl (Nat.le_of_ble_eq_true rfl) (mC.mono (mm_contI (fun r21 G22 hK => ?_)) h)
    replace h := hK
    refine mV_if_eq (off := 30) (tgt := 239) (by decide +kernel) (by decide) (fun hc => ?_) (fun hc => ?_)
    · replace h := h.1 hc
      refine mV_iconst (n := 1) (v := nI 1) (by decide +kernel) (by decide) ?_
      exact mV_zret (by decide +kernel) rfl (by decide) h
    · replace h := h.2 hc
      refine mV_aload_n (k := 0) (by decide +kernel) rfl ?_
      refine mV_aload_n (k := 1) (by decide +kernel) rfl ?_
      refine mV_aload_n (k := 3) (by decide +kernel) rfl ?_
      refine mV_gflx (x := mg_l G22 v3 9) (by decide +kernel) fk_3_125 hv3 rfl ?_
      refine mV_aload_n (k := 0) (by decide +kernel) rfl ?_
      refine mV_gfix (x := mg_i G22 91 10) (by decide +kernel) fk_3_73 sh_91 rfl ?_
      refine mV_if_ne (off := 10) (tgt := 232) (by decide +kernel) (by decide) (fun hc => ?_) (fun hc => ?_)
      · replace h := h.1 hc
        refine mV_iconst (n := 0) (v := nI 0) (by decide +kernel) (by decide) ?_
        refine mV_cV (as := [.long (mg_l G22 v3 9), .int (nI 0)]) (rest := [.ref 91]) (mc1 := 0) (ms1 := 0) (mc := 0) (ms := 0) (by decide +kernel) md_X6_where lk_3_129 hv1.1 rfl rfl rfl (Nat.le_of_ble_eq_true rfl) (mC.mono (mm_contI (fun r23 G24 hK => ?_)) h)
        replace h := hK
        refine mV_cV (as := [.int r23]) (rest := []) (mc1 := 0) (ms1 := 0) (mc := 0) (ms := 0) (by decide +kernel) md_X3_jump lk_3_133 sh_91 rfl rfl rfl (Nat.le_of_ble_eq_true rfl) (mC.mono (mm_contV (fun G26 hK => ?_)) h)
        replace h := hK
        refine mV_iconst (n := 1) (v := nI 1) (by decide +kernel) (by decide) ?_
        exact mV_zret (by decide +kernel) rfl (by decide) h
      · replace h := h.2 hc
        refine mV_aload_n (k := 0) (by decide +kernel) rfl ?_
        refine mV_gfix (x := mg_i G22 91 11) (by decide +kernel) fk_3_76 sh_91 rfl ?_
        refine mV_goto (off := 4) (tgt := 233) (by decide +kernel) (by decide) ?_
        refine mV_cV (as := [.long (mg_l G22 v3 9), .int (mg_i G22 91 11)]) (rest := [.ref 91]) (mc1 := 0) (ms1 := 0) (mc := 0) (ms := 0) (by decide +kernel) md_X6_where lk_3_129 hv1.1 rfl rfl rfl (Nat.le_of_ble_eq_true rfl) (mC.mono (mm_contI (fun r27 G28 hK => ?_)) h)
        replace h := hK
        refine mV_cV (as := [.int r27]) (rest := []) (mc1 := 0) (ms1 := 0) (mc := 0) (ms := 0) (by decide +kernel) md_X3_jump lk_3_133 sh_91 rfl rfl rfl (Nat.le_of_ble_eq_true rfl) (mC.mono (mm_contV (fun G30 hK => ?_)) h)
        replace h := hK
        refine mV_iconst (n := 1) (v := nI 1) (by decide +kernel) (by decide) ?_
        exact mV_zret (by decide +kernel) rfl (by decide) h
  · replace h := h.2.2.2.1 (mm_eqI hc (by decide))
    refine mV_tabIn (dflt := 178) (lo := 5) (hi := 10) (offs := #[38, 55, 84, 151, 161, 176]) (len := 38) (off := 151) (tgt := 241) (by decide +kernel) (by rw [hc]; decide) (by rw [hc]; decide) (by rw [hc]; rfl) (by decide) ?_
    refine mV_aload_n (k := 0) (by decide +kernel) rfl ?_
    refine mV_aload_n (k := 3) (by decide +kernel) rfl ?_
    refine mV_gfix (x := mg_i (ms_i G 97 ((mg_i G 91 10).toNatClampNeg) (v2 + (nI 1))) v3 10) (by decide +kernel) fk_3_150 hv3 rfl ?_
    refine mV_cV (as := [.int (mg_i (ms_i G 97 ((mg_i G 91 10).toNatClampNeg) (v2 + (nI 1))) v3 10)]) (rest := []) (mc1 := 0) (ms1 := 0) (mc := 0) (ms := 0) (by decide +kernel) md_X3_enter lk_3_153 sh_91 rfl rfl rfl (Nat.le_of_ble_eq_true rfl) (mC.mono (mm_contV (fun G32 hK => ?_)) h)
    replace h := hK
    refine mV_iconst (n := 1) (v := nI 1) (by decide +kernel) (by decide) ?_
    exact mV_zret (by decide +kernel) rfl (by decide) h
  · replace h := h.2.2.2.2.1 (mm_eqI hc (by decide))
    refine mV_tabIn (dflt := 178) (lo := 5) (hi := 10) (offs := #[38, 55, 84, 151, 161, 176]) (len := 38) (off := 161) (tgt := 251) (by decide +kernel) (by rw [hc]; decide) (by rw [hc]; decide) (by rw [hc]; rfl) (by decide) ?_
    refine mV_aload_n (k := 0) (by decide +kernel) rfl ?_
    refine mV_gfr (r := some 97) (by decide +kernel) fk_3_31 sh_91 (mm_rrs st_91_9) rfl ?_
    refine mV_aload_n (k := 0) (by decide +kernel) rfl ?_
    refine mV_gfix (x := mg_i G 91 10) (by decide +kernel) fk_3_73 sh_91 rfl ?_
    refine mV_aload_n (k := 1) (by decide +kernel) rfl ?_
    refine mV_gfix (x := mg_i (ms_i G 97 ((mg_i G 91 10).toNatClampNeg) (v2 + (nI 1))) v1 1) (by decide +kernel) fk_3_88 hv1.1 rfl ?_
    refine mV_ias (by decide +kernel) sh_97 h.1 ?_
    replace h := h.2
    refine mV_iconst (n := 1) (v := nI 1) (by decide +kernel) (by decide) ?_
    exact mV_zret (by decide +kernel) rfl (by decide) h
  · replace h := h.2.2.2.2.2.1 (mm_eqI hc (by decide))
    refine mV_tabIn (dflt := 178) (lo := 5) (hi := 10) (offs := #[38, 55, 84, 151, 161, 176]) (len := 38) (off := 176) (tgt := 266) (by decide +kernel) (by rw [hc]; decide) (by rw [hc]; decide) (by rw [hc]; rfl) (by decide) ?_
    refine mV_iconst (n := 1) (v := nI 1) (by decide +kernel) (by decide) ?_
    exact mV_zret (by decide +kernel) rfl (by decide) h
set_option maxRecDepth 100000 in
set_option maxHeartbeats 4000000 in
theorem e_X3_valueOf {l : Launch} {κ : mm_K} {d : Nat} {G : mm_G} {K : Int32 → mm_G → Prop} (a1 : Int32) (a2 : Int32) (h : ((¬ a1 = 0 → ((¬ a1 = (nI 1) → vp_in (mg_i G 91 12) 8 ∧ (((mg_i G 91 13) < (mg_i G 72 ((mg_i G 91 12).toNatClampNeg)) → vp_in (mg_i G 91 12) 8 ∧ vp_in (((mg_i G 91 13) + (nI 1)) - (nI 1)) 6 ∧ K (mg_i (ms_i G 91 13 ((mg_i G 91 13) + (nI 1))) (64 + (mg_i G 91 12).toNatClampNeg) ((((mg_i G 91 13) + (nI 1)) - (nI 1)).toNatClampNeg)) (ms_i G 91 13 ((mg_i G 91 13) + (nI 1)))) ∧ (¬ (mg_i G 91 13) < (mg_i G 72 ((mg_i G 91 12).toNatClampNeg)) → K (nI 0) G))) ∧ (a1 = (nI 1) → vp_in a2 4 ∧ K (mg_i G 94 a2.toNatClampNeg) G))) ∧ (a1 = 0 → K a2 G))) : mC l κ true d 0 0 m_X3_valueOf [.ref 91, .int a1, .int a2] G (rI K) := by
  refine mC.of (by decide) (Nat.le_of_ble_eq_true rfl) [some (.ref 91), some (.int a1), some (.int a2)] rfl ?_
  refine mV_iload_n (k := 1) (by decide +kernel) rfl ?_
  refine mV_if_ne (off := 5) (tgt := 6) (by decide +kernel) (by decide) (fun hc => ?_) (fun hc => ?_)
  · replace h := h.1 hc
    refine mV_iload_n (k := 1) (by decide +kernel) rfl ?_
    refine mV_iconst (n := 1) (v := nI 1) (by decide +kernel) (by decide) ?_
    refine mV_icmp_ne (off := 10) (tgt := 18) (by decide +kernel) (by decide) (fun hc => ?_) (fun hc => ?_)
    · replace h := h.1 hc
      refine mV_aload_n (k := 0) (by decide +kernel) rfl ?_
      refine mV_gfix (x := mg_i G 91 13) (by decide +kernel) fk_3_82 sh_91 rfl ?_
      refine mV_aload_n (k := 0) (by decide +kernel) rfl ?_
      refine mV_gfr (r := some 62) (by decide +kernel) fk_3_38 sh_91 (mm_rrs st_91_7) rfl ?_
      refine mV_gfr (r := some 72) (by decide +kernel) fk_3_160 sh_62 (mm_rrs st_62_1) rfl ?_
      refine mV_aload_n (k := 0) (by decide +kernel) rfl ?_
      refine mV_gfix (x := mg_i G 91 12) (by decide +kernel) fk_3_79 sh_91 rfl ?_
      refine mV_ialx (x := mg_i G 72 ((mg_i G 91 12).toNatClampNeg)) (by decide +kernel) sh_72 h.1 rfl ?_
      replace h := h.2
      refine mV_icmp_lt (off := 5) (tgt := 39) (by decide +kernel) (by decide) (fun hc => ?_) (fun hc => ?_)
      · replace h := h.1 hc
        refine mV_aload_n (k := 0) (by decide +kernel) rfl ?_
        refine mV_dup (by decide +kernel) rfl ?_
        refine mV_gfix (x := mg_i G 91 13) (by decide +kernel) fk_3_82 sh_91 rfl ?_
        refine mV_iconst (n := 1) (v := nI 1) (by decide +kernel) (by decide) ?_
        refine mV_iadd (by decide +kernel) ?_
        refine mV_pfi (by decide +kernel) fk_3_82 sh_91 ?_
        refine mV_aload_n (k := 0) (by decide +kernel) rfl ?_
        refine mV_gfr (r := some 62) (by decide +kernel) fk_3_38 sh_91 (mm_rrs st_91_7) rfl ?_
        refine mV_gfr (r := some 63) (by decide +kernel) fk_3_163 sh_62 (mm_rrs st_62_0) rfl ?_
        refine mV_aload_n (k := 0) (by decide +kernel) rfl ?_
        refine mV_gfix (x := mg_i G 91 12) (by decide +kernel) fk_3_79 sh_91 rfl ?_
        have hj1 := h.1
        replace h := h.2
        refine mV_aal (t := 8) (r := some (64 + (mg_i G 91 12).toNatClampNeg)) (by decide +kernel) sh_63 (by decide) hj1 (mm_rrs (mm_num1 _ (mm_ixlt hj1)).2) rfl ?_
        refine mV_aload_n (k := 0) (by decide +kernel) rfl ?_
        refine mV_gfix (x := (mg_i G 91 13) + (nI 1)) (by decide +kernel) fk_3_82 sh_91 rfl ?_
        refine mV_iconst (n := 1) (v := nI 1) (by decide +kernel) (by decide) ?_
        refine mV_isub (by decide +kernel) ?_
        refine mV_ialx (x := mg_i (ms_i G 91 13 ((mg_i G 91 13) + (nI 1))) (64 + (mg_i G 91 12).toNatClampNeg) ((((mg_i G 91 13) + (nI 1)) - (nI 1)).toNatClampNeg)) (by decide +kernel) (mm_num1 _ (mm_ixlt hj1)).1 h.1 rfl ?_
        replace h := h.2
        exact mV_iret (by decide +kernel) rfl h
      · replace h := h.2 hc
        refine mV_iconst (n := 0) (v := nI 0) (by decide +kernel) (by decide) ?_
        exact mV_iret (by decide +kernel) rfl h
    · replace h := h.2 hc
      refine mV_aload_n (k := 0) (by decide +kernel) rfl ?_
      refine mV_gfr (r := some 94) (by decide +kernel) fk_3_18 sh_91 (mm_rrs st_91_1) rfl ?_
      refine mV_iload_n (k := 2) (by decide +kernel) rfl ?_
      refine mV_ialx (x := mg_i G 94 a2.toNatClampNeg) (by decide +kernel) sh_94 h.1 rfl ?_
      replace h := h.2
      exact mV_iret (by decide +kernel) rfl h
  · replace h := h.2 hc
    refine mV_iload_n (k := 2) (by decide +kernel) rfl ?_
    exact mV_iret (by decide +kernel) rfl h
set_option maxRecDepth 100000 in
set_option maxHeartbeats 4000000 in
theorem e_X3_holds {l : Launch} {κ : mm_K} {d : Nat} {G : mm_G} {K : Int32 → mm_G → Prop} (a1 : Int32) (a2 : Int32) (a3 : Int32) (h : ((a1 = nI 0 → ((¬ a2 = a3 → K (nI 0) G) ∧ (a2 = a3 → K (nI 1) G))) ∧ (a1 = nI 1 → ((a2 = a3 → K (nI 0) G) ∧ (¬ a2 = a3 → K (nI 1) G))) ∧ (a1 = nI 2 → ((a3 ≤ a2 → K (nI 0) G) ∧ (¬ a3 ≤ a2 → K (nI 1) G))) ∧ ((a1.toInt < 0 ∨ 2 < a1.toInt) → ((a3 < a2 → K (nI 0) G) ∧ (¬ a3 < a2 → K (nI 1) G))))) : mC l κ true d 0 0 m_X3_holds [.int a1, .int a2, .int a3] G (rI K) := by
  refine mC.of (by decide) (Nat.le_of_ble_eq_true rfl) [some (.int a1), some (.int a2), some (.int a3)] rfl ?_
  refine mV_iload_n (k := 0) (by decide +kernel) rfl ?_
  have hsw : (a1.toInt < 0 ∨ 2 < a1.toInt) ∨ a1.toInt = 0 ∨ a1.toInt = 1 ∨ a1.toInt = 2 := by omega
  rcases hsw with hc | hc | hc | hc
  · replace h := h.2.2.2 hc
    refine mV_tabOut (dflt := 60) (lo := 0) (hi := 2) (offs := #[27, 38, 49]) (len := 27) (tgt := 61) (by decide +kernel) hc (by decide) ?_
    refine mV_iload_n (k := 1) (by decide +kernel) rfl ?_
    refine mV_iload_n (k := 2) (by decide +kernel) rfl ?_
    refine mV_icmp_gt (off := 7) (tgt := 70) (by decide +kernel) (by decide) (fun hc => ?_) (fun hc => ?_)
    · replace h := h.1 hc
      refine mV_iconst (n := 0) (v := nI 0) (by decide +kernel) (by decide) ?_
      exact mV_zret (by decide +kernel) rfl (by decide) h
    · replace h := h.2 hc
      refine mV_iconst (n := 1) (v := nI 1) (by decide +kernel) (by decide) ?_
      refine mV_goto (off := 4) (tgt := 71) (by decide +kernel) (by decide) ?_
      exact mV_zret (by decide +kernel) rfl (by decide) h
  · replace h := h.1 (mm_eqI hc (by decide))
    refine mV_tabIn (dflt := 60) (lo := 0) (hi := 2) (offs := #[27, 38, 49]) (len := 27) (off := 27) (tgt := 28) (by decide +kernel) (by rw [hc]; decide) (by rw [hc]; decide) (by rw [hc]; rfl) (by decide) ?_
    refine mV_iload_n (k := 1) (by decide +kernel) rfl ?_
    refine mV_iload_n (k := 2) (by decide +kernel) rfl ?_
    refine mV_icmp_ne (off := 7) (tgt := 37) (by decide +kernel) (by decide) (fun hc => ?_) (fun hc => ?_)
    · replace h := h.1 hc
      refine mV_iconst (n := 0) (v := nI 0) (by decide +kernel) (by decide) ?_
      exact mV_zret (by decide +kernel) rfl (by decide) h
    · replace h := h.2 hc
      refine mV_iconst (n := 1) (v := nI 1) (by decide +kernel) (by decide) ?_
      refine mV_goto (off := 4) (tgt := 38) (by decide +kernel) (by decide) ?_
      exact mV_zret (by decide +kernel) rfl (by decide) h
  · replace h := h.2.1 (mm_eqI hc (by decide))
    refine mV_tabIn (dflt := 60) (lo := 0) (hi := 2) (offs := #[27, 38, 49]) (len := 27) (off := 38) (tgt := 39) (by decide +kernel) (by rw [hc]; decide) (by rw [hc]; decide) (by rw [hc]; rfl) (by decide) ?_
    refine mV_iload_n (k := 1) (by decide +kernel) rfl ?_
    refine mV_iload_n (k := 2) (by decide +kernel) rfl ?_
    refine mV_icmp_eq (off := 7) (tgt := 48) (by decide +kernel) (by decide) (fun hc => ?_) (fun hc => ?_)
    · replace h := h.1 hc
      refine mV_iconst (n := 0) (v := nI 0) (by decide +kernel) (by decide) ?_
      exact mV_zret (by decide +kernel) rfl (by decide) h
    · replace h := h.2 hc
      refine mV_iconst (n := 1) (v := nI 1) (by decide +kernel) (by decide) ?_
      refine mV_goto (off := 4) (tgt := 49) (by decide +kernel) (by decide) ?_
      exact mV_zret (by decide +kernel) rfl (by decide) h
  · replace h := h.2.2.1 (mm_eqI hc (by decide))
    refine mV_tabIn (dflt := 60) (lo := 0) (hi := 2) (offs := #[27, 38, 49]) (len := 27) (off := 49) (tgt := 50) (by decide +kernel) (by rw [hc]; decide) (by rw [hc]; decide) (by rw [hc]; rfl) (by decide) ?_
    refine mV_iload_n (k := 1) (by decide +kernel) rfl ?_
    refine mV_iload_n (k := 2) (by decide +kernel) rfl ?_
    refine mV_icmp_ge (off := 7) (tgt := 59) (by decide +kernel) (by decide) (fun hc => ?_) (fun hc => ?_)
    · replace h := h.1 hc
      refine mV_iconst (n := 0) (v := nI 0) (by decide +kernel) (by decide) ?_
      exact mV_zret (by decide +kernel) rfl (by decide) h
    · replace h := h.2 hc
      refine mV_iconst (n := 1) (v := nI 1) (by decide +kernel) (by decide) ?_
      refine mV_goto (off := 4) (tgt := 60) (by decide +kernel) (by decide) ?_
      exact mV_zret (by decide +kernel) rfl (by decide) h
set_option maxRecDepth 100000 in
set_option maxHeartbeats 4000000 in
theorem e_X3_jump {l : Launch} {κ : mm_K} {d : Nat} {G : mm_G} {K : mm_G → Prop} (a1 : Int32) (h : ((0 ≤ a1 → ((¬ (mg_i G 91 10) = 0 → ((a1 < 0 → K G) ∧ (¬ a1 < 0 → vp_in (mg_i G 91 10) 4 ∧ K (ms_i G 97 ((mg_i G 91 10).toNatClampNeg) a1)))) ∧ ((mg_i G 91 10) = 0 → ((a1 ≤ (mg_i G 91 5) → ((a1 < 0 → K G) ∧ (¬ a1 < 0 → vp_in (mg_i G 91 10) 4 ∧ K (ms_i G 97 ((mg_i G 91 10).toNatClampNeg) a1)))) ∧ (¬ a1 ≤ (mg_i G 91 5) → ((a1 < 0 → K (ms_i G 91 5 a1)) ∧ (¬ a1 < 0 → vp_in (mg_i G 91 10) 4 ∧ K (ms_i (ms_i G 91 5 a1) 97 ((mg_i G 91 10).toNatClampNeg) a1)))))))) ∧ (¬ 0 ≤ a1 → vp_in (mg_i G 91 10) 4 ∧ ∃ t2, mg_r G 96 ((mg_i G 91 10).toNatClampNeg) = some t2 ∧ RowAt t2 ∧ ((¬ (mg_i G 91 10) = 0 → ((a1 < 0 → K G) ∧ (¬ a1 < 0 → vp_in (mg_i G 91 10) 4 ∧ K (ms_i G 97 ((mg_i G 91 10).toNatClampNeg) a1)))) ∧ ((mg_i G 91 10) = 0 → ((((mg_i G t2 1) - (nI 1)) ≤ (mg_i G 91 5) → ((a1 < 0 → K G) ∧ (¬ a1 < 0 → vp_in (mg_i G 91 10) 4 ∧ K (ms_i G 97 ((mg_i G 91 10).toNatClampNeg) a1)))) ∧ (¬ ((mg_i G t2 1) - (nI 1)) ≤ (mg_i G 91 5) → ((a1 < 0 → K (ms_i G 91 5 ((mg_i G t2 1) - (nI 1)))) ∧ (¬ a1 < 0 → vp_in (mg_i G 91 10) 4 ∧ K (ms_i (ms_i G 91 5 ((mg_i G t2 1) - (nI 1))) 97 ((mg_i G 91 10).toNatClampNeg) a1)))))))))) : mC l κ true d 0 0 m_X3_jump [.ref 91, .int a1] G (rV K) := by
  refine mC.of (by decide) (Nat.le_of_ble_eq_true rfl) [some (.ref 91), some (.int a1), none] rfl ?_
  refine mV_iload_n (k := 1) (by decide +kernel) rfl ?_
  refine mV_if_ge (off := 20) (tgt := 21) (by decide +kernel) (by decide) (fun hc => ?_) (fun hc => ?_)
  · replace h := h.1 hc
    refine mV_iload_n (k := 1) (by decide +kernel) rfl ?_
    refine mV_istore_n (k := 2) (ls' := [some (.ref 91), some (.int a1), some (.int a1)]) (by decide +kernel) (Nat.le_of_ble_eq_true rfl) rfl rfl ?_
    refine mV_aload_n (k := 0) (by decide +kernel) rfl ?_
    refine mV_gfix (x := mg_i G 91 10) (by decide +kernel) fk_3_73 sh_91 rfl ?_
    refine mV_if_ne (off := 16) (tgt := 43) (by decide +kernel) (by decide) (fun hc => ?_) (fun hc => ?_)
    · replace h := h.1 hc
      refine mV_iload_n (k := 1) (by decide +kernel) rfl ?_
      refine mV_if_lt (off := 13) (tgt := 57) (by decide +kernel) (by decide) (fun hc => ?_) (fun hc => ?_)
      · replace h := h.1 hc
        exact mV_vret (by decide +kernel) rfl h
      · replace h := h.2 hc
        refine mV_aload_n (k := 0) (by decide +kernel) rfl ?_
        refine mV_gfr (r := some 97) (by decide +kernel) fk_3_31 sh_91 (mm_rrs st_91_9) rfl ?_
        refine mV_aload_n (k := 0) (by decide +kernel) rfl ?_
        refine mV_gfix (x := mg_i G 91 10) (by decide +kernel) fk_3_73 sh_91 rfl ?_
        refine mV_iload_n (k := 1) (by decide +kernel) rfl ?_
        refine mV_ias (by decide +kernel) sh_97 h.1 ?_
        replace h := h.2
        exact mV_vret (by decide +kernel) rfl h
    · replace h := h.2 hc
      refine mV_iload_n (k := 2) (by decide +kernel) rfl ?_
      refine mV_aload_n (k := 0) (by decide +kernel) rfl ?_
      refine mV_gfix (x := mg_i G 91 5) (by decide +kernel) fk_3_70 sh_91 rfl ?_
      refine mV_icmp_le (off := 8) (tgt := 43) (by decide +kernel) (by decide) (fun hc => ?_) (fun hc => ?_)
      · replace h := h.1 hc
        refine mV_iload_n (k := 1) (by decide +kernel) rfl ?_
        refine mV_if_lt (off := 13) (tgt := 57) (by decide +kernel) (by decide) (fun hc => ?_) (fun hc => ?_)
        · replace h := h.1 hc
          exact mV_vret (by decide +kernel) rfl h
        · replace h := h.2 hc
          refine mV_aload_n (k := 0) (by decide +kernel) rfl ?_
          refine mV_gfr (r := some 97) (by decide +kernel) fk_3_31 sh_91 (mm_rrs st_91_9) rfl ?_
          refine mV_aload_n (k := 0) (by decide +kernel) rfl ?_
          refine mV_gfix (x := mg_i G 91 10) (by decide +kernel) fk_3_73 sh_91 rfl ?_
          refine mV_iload_n (k := 1) (by decide +kernel) rfl ?_
          refine mV_ias (by decide +kernel) sh_97 h.1 ?_
          replace h := h.2
          exact mV_vret (by decide +kernel) rfl h
      · replace h := h.2 hc
        refine mV_aload_n (k := 0) (by decide +kernel) rfl ?_
        refine mV_iload_n (k := 2) (by decide +kernel) rfl ?_
        refine mV_pfi (by decide +kernel) fk_3_70 sh_91 ?_
        refine mV_iload_n (k := 1) (by decide +kernel) rfl ?_
        refine mV_if_lt (off := 13) (tgt := 57) (by decide +kernel) (by decide) (fun hc => ?_) (fun hc => ?_)
        · replace h := h.1 hc
          exact mV_vret (by decide +kernel) rfl h
        · replace h := h.2 hc
          refine mV_aload_n (k := 0) (by decide +kernel) rfl ?_
          refine mV_gfr (r := some 97) (by decide +kernel) fk_3_31 sh_91 (mm_rrs st_91_9) rfl ?_
          refine mV_aload_n (k := 0) (by decide +kernel) rfl ?_
          refine mV_gfix (x := mg_i G 91 10) (by decide +kernel) fk_3_73 sh_91 rfl ?_
          refine mV_iload_n (k := 1) (by decide +kernel) rfl ?_
          refine mV_ias (by decide +kernel) sh_97 h.1 ?_
          replace h := h.2
          exact mV_vret (by decide +kernel) rfl h
  · replace h := h.2 hc
    refine mV_aload_n (k := 0) (by decide +kernel) rfl ?_
    refine mV_gfr (r := some 96) (by decide +kernel) fk_3_27 sh_91 (mm_rrs st_91_8) rfl ?_
    refine mV_aload_n (k := 0) (by decide +kernel) rfl ?_
    refine mV_gfix (x := mg_i G 91 10) (by decide +kernel) fk_3_73 sh_91 rfl ?_
    have hj1 := h.1
    replace h := h.2
    obtain ⟨t2, hrt2, hat2, h⟩ := h
    refine mV_aal (t := 5) (r := some t2) (by decide +kernel) sh_96 (by decide) hj1 ((mm_rrd (st96 _ (mm_ixlt hj1))).trans hrt2) rfl ?_
    refine mV_gfix (x := mg_i G t2 1) (by decide +kernel) fk_3_88 hat2.1 rfl ?_
    refine mV_iconst (n := 1) (v := nI 1) (by decide +kernel) (by decide) ?_
    refine mV_isub (by decide +kernel) ?_
    refine mV_goto (off := 4) (tgt := 22) (by decide +kernel) (by decide) ?_
    refine mV_istore_n (k := 2) (ls' := [some (.ref 91), some (.int a1), some (.int ((mg_i G t2 1) - (nI 1)))]) (by decide +kernel) (Nat.le_of_ble_eq_true rfl) rfl rfl ?_
    refine mV_aload_n (k := 0) (by decide +kernel) rfl ?_
    refine mV_gfix (x := mg_i G 91 10) (by decide +kernel) fk_3_73 sh_91 rfl ?_
    refine mV_if_ne (off := 16) (tgt := 43) (by decide +kernel) (by decide) (fun hc => ?_) (fun hc => ?_)
    · replace h := h.1 hc
      refine mV_iload_n (k := 1) (by decide +kernel) rfl ?_
      refine mV_if_lt (off := 13) (tgt := 57) (by decide +kernel) (by decide) (fun hc => ?_) (fun hc => ?_)
      · replace h := h.1 hc
        exact mV_vret (by decide +kernel) rfl h
      · replace h := h.2 hc
        refine mV_aload_n (k := 0) (by decide +kernel) rfl ?_
        refine mV_gfr (r := some 97) (by decide +kernel) fk_3_31 sh_91 (mm_rrs st_91_9) rfl ?_
        refine mV_aload_n (k := 0) (by decide +kernel) rfl ?_
        refine mV_gfix (x := mg_i G 91 10) (by decide +kernel) fk_3_73 sh_91 rfl ?_
        refine mV_iload_n (k := 1) (by decide +kernel) rfl ?_
        refine mV_ias (by decide +kernel) sh_97 h.1 ?_
        replace h := h.2
        exact mV_vret (by decide +kernel) rfl h
    · replace h := h.2 hc
      refine mV_iload_n (k := 2) (by decide +kernel) rfl ?_
      refine mV_aload_n (k := 0) (by decide +kernel) rfl ?_
      refine mV_gfix (x := mg_i G 91 5) (by decide +kernel) fk_3_70 sh_91 rfl ?_
      refine mV_icmp_le (off := 8) (tgt := 43) (by decide +kernel) (by decide) (fun hc => ?_) (fun hc => ?_)
      · replace h := h.1 hc
        refine mV_iload_n (k := 1) (by decide +kernel) rfl ?_
        refine mV_if_lt (off := 13) (tgt := 57) (by decide +kernel) (by decide) (fun hc => ?_) (fun hc => ?_)
        · replace h := h.1 hc
          exact mV_vret (by decide +kernel) rfl h
        · replace h := h.2 hc
          refine mV_aload_n (k := 0) (by decide +kernel) rfl ?_
          refine mV_gfr (r := some 97) (by decide +kernel) fk_3_31 sh_91 (mm_rrs st_91_9) rfl ?_
          refine mV_aload_n (k := 0) (by decide +kernel) rfl ?_
          refine mV_gfix (x := mg_i G 91 10) (by decide +kernel) fk_3_73 sh_91 rfl ?_
          refine mV_iload_n (k := 1) (by decide +kernel) rfl ?_
          refine mV_ias (by decide +kernel) sh_97 h.1 ?_
          replace h := h.2
          exact mV_vret (by decide +kernel) rfl h
      · replace h := h.2 hc
        refine mV_aload_n (k := 0) (by decide +kernel) rfl ?_
        refine mV_iload_n (k := 2) (by decide +kernel) rfl ?_
        refine mV_pfi (by decide +kernel) fk_3_70 sh_91 ?_
        refine mV_iload_n (k := 1) (by decide +kernel) rfl ?_
        refine mV_if_lt (off := 13) (tgt := 57) (by decide +kernel) (by decide) (fun hc => ?_) (fun hc => ?_)
        · replace h := h.1 hc
          exact mV_vret (by decide +kernel) rfl h
        · replace h := h.2 hc
          refine mV_aload_n (k := 0) (by decide +kernel) rfl ?_
          refine mV_gfr (r := some 97) (by decide +kernel) fk_3_31 sh_91 (mm_rrs st_91_9) rfl ?_
          refine mV_aload_n (k := 0) (by decide +kernel) rfl ?_
          refine mV_gfix (x := mg_i G 91 10) (by decide +kernel) fk_3_73 sh_91 rfl ?_
          refine mV_iload_n (k := 1) (by decide +kernel) rfl ?_
          refine mV_ias (by decide +kernel) sh_97 h.1 ?_
          replace h := h.2
          exact mV_vret (by decide +kernel) rfl h
set_option maxRecDepth 100000 in
set_option maxHeartbeats 4000000 in
theorem e_X3_enter {l : Launch} {κ : mm_K} {d : Nat} {G : mm_G} {K : mm_G → Prop} (a1 : Int32) (h : ((a1 < 0 → K G) ∧ (¬ a1 < 0 → (((mg_i G 50 1) ≤ a1 → K G) ∧ (¬ (mg_i G 50 1) ≤ a1 → (((nI 4) ≤ ((mg_i G 91 10) + (nI 1)) → K G) ∧ (¬ (nI 4) ≤ ((mg_i G 91 10) + (nI 1)) → vp_in a1 4 ∧ vp_in ((mg_i G 91 10) + (nI 1)) 4 ∧ vp_in ((mg_i G 91 10) + (nI 1)) 4 ∧ K (ms_i (ms_r (ms_i G 91 10 ((mg_i G 91 10) + (nI 1))) 96 (((mg_i G 91 10) + (nI 1)).toNatClampNeg) (some (54 + 2 * a1.toNatClampNeg))) 97 (((mg_i G 91 10) + (nI 1)).toNatClampNeg) (nI 0))))))))) : mC l κ true d 0 0 m_X3_enter [.ref 91, .int a1] G (rV K) := by
  refine mC.of (by decide) (Nat.le_of_ble_eq_true rfl) [some (.ref 91), some (.int a1)] rfl ?_
  refine mV_iload_n (k := 1) (by decide +kernel) rfl ?_
  refine mV_if_lt (off := 62) (tgt := 63) (by decide +kernel) (by decide) (fun hc => ?_) (fun hc => ?_)
  · replace h := h.1 hc
    exact mV_vret (by decide +kernel) rfl h
  · replace h := h.2 hc
    refine mV_iload_n (k := 1) (by decide +kernel) rfl ?_
    refine mV_aload_n (k := 0) (by decide +kernel) rfl ?_
    refine mV_gfr (r := some 50) (by decide +kernel) fk_3_34 sh_91 (mm_rrs st_91_6) rfl ?_
    refine mV_gfix (x := mg_i G 50 1) (by decide +kernel) fk_3_167 sh_50 rfl ?_
    refine mV_icmp_ge (off := 51) (tgt := 63) (by decide +kernel) (by decide) (fun hc => ?_) (fun hc => ?_)
    · replace h := h.1 hc
      exact mV_vret (by decide +kernel) rfl h
    · replace h := h.2 hc
      refine mV_aload_n (k := 0) (by decide +kernel) rfl ?_
      refine mV_gfix (x := mg_i G 91 10) (by decide +kernel) fk_3_73 sh_91 rfl ?_
      refine mV_iconst (n := 1) (v := nI 1) (by decide +kernel) (by decide) ?_
      refine mV_iadd (by decide +kernel) ?_
      refine mV_iconst (n := 4) (v := nI 4) (by decide +kernel) (by decide) ?_
      refine mV_icmp_ge (off := 41) (tgt := 63) (by decide +kernel) (by decide) (fun hc => ?_) (fun hc => ?_)
      · replace h := h.1 hc
        exact mV_vret (by decide +kernel) rfl h
      · replace h := h.2 hc
        refine mV_aload_n (k := 0) (by decide +kernel) rfl ?_
        refine mV_dup (by decide +kernel) rfl ?_
        refine mV_gfix (x := mg_i G 91 10) (by decide +kernel) fk_3_73 sh_91 rfl ?_
        refine mV_iconst (n := 1) (v := nI 1) (by decide +kernel) (by decide) ?_
        refine mV_iadd (by decide +kernel) ?_
        refine mV_pfi (by decide +kernel) fk_3_73 sh_91 ?_
        refine mV_aload_n (k := 0) (by decide +kernel) rfl ?_
        refine mV_gfr (r := some 96) (by decide +kernel) fk_3_27 sh_91 (mm_rrs st_91_8) rfl ?_
        refine mV_aload_n (k := 0) (by decide +kernel) rfl ?_
        refine mV_gfix (x := (mg_i G 91 10) + (nI 1)) (by decide +kernel) fk_3_73 sh_91 rfl ?_
        refine mV_aload_n (k := 0) (by decide +kernel) rfl ?_
        refine mV_gfr (r := some 50) (by decide +kernel) fk_3_34 sh_91 (mm_rrs st_91_6) rfl ?_
        refine mV_gfr (r := some 51) (by decide +kernel) fk_3_170 sh_50 (mm_rrs st_50_0) rfl ?_
        refine mV_iload_n (k := 1) (by decide +kernel) rfl ?_
        have hj1 := h.1
        replace h := h.2
        refine mV_aal (t := 5) (r := some (54 + 2 * a1.toNatClampNeg)) (by decide +kernel) sh_51 (by decide) hj1 (mm_rrs (mm_rs50.2.2.2.2.2.2.2.1 _ (mm_ixlt hj1))) rfl ?_
        refine mV_aas (t := 5) (by decide +kernel) sh_96 (by decide) rfl (mm_rs50.2.2.2.2.2.2.2.2 _ (mm_ixlt hj1)).1 rfl h.1 (st96 _ (mm_ixlt h.1)) ?_
        replace h := h.2
        refine mV_aload_n (k := 0) (by decide +kernel) rfl ?_
        refine mV_gfr (r := some 97) (by decide +kernel) fk_3_31 sh_91 (mm_rrs st_91_9) rfl ?_
        refine mV_aload_n (k := 0) (by decide +kernel) rfl ?_
        refine mV_gfix (x := (mg_i G 91 10) + (nI 1)) (by decide +kernel) fk_3_73 sh_91 rfl ?_
        refine mV_iconst (n := 0) (v := nI 0) (by decide +kernel) (by decide) ?_
        refine mV_ias (by decide +kernel) sh_97 h.1 ?_
        replace h := h.2
        exact mV_vret (by decide +kernel) rfl h
set_option maxRecDepth 100000 in
set_option maxHeartbeats 4000000 in
theorem e_X3_putsOut {l : Launch} {κ : mm_K} {d : Nat} {G : mm_G} {K : Int32 → mm_G → Prop} (a1 : Int32) (h : (((mg_i G 92 1) < (nI 8) → ((mg_r G 91 14 = none → vp_in (mg_i G 92 1) 8 ∧ K (nI 1) (ms_i (ms_i G 93 ((mg_i G 92 1).toNatClampNeg) a1) 92 1 ((mg_i G 92 1) + (nI 1)))) ∧ (∀ t1, mg_r G 91 14 = some t1 → DeedAt t1 ∧ (((mg_i G t1 1) ≤ (mg_i G 92 1) → K (nI 0) (ms_i G 92 2 (nI 4))) ∧ (¬ (mg_i G t1 1) ≤ (mg_i G 92 1) → vp_in (mg_i G 92 1) 8 ∧ (((mg_i G (t1 + 1) ((mg_i G 92 1).toNatClampNeg)) = a1 → vp_in (mg_i G 92 1) 8 ∧ K (nI 1) (ms_i (ms_i G 93 ((mg_i G 92 1).toNatClampNeg) a1) 92 1 ((mg_i G 92 1) + (nI 1)))) ∧ (¬ (mg_i G (t1 + 1) ((mg_i G 92 1).toNatClampNeg)) = a1 → K (nI 0) (ms_i G 92 2 (nI 4))))))))) ∧ (¬ (mg_i G 92 1) < (nI 8) → K (nI 0) (ms_i G 92 2 (nI 3))))) : mC l κ true d 0 0 m_X3_putsOut [.ref 91, .int a1] G (rI K) := by
  refine mC.of (by decide) (Nat.le_of_ble_eq_true rfl) [some (.ref 91), some (.int a1)] rfl ?_
  refine mV_aload_n (k := 0) (by decide +kernel) rfl ?_
  refine mV_gfr (r := some 92) (by decide +kernel) fk_3_12 sh_91 (mm_rrs st_91_0) rfl ?_
  refine mV_gfix (x := mg_i G 92 1) (by decide +kernel) fk_3_173 sh_92 rfl ?_
  refine mV_bipush (n := 8) (v := nI 8) (by decide +kernel) (by decide) ?_
  refine mV_icmp_lt (off := 13) (tgt := 22) (by decide +kernel) (by decide) (fun hc => ?_) (fun hc => ?_)
  · replace h := h.1 hc
    refine mV_aload_n (k := 0) (by decide +kernel) rfl ?_
    refine mV_gfr (r := (mg_r G 91 14)) (by decide +kernel) fk_3_85 sh_91 (mm_rrd st91_14) rfl ?_
    refine mV_ifnullv (r := mg_r G 91 14) (off := 49) (tgt := 75) (by decide +kernel) (by decide) (fun hc => ?_) (fun t1 hnt1 => ?_)
    · replace h := h.1 hc
      refine mV_aload_n (k := 0) (by decide +kernel) rfl ?_
      refine mV_gfr (r := some 92) (by decide +kernel) fk_3_12 sh_91 (mm_rrs st_91_0) rfl ?_
      refine mV_gfr (r := some 93) (by decide +kernel) fk_3_174 sh_92 (mm_rrs st_92_0) rfl ?_
      refine mV_aload_n (k := 0) (by decide +kernel) rfl ?_
      refine mV_gfr (r := some 92) (by decide +kernel) fk_3_12 sh_91 (mm_rrs st_91_0) rfl ?_
      refine mV_gfix (x := mg_i G 92 1) (by decide +kernel) fk_3_173 sh_92 rfl ?_
      refine mV_iload_n (k := 1) (by decide +kernel) rfl ?_
      refine mV_ias (by decide +kernel) sh_93 h.1 ?_
      replace h := h.2
      refine mV_aload_n (k := 0) (by decide +kernel) rfl ?_
      refine mV_gfr (r := some 92) (by decide +kernel) fk_3_12 sh_91 (mm_rrs st_91_0) rfl ?_
      refine mV_dup (by decide +kernel) rfl ?_
      refine mV_gfix (x := mg_i G 92 1) (by decide +kernel) fk_3_173 sh_92 rfl ?_
      refine mV_iconst (n := 1) (v := nI 1) (by decide +kernel) (by decide) ?_
      refine mV_iadd (by decide +kernel) ?_
      refine mV_pfi (by decide +kernel) fk_3_173 sh_92 ?_
      refine mV_iconst (n := 1) (v := nI 1) (by decide +kernel) (by decide) ?_
      exact mV_zret (by decide +kernel) rfl (by decide) h
    · replace h := h.2 t1 hnt1
      have hdt1 := h.1
      replace h := h.2
      refine mV_aload_n (k := 0) (by decide +kernel) rfl ?_
      refine mV_gfr (r := some 92) (by decide +kernel) fk_3_12 sh_91 (mm_rrs st_91_0) rfl ?_
      refine mV_gfix (x := mg_i G 92 1) (by decide +kernel) fk_3_173 sh_92 rfl ?_
      refine mV_aload_n (k := 0) (by decide +kernel) rfl ?_
      refine mV_gfr (r := (mg_r G 91 14)) (by decide +kernel) fk_3_85 sh_91 (mm_rrd st91_14) rfl ?_
      rw [hnt1]
      refine mV_gfix (x := mg_i G t1 1) (by decide +kernel) fk_3_173 hdt1.1 rfl ?_
      refine mV_icmp_ge (off := 22) (tgt := 65) (by decide +kernel) (by decide) (fun hc => ?_) (fun hc => ?_)
      · replace h := h.1 hc
        refine mV_aload_n (k := 0) (by decide +kernel) rfl ?_
        refine mV_gfr (r := some 92) (by decide +kernel) fk_3_12 sh_91 (mm_rrs st_91_0) rfl ?_
        refine mV_iconst (n := 4) (v := nI 4) (by decide +kernel) (by decide) ?_
        refine mV_pfi (by decide +kernel) fk_3_50 sh_92 ?_
        refine mV_iconst (n := 0) (v := nI 0) (by decide +kernel) (by decide) ?_
        exact mV_zret (by decide +kernel) rfl (by decide) h
      · replace h := h.2 hc
        refine mV_aload_n (k := 0) (by decide +kernel) rfl ?_
        refine mV_gfr (r := (mg_r G 91 14)) (by decide +kernel) fk_3_85 sh_91 (mm_rrd st91_14) rfl ?_
        rw [hnt1]
        refine mV_gfr (r := some (t1 + 1)) (by decide +kernel) fk_3_174 hdt1.1 (mm_rrs hdt1.2.2) rfl ?_
        refine mV_aload_n (k := 0) (by decide +kernel) rfl ?_
        refine mV_gfr (r := some 92) (by decide +kernel) fk_3_12 sh_91 (mm_rrs st_91_0) rfl ?_
        refine mV_gfix (x := mg_i G 92 1) (by decide +kernel) fk_3_173 sh_92 rfl ?_
        refine mV_ialx (x := mg_i G (t1 + 1) ((mg_i G 92 1).toNatClampNeg)) (by decide +kernel) hdt1.2.1 h.1 rfl ?_
        replace h := h.2
        refine mV_iload_n (k := 1) (by decide +kernel) rfl ?_
        refine mV_icmp_eq (off := 13) (tgt := 75) (by decide +kernel) (by decide) (fun hc => ?_) (fun hc => ?_)
        · replace h := h.1 hc
          refine mV_aload_n (k := 0) (by decide +kernel) rfl ?_
          refine mV_gfr (r := some 92) (by decide +kernel) fk_3_12 sh_91 (mm_rrs st_91_0) rfl ?_
          refine mV_gfr (r := some 93) (by decide +kernel) fk_3_174 sh_92 (mm_rrs st_92_0) rfl ?_
          refine mV_aload_n (k := 0) (by decide +kernel) rfl ?_
          refine mV_gfr (r := some 92) (by decide +kernel) fk_3_12 sh_91 (mm_rrs st_91_0) rfl ?_
          refine mV_gfix (x := mg_i G 92 1) (by decide +kernel) fk_3_173 sh_92 rfl ?_
          refine mV_iload_n (k := 1) (by decide +kernel) rfl ?_
          refine mV_ias (by decide +kernel) sh_93 h.1 ?_
          replace h := h.2
          refine mV_aload_n (k := 0) (by decide +kernel) rfl ?_
          refine mV_gfr (r := some 92) (by decide +kernel) fk_3_12 sh_91 (mm_rrs st_91_0) rfl ?_
          refine mV_dup (by decide +kernel) rfl ?_
          refine mV_gfix (x := mg_i G 92 1) (by decide +kernel) fk_3_173 sh_92 rfl ?_
          refine mV_iconst (n := 1) (v := nI 1) (by decide +kernel) (by decide) ?_
          refine mV_iadd (by decide +kernel) ?_
          refine mV_pfi (by decide +kernel) fk_3_173 sh_92 ?_
          refine mV_iconst (n := 1) (v := nI 1) (by decide +kernel) (by decide) ?_
          exact mV_zret (by decide +kernel) rfl (by decide) h
        · replace h := h.2 hc
          refine mV_aload_n (k := 0) (by decide +kernel) rfl ?_
          refine mV_gfr (r := some 92) (by decide +kernel) fk_3_12 sh_91 (mm_rrs st_91_0) rfl ?_
          refine mV_iconst (n := 4) (v := nI 4) (by decide +kernel) (by decide) ?_
          refine mV_pfi (by decide +kernel) fk_3_50 sh_92 ?_
          refine mV_iconst (n := 0) (v := nI 0) (by decide +kernel) (by decide) ?_
          exact mV_zret (by decide +kernel) rfl (by decide) h
  · replace h := h.2 hc
    refine mV_aload_n (k := 0) (by decide +kernel) rfl ?_
    refine mV_gfr (r := some 92) (by decide +kernel) fk_3_12 sh_91 (mm_rrs st_91_0) rfl ?_
    refine mV_iconst (n := 3) (v := nI 3) (by decide +kernel) (by decide) ?_
    refine mV_pfi (by decide +kernel) fk_3_50 sh_92 ?_
    refine mV_iconst (n := 0) (v := nI 0) (by decide +kernel) (by decide) ?_
    exact mV_zret (by decide +kernel) rfl (by decide) h
set_option maxRecDepth 100000 in
set_option maxHeartbeats 4000000 in
theorem e_X3_reckons {l : Launch} {κ : mm_K} {d : Nat} {G : mm_G} {K : Int32 → mm_G → Prop} (a1 : Nat) (ha1 : LineAt a1) (a2 : Int32) (h : (((mg_i G a1 1) = nI 0 → vp_in (mg_i G a1 3) 4 ∧ K (nI 1) (ms_i G 94 ((mg_i G a1 3).toNatClampNeg) a2)) ∧ ((mg_i G a1 1) = nI 1 → vp_in (mg_i G a1 3) 4 ∧ vp_in (mg_i G a1 3) 4 ∧ K (nI 1) (ms_i G 94 ((mg_i G a1 3).toNatClampNeg) ((mg_i G 94 ((mg_i G a1 3).toNatClampNeg)) + a2))) ∧ ((mg_i G a1 1) = nI 2 → vp_in (mg_i G a1 3) 4 ∧ vp_in (mg_i G a1 3) 4 ∧ K (nI 1) (ms_i G 94 ((mg_i G a1 3).toNatClampNeg) ((mg_i G 94 ((mg_i G a1 3).toNatClampNeg)) - a2))) ∧ ((mg_i G a1 1) = nI 3 → vp_in (mg_i G a1 3) 4 ∧ vp_in (mg_i G a1 3) 4 ∧ K (nI 1) (ms_i G 94 ((mg_i G a1 3).toNatClampNeg) ((mg_i G 94 ((mg_i G a1 3).toNatClampNeg)) * a2))) ∧ (((mg_i G a1 1).toInt < 0 ∨ 3 < (mg_i G a1 1).toInt) → ((¬ a2 = 0 → vp_in (mg_i G a1 3) 4 ∧ (¬ a2 = 0) ∧ vp_in (mg_i G a1 3) 4 ∧ K (nI 1) (ms_i G 94 ((mg_i G a1 3).toNatClampNeg) ((mg_i G 94 ((mg_i G a1 3).toNatClampNeg)) / a2))) ∧ (a2 = 0 → K (nI 0) (ms_i G 92 2 (nI 2))))))) : mC l κ true d 0 0 m_X3_reckons [.ref 91, .ref a1, .int a2] G (rI K) := by
  refine mC.of (by decide) (Nat.le_of_ble_eq_true rfl) [some (.ref 91), some (.ref a1), some (.int a2), none] rfl ?_
  refine mV_aload_n (k := 1) (by decide +kernel) rfl ?_
  refine mV_gfix (x := mg_i G a1 3) (by decide +kernel) fk_3_176 ha1 rfl ?_
  refine mV_istore_n (k := 3) (ls' := [some (.ref 91), some (.ref a1), some (.int a2), some (.int (mg_i G a1 3))]) (by decide +kernel) (Nat.le_of_ble_eq_true rfl) rfl rfl ?_
  refine mV_aload_n (k := 1) (by decide +kernel) rfl ?_
  refine mV_gfix (x := mg_i G a1 1) (by decide +kernel) fk_3_107 ha1 rfl ?_
  have hsw : ((mg_i G a1 1).toInt < 0 ∨ 3 < (mg_i G a1 1).toInt) ∨ (mg_i G a1 1).toInt = 0 ∨ (mg_i G a1 1).toInt = 1 ∨ (mg_i G a1 1).toInt = 2 ∨ (mg_i G a1 1).toInt = 3 := by omega
  rcases hsw with hc | hc | hc | hc | hc
  · replace h := h.2.2.2.2 hc
    refine mV_tabOut (dflt := 76) (lo := 0) (hi := 3) (offs := #[31, 40, 52, 64]) (len := 31) (tgt := 85) (by decide +kernel) hc (by decide) ?_
    refine mV_iload_n (k := 2) (by decide +kernel) rfl ?_
    refine mV_if_ne (off := 13) (tgt := 99) (by decide +kernel) (by decide) (fun hc => ?_) (fun hc => ?_)
    · replace h := h.1 hc
      refine mV_aload_n (k := 0) (by decide +kernel) rfl ?_
      refine mV_gfr (r := some 94) (by decide +kernel) fk_3_18 sh_91 (mm_rrs st_91_1) rfl ?_
      refine mV_iload_n (k := 3) (by decide +kernel) rfl ?_
      refine mV_dup2 (by decide +kernel) rfl rfl ?_
      refine mV_ialx (x := mg_i G 94 ((mg_i G a1 3).toNatClampNeg)) (by decide +kernel) sh_94 h.1 rfl ?_
      replace h := h.2
      refine mV_iload_n (k := 2) (by decide +kernel) rfl ?_
      refine mV_idiv (by decide +kernel) h.1 ?_
      replace h := h.2
      refine mV_ias (by decide +kernel) sh_94 h.1 ?_
      replace h := h.2
      refine mV_iconst (n := 1) (v := nI 1) (by decide +kernel) (by decide) ?_
      exact mV_zret (by decide +kernel) rfl (by decide) h
    · replace h := h.2 hc
      refine mV_aload_n (k := 0) (by decide +kernel) rfl ?_
      refine mV_gfr (r := some 92) (by decide +kernel) fk_3_12 sh_91 (mm_rrs st_91_0) rfl ?_
      refine mV_iconst (n := 2) (v := nI 2) (by decide +kernel) (by decide) ?_
      refine mV_pfi (by decide +kernel) fk_3_50 sh_92 ?_
      refine mV_iconst (n := 0) (v := nI 0) (by decide +kernel) (by decide) ?_
      exact mV_zret (by decide +kernel) rfl (by decide) h
  · replace h := h.1 (mm_eqI hc (by decide))
    refine mV_tabIn (dflt := 76) (lo := 0) (hi := 3) (offs := #[31, 40, 52, 64]) (len := 31) (off := 31) (tgt := 40) (by decide +kernel) (by rw [hc]; decide) (by rw [hc]; decide) (by rw [hc]; rfl) (by decide) ?_
    refine mV_aload_n (k := 0) (by decide +kernel) rfl ?_
    refine mV_gfr (r := some 94) (by decide +kernel) fk_3_18 sh_91 (mm_rrs st_91_1) rfl ?_
    refine mV_iload_n (k := 3) (by decide +kernel) rfl ?_
    refine mV_iload_n (k := 2) (by decide +kernel) rfl ?_
    refine mV_ias (by decide +kernel) sh_94 h.1 ?_
    replace h := h.2
    refine mV_iconst (n := 1) (v := nI 1) (by decide +kernel) (by decide) ?_
    exact mV_zret (by decide +kernel) rfl (by decide) h
  · replace h := h.2.1 (mm_eqI hc (by decide))
    refine mV_tabIn (dflt := 76) (lo := 0) (hi := 3) (offs := #[31, 40, 52, 64]) (len := 31) (off := 40) (tgt := 49) (by decide +kernel) (by rw [hc]; decide) (by rw [hc]; decide) (by rw [hc]; rfl) (by decide) ?_
    refine mV_aload_n (k := 0) (by decide +kernel) rfl ?_
    refine mV_gfr (r := some 94) (by decide +kernel) fk_3_18 sh_91 (mm_rrs st_91_1) rfl ?_
    refine mV_iload_n (k := 3) (by decide +kernel) rfl ?_
    refine mV_dup2 (by decide +kernel) rfl rfl ?_
    refine mV_ialx (x := mg_i G 94 ((mg_i G a1 3).toNatClampNeg)) (by decide +kernel) sh_94 h.1 rfl ?_
    replace h := h.2
    refine mV_iload_n (k := 2) (by decide +kernel) rfl ?_
    refine mV_iadd (by decide +kernel) ?_
    refine mV_ias (by decide +kernel) sh_94 h.1 ?_
    replace h := h.2
    refine mV_iconst (n := 1) (v := nI 1) (by decide +kernel) (by decide) ?_
    exact mV_zret (by decide +kernel) rfl (by decide) h
  · replace h := h.2.2.1 (mm_eqI hc (by decide))
    refine mV_tabIn (dflt := 76) (lo := 0) (hi := 3) (offs := #[31, 40, 52, 64]) (len := 31) (off := 52) (tgt := 61) (by decide +kernel) (by rw [hc]; decide) (by rw [hc]; decide) (by rw [hc]; rfl) (by decide) ?_
    refine mV_aload_n (k := 0) (by decide +kernel) rfl ?_
    refine mV_gfr (r := some 94) (by decide +kernel) fk_3_18 sh_91 (mm_rrs st_91_1) rfl ?_
    refine mV_iload_n (k := 3) (by decide +kernel) rfl ?_
    refine mV_dup2 (by decide +kernel) rfl rfl ?_
    refine mV_ialx (x := mg_i G 94 ((mg_i G a1 3).toNatClampNeg)) (by decide +kernel) sh_94 h.1 rfl ?_
    replace h := h.2
    refine mV_iload_n (k := 2) (by decide +kernel) rfl ?_
    refine mV_isub (by decide +kernel) ?_
    refine mV_ias (by decide +kernel) sh_94 h.1 ?_
    replace h := h.2
    refine mV_iconst (n := 1) (v := nI 1) (by decide +kernel) (by decide) ?_
    exact mV_zret (by decide +kernel) rfl (by decide) h
  · replace h := h.2.2.2.1 (mm_eqI hc (by decide))
    refine mV_tabIn (dflt := 76) (lo := 0) (hi := 3) (offs := #[31, 40, 52, 64]) (len := 31) (off := 64) (tgt := 73) (by decide +kernel) (by rw [hc]; decide) (by rw [hc]; decide) (by rw [hc]; rfl) (by decide) ?_
    refine mV_aload_n (k := 0) (by decide +kernel) rfl ?_
    refine mV_gfr (r := some 94) (by decide +kernel) fk_3_18 sh_91 (mm_rrs st_91_1) rfl ?_
    refine mV_iload_n (k := 3) (by decide +kernel) rfl ?_
    refine mV_dup2 (by decide +kernel) rfl rfl ?_
    refine mV_ialx (x := mg_i G 94 ((mg_i G a1 3).toNatClampNeg)) (by decide +kernel) sh_94 h.1 rfl ?_
    replace h := h.2
    refine mV_iload_n (k := 2) (by decide +kernel) rfl ?_
    refine mV_imul (by decide +kernel) ?_
    refine mV_ias (by decide +kernel) sh_94 h.1 ?_
    replace h := h.2
    refine mV_iconst (n := 1) (v := nI 1) (by decide +kernel) (by decide) ?_
    exact mV_zret (by decide +kernel) rfl (by decide) h
set_option maxRecDepth 100000 in
set_option maxHeartbeats 4000000 in
theorem e_X4_clear {l : Launch} {κ : mm_K} {d : Nat} {G : mm_G} {K : mm_G → Prop}  (h : K (ms_i (ms_i G 168 4 (-1)) 168 5 (-1))) : mC l κ true d 0 0 m_X4_clear [.ref 168] G (rV K) := by
  refine mC.of (by decide) (Nat.le_of_ble_eq_true rfl) [some (.ref 168)] rfl ?_
  refine mV_aload_n (k := 0) (by decide +kernel) rfl ?_
  refine mV_iconst (n := -1) (v := (-1)) (by decide +kernel) (by decide) ?_
  refine mV_pfi (by decide +kernel) fk_4_19 sh_168 ?_
  refine mV_aload_n (k := 0) (by decide +kernel) rfl ?_
  refine mV_iconst (n := -1) (v := (-1)) (by decide +kernel) (by decide) ?_
  refine mV_pfi (by decide +kernel) fk_4_23 sh_168 ?_
  exact mV_vret (by decide +kernel) rfl h
set_option maxRecDepth 100000 in
set_option maxHeartbeats 4000000 in
theorem e_X4_fewestThatBreak {l : Launch} {κ : mm_K} {d : Nat} {G : mm_G} {K : Int32 → mm_G → Prop} (a1 : Int32) (h : mV l κ true (d + 6) 0 0 m_X4_fewestThatBreak 2 [some (.ref 168), some (.int a1), some (.int (nI 1))] [] G (rI K)) : mC l κ true (d + 6) 0 0 m_X4_fewestThatBreak [.ref 168, .int a1] G (rI K) := by
  refine mC.of (by decide) (Nat.le_of_ble_eq_true rfl) [some (.ref 168), some (.int a1), none] rfl ?_
  refine mV_iconst (n := 1) (v := nI 1) (by decide +kernel) (by decide) ?_
  refine mV_istore_n (k := 2) (ls' := [some (.ref 168), some (.int a1), some (.int (nI 1))]) (by decide +kernel) (Nat.le_of_ble_eq_true rfl) rfl rfl ?_
  exact h
set_option maxRecDepth 100000 in
set_option maxHeartbeats 4000000 in
theorem p_X4_fewestThatBreak_2 {l : Launch} {κ : mm_K} {d : Nat} {G : mm_G} {K : Int32 → mm_G → Prop} (v1 : Int32) (v2 : Int32) (h : vp_in v1 4 ∧ (((mg_i G (54 + 2 * v1.toNatClampNeg) 1) < v2 → K (nI 0) G) ∧ (¬ (mg_i G (54 + 2 * v1.toNatClampNeg) 1) < v2 → mC l κ true (d + 5) 0 0 m_X2_firstBroken [.ref 98, .int v1, .int v2] G (rI (fun r2 G3 => ((r2 = (-2) → mV l κ true (d + 6) 0 0 m_X4_fewestThatBreak 2 [some (.ref 168), some (.int v1), some (.int (v2 + (nI 1)))] [] G3 (rI K)) ∧ (¬ r2 = (-2) → K v2 G3))))))) : mV l κ true (d + 6) 0 0 m_X4_fewestThatBreak 2 [some (.ref 168), some (.int v1), some (.int v2)] [] G (rI K) := by
  refine mV_iload_n (k := 2) (by decide +kernel) rfl ?_
  refine mV_aload_n (k := 0) (by decide +kernel) rfl ?_
  refine mV_gfr (r := some 50) (by decide +kernel) fk_4_26 sh_168 (mm_rrs st_168_0) rfl ?_
  refine mV_gfr (r := some 51) (by decide +kernel) fk_4_34 sh_50 (mm_rrs st_50_0) rfl ?_
  refine mV_iload_n (k := 1) (by decide +kernel) rfl ?_
  have hj1 := h.1
  replace h := h.2
  refine mV_aal (t := 5) (r := some (54 + 2 * v1.toNatClampNeg)) (by decide +kernel) sh_51 (by decide) hj1 (mm_rrs (mm_rs50.2.2.2.2.2.2.2.1 _ (mm_ixlt hj1))) rfl ?_
  refine mV_gfix (x := mg_i G (54 + 2 * v1.toNatClampNeg) 1) (by decide +kernel) fk_4_40 (mm_rs50.2.2.2.2.2.2.2.2 _ (mm_ixlt hj1)).1 rfl ?_
  refine mV_icmp_gt (off := 25) (tgt := 40) (by decide +kernel) (by decide) (fun hc => ?_) (fun hc => ?_)
  · replace h := h.1 hc
    refine mV_iconst (n := 0) (v := nI 0) (by decide +kernel) (by decide) ?_
    exact mV_iret (by decide +kernel) rfl h
  · replace h := h.2 hc
    refine mV_aload_n (k := 0) (by decide +kernel) rfl ?_
    refine mV_gfr (r := some 98) (by decide +kernel) fk_4_30 sh_168 (mm_rrs st_168_1) rfl ?_
    refine mV_iload_n (k := 1) (by decide +kernel) rfl ?_
    refine mV_iload_n (k := 2) (by decide +kernel) rfl ?_
    refine mV_cV (as := [.int v1, .int v2]) (rest := []) (mc1 := 0) (ms1 := 0) (mc := 0) (ms := 0) (by decide +kernel) md_X2_firstBroken lk_4_45 sh_98 rfl rfl rfl (Nat.le_of_ble_eq_true rfl) (mC.mono (mm_contI (fun r2 G3 hK => ?_)) h)
    replace h := hK
    refine mV_bipush (n := -2) (v := (-2)) (by decide +kernel) (by decide) ?_
    refine mV_icmp_eq (off := 5) (tgt := 34) (by decide +kernel) (by decide) (fun hc => ?_) (fun hc => ?_)
    · replace h := h.1 hc
      refine mV_iincc (i := 2) (n := 1) (c := nI 1) (ls' := [some (.ref 168), some (.int v1), some (.int (v2 + (nI 1)))]) (by decide +kernel) (by decide) rfl (Nat.le_of_ble_eq_true rfl) rfl rfl ?_
      refine mV_goto (off := -35) (tgt := 2) (by decide +kernel) (by decide) ?_
      exact h
    · replace h := h.2 hc
      refine mV_iload_n (k := 2) (by decide +kernel) rfl ?_
      exact mV_iret (by decide +kernel) rfl h
set_option maxRecDepth 100000 in
set_option maxHeartbeats 4000000 in
theorem e_X4_reckonWays {l : Launch} {κ : mm_K} {d : Nat} {G : mm_G} {K : mm_G → Prop} (a1 : Int32) (h : vp_in a1 4 ∧ (((mg_i G 168 4) = a1 → K G) ∧ (¬ (mg_i G 168 4) = a1 → (((mg_i G (54 + 2 * a1.toNatClampNeg) 1) ≤ (nI 12) → mV l κ true (d + 5) 0 0 m_X4_reckonWays 30 [some (.ref 168), some (.int a1), some (.int (mg_i G (54 + 2 * a1.toNatClampNeg) 1)), some (.int (nI 0)), none, none] [] G (rV K)) ∧ (¬ (mg_i G (54 + 2 * a1.toNatClampNeg) 1) ≤ (nI 12) → K G))))) : mC l κ true (d + 5) 0 0 m_X4_reckonWays [.ref 168, .int a1] G (rV K) := by
  refine mC.of (by decide) (Nat.le_of_ble_eq_true rfl) [some (.ref 168), some (.int a1), none, none, none, none] rfl ?_
  refine mV_aload_n (k := 0) (by decide +kernel) rfl ?_
  refine mV_gfr (r := some 50) (by decide +kernel) fk_4_26 sh_168 (mm_rrs st_168_0) rfl ?_
  refine mV_gfr (r := some 51) (by decide +kernel) fk_4_34 sh_50 (mm_rrs st_50_0) rfl ?_
  refine mV_iload_n (k := 1) (by decide +kernel) rfl ?_
  have hj1 := h.1
  replace h := h.2
  refine mV_aal (t := 5) (r := some (54 + 2 * a1.toNatClampNeg)) (by decide +kernel) sh_51 (by decide) hj1 (mm_rrs (mm_rs50.2.2.2.2.2.2.2.1 _ (mm_ixlt hj1))) rfl ?_
  refine mV_gfix (x := mg_i G (54 + 2 * a1.toNatClampNeg) 1) (by decide +kernel) fk_4_40 (mm_rs50.2.2.2.2.2.2.2.2 _ (mm_ixlt hj1)).1 rfl ?_
  refine mV_istore_n (k := 2) (ls' := [some (.ref 168), some (.int a1), some (.int (mg_i G (54 + 2 * a1.toNatClampNeg) 1)), none, none, none]) (by decide +kernel) (Nat.le_of_ble_eq_true rfl) rfl rfl ?_
  refine mV_aload_n (k := 0) (by decide +kernel) rfl ?_
  refine mV_gfix (x := mg_i G 168 4) (by decide +kernel) fk_4_19 sh_168 rfl ?_
  refine mV_iload_n (k := 1) (by decide +kernel) rfl ?_
  refine mV_icmp_eq (off := 9) (tgt := 27) (by decide +kernel) (by decide) (fun hc => ?_) (fun hc => ?_)
  · replace h := h.1 hc
    exact mV_vret (by decide +kernel) rfl h
  · replace h := h.2 hc
    refine mV_iload_n (k := 2) (by decide +kernel) rfl ?_
    refine mV_bipush (n := 12) (v := nI 12) (by decide +kernel) (by decide) ?_
    refine mV_icmp_le (off := 4) (tgt := 28) (by decide +kernel) (by decide) (fun hc => ?_) (fun hc => ?_)
    · replace h := h.1 hc
      refine mV_iconst (n := 0) (v := nI 0) (by decide +kernel) (by decide) ?_
      refine mV_istore_n (k := 3) (ls' := [some (.ref 168), some (.int a1), some (.int (mg_i G (54 + 2 * a1.toNatClampNeg) 1)), some (.int (nI 0)), none, none]) (by decide +kernel) (Nat.le_of_ble_eq_true rfl) rfl rfl ?_
      exact h
    · replace h := h.2 hc
      exact mV_vret (by decide +kernel) rfl h
set_option maxRecDepth 100000 in
set_option maxHeartbeats 4000000 in
theorem p_X4_reckonWays_30 {l : Launch} {κ : mm_K} {d : Nat} {G : mm_G} {K : mm_G → Prop} (v1 : Int32) (v2 : Int32) (v3 : Int32) (h : (((nI 12) < v3 → vp_in (nI 0) 4096 ∧ vp_in (nI 0) 13 ∧ mV l κ true (d + 5) 0 0 m_X4_reckonWays 65 [some (.ref 168), some (.int v1), some (.int v2), some (.int (nI 1)), none, none] [] (ms_l (ms_i G 169 ((nI 0).toNatClampNeg) (nI 1)) 170 ((nI 0).toNatClampNeg) (lN 1)) (rV K)) ∧ (¬ (nI 12) < v3 → vp_in v3 13 ∧ mV l κ true (d + 5) 0 0 m_X4_reckonWays 30 [some (.ref 168), some (.int v1), some (.int v2), some (.int (v3 + (nI 1))), none, none] [] (ms_l G 170 v3.toNatClampNeg (lN 0)) (rV K)))) : mV l κ true (d + 5) 0 0 m_X4_reckonWays 30 [some (.ref 168), some (.int v1), some (.int v2), some (.int v3), none, none] [] G (rV K) := by
  refine mV_iload_n (k := 3) (by decide +kernel) rfl ?_
  refine mV_bipush (n := 12) (v := nI 12) (by decide +kernel) (by decide) ?_
  refine mV_icmp_gt (off := 16) (tgt := 49) (by decide +kernel) (by decide) (fun hc => ?_) (fun hc => ?_)
  · replace h := h.1 hc
    refine mV_aload_n (k := 0) (by decide +kernel) rfl ?_
    refine mV_gfr (r := some 169) (by decide +kernel) fk_4_9 sh_168 (mm_rrs st_168_2) rfl ?_
    refine mV_iconst (n := 0) (v := nI 0) (by decide +kernel) (by decide) ?_
    refine mV_iconst (n := 1) (v := nI 1) (by decide +kernel) (by decide) ?_
    refine mV_ias (by decide +kernel) sh_169 h.1 ?_
    replace h := h.2
    refine mV_aload_n (k := 0) (by decide +kernel) rfl ?_
    refine mV_gfr (r := some 170) (by decide +kernel) fk_4_15 sh_168 (mm_rrs st_168_3) rfl ?_
    refine mV_iconst (n := 0) (v := nI 0) (by decide +kernel) (by decide) ?_
    refine mV_lconst (n := 1) (v := lN 1) (by decide +kernel) (by decide) ?_
    refine mV_las (by decide +kernel) sh_170 h.1 ?_
    replace h := h.2
    refine mV_iconst (n := 1) (v := nI 1) (by decide +kernel) (by decide) ?_
    refine mV_istore_n (k := 3) (ls' := [some (.ref 168), some (.int v1), some (.int v2), some (.int (nI 1)), none, none]) (by decide +kernel) (Nat.le_of_ble_eq_true rfl) rfl rfl ?_
    exact h
  · replace h := h.2 hc
    refine mV_aload_n (k := 0) (by decide +kernel) rfl ?_
    refine mV_gfr (r := some 170) (by decide +kernel) fk_4_15 sh_168 (mm_rrs st_168_3) rfl ?_
    refine mV_iload_n (k := 3) (by decide +kernel) rfl ?_
    refine mV_lconst (n := 0) (v := lN 0) (by decide +kernel) (by decide) ?_
    refine mV_las (by decide +kernel) sh_170 h.1 ?_
    replace h := h.2
    refine mV_iincc (i := 3) (n := 1) (c := nI 1) (ls' := [some (.ref 168), some (.int v1), some (.int v2), some (.int (v3 + (nI 1))), none, none]) (by decide +kernel) (by decide) rfl (Nat.le_of_ble_eq_true rfl) rfl rfl ?_
    refine mV_goto (off := -16) (tgt := 30) (by decide +kernel) (by decide) ?_
    exact h
set_option maxRecDepth 100000 in
set_option maxHeartbeats 4000000 in
theorem p_X4_reckonWays_65 {l : Launch} {κ : mm_K} {d : Nat} {G : mm_G} {K : mm_G → Prop} (v1 : Int32) (v2 : Int32) (v3 : Int32) (h : ((((nI 1) <<< (v2 &&& 31)) ≤ v3 → K (ms_i G 168 4 v1)) ∧ (¬ ((nI 1) <<< (v2 &&& 31)) ≤ v3 → mV l κ true (d + 5) 0 0 m_X4_reckonWays 78 [some (.ref 168), some (.int v1), some (.int v2), some (.int v3), some (.int (nI 0)), some (.int (nI 0))] [] G (rV K)))) : mV l κ true (d + 5) 0 0 m_X4_reckonWays 65 [some (.ref 168), some (.int v1), some (.int v2), some (.int v3), none, none] [] G (rV K) := by
  refine mV_iload_n (k := 3) (by decide +kernel) rfl ?_
  refine mV_iconst (n := 1) (v := nI 1) (by decide +kernel) (by decide) ?_
  refine mV_iload_n (k := 2) (by decide +kernel) rfl ?_
  refine mV_ishl (by decide +kernel) ?_
  refine mV_icmp_ge (off := 102) (tgt := 171) (by decide +kernel) (by decide) (fun hc => ?_) (fun hc => ?_)
  · replace h := h.1 hc
    refine mV_aload_n (k := 0) (by decide +kernel) rfl ?_
    refine mV_iload_n (k := 1) (by decide +kernel) rfl ?_
    refine mV_pfi (by decide +kernel) fk_4_19 sh_168 ?_
    exact mV_vret (by decide +kernel) rfl h
  · replace h := h.2 hc
    refine mV_iconst (n := 0) (v := nI 0) (by decide +kernel) (by decide) ?_
    refine mV_istore (i := 4) (ls' := [some (.ref 168), some (.int v1), some (.int v2), some (.int v3), some (.int (nI 0)), none]) (by decide +kernel) (Nat.le_of_ble_eq_true rfl) rfl rfl ?_
    refine mV_iconst (n := 0) (v := nI 0) (by decide +kernel) (by decide) ?_
    refine mV_istore (i := 5) (ls' := [some (.ref 168), some (.int v1), some (.int v2), some (.int v3), some (.int (nI 0)), some (.int (nI 0))]) (by decide +kernel) (Nat.le_of_ble_eq_true rfl) rfl rfl ?_
    exact h
set_option maxRecDepth 100000 in
set_option maxHeartbeats 4000000 in
theorem p_X4_reckonWays_78 {l : Launch} {κ : mm_K} {d : Nat} {G : mm_G} {K : mm_G → Prop} (v1 : Int32) (v2 : Int32) (v3 : Int32) (v4 : Int32) (v5 : Int32) (h : ((v2 ≤ v5 → ((v4 ≤ 0 → vp_in v3 4096 ∧ mC l κ true (d + 4) 0 0 m_J6_bitCount_0f7a4 [.int v3] (ms_i G 169 v3.toNatClampNeg (nI 0)) (rI (fun r1 G2 => vp_in r1 13 ∧ vp_in v3 4096 ∧ vp_in r1 13 ∧ mV l κ true (d + 5) 0 0 m_X4_reckonWays 65 [some (.ref 168), some (.int v1), some (.int v2), some (.int (v3 + (nI 1))), none, none] [] (ms_l G2 170 r1.toNatClampNeg ((mg_l G2 170 r1.toNatClampNeg) + ((mg_i G2 169 v3.toNatClampNeg).toInt64))) (rV K)))) ∧ (¬ v4 ≤ 0 → mC l κ true (d + 4) 0 0 m_X2_firstOther [.ref 98, .int v1, .int v3] G (rI (fun r3 G4 => ((¬ r3 = (-2) → vp_in v3 4096 ∧ mC l κ true (d + 4) 0 0 m_J6_bitCount_0f7a4 [.int v3] (ms_i G4 169 v3.toNatClampNeg (nI 0)) (rI (fun r5 G6 => vp_in r5 13 ∧ vp_in v3 4096 ∧ vp_in r5 13 ∧ mV l κ true (d + 5) 0 0 m_X4_reckonWays 65 [some (.ref 168), some (.int v1), some (.int v2), some (.int (v3 + (nI 1))), none, none] [] (ms_l G6 170 r5.toNatClampNeg ((mg_l G6 170 r5.toNatClampNeg) + ((mg_i G6 169 v3.toNatClampNeg).toInt64))) (rV K)))) ∧ (r3 = (-2) → vp_in v3 4096 ∧ mC l κ true (d + 4) 0 0 m_J6_bitCount_0f7a4 [.int v3] (ms_i G4 169 v3.toNatClampNeg v4) (rI (fun r7 G8 => vp_in r7 13 ∧ vp_in v3 4096 ∧ vp_in r7 13 ∧ mV l κ true (d + 5) 0 0 m_X4_reckonWays 65 [some (.ref 168), some (.int v1), some (.int v2), some (.int (v3 + (nI 1))), none, none] [] (ms_l G8 170 r7.toNatClampNeg ((mg_l G8 170 r7.toNatClampNeg) + ((mg_i G8 169 v3.toNatClampNeg).toInt64))) (rV K)))))))))) ∧ (¬ v2 ≤ v5 → (((((v3.toUInt32 >>> (v5.toUInt32 &&& Int32.toUInt32 31)).toInt32) &&& (nI 1)) = 0 → mV l κ true (d + 5) 0 0 m_X4_reckonWays 78 [some (.ref 168), some (.int v1), some (.int v2), some (.int v3), some (.int v4), some (.int (v5 + (nI 1)))] [] G (rV K)) ∧ (¬ (((v3.toUInt32 >>> (v5.toUInt32 &&& Int32.toUInt32 31)).toInt32) &&& (nI 1)) = 0 → vp_in (v3 ^^^ ((nI 1) <<< (v5 &&& 31))) 4096 ∧ mV l κ true (d + 5) 0 0 m_X4_reckonWays 78 [some (.ref 168), some (.int v1), some (.int v2), some (.int v3), some (.int (v4 + (mg_i G 169 ((v3 ^^^ ((nI 1) <<< (v5 &&& 31))).toNatClampNeg)))), some (.int (v5 + (nI 1)))] [] G (rV K)))))) : mV l κ true (d + 5) 0 0 m_X4_reckonWays 78 [some (.ref 168), some (.int v1), some (.int v2), some (.int v3), some (.int v4), some (.int v5)] [] G (rV K) := by
  refine mV_iload (i := 5) (by decide +kernel) rfl ?_
  refine mV_iload_n (k := 2) (by decide +kernel) rfl ?_
  refine mV_icmp_ge (off := 34) (tgt := 115) (by decide +kernel) (by decide) (fun hc => ?_) (fun hc => ?_)
  · replace h := h.1 hc
    refine mV_aload_n (k := 0) (by decide +kernel) rfl ?_
    refine mV_gfr (r := some 169) (by decide +kernel) fk_4_9 sh_168 (mm_rrs st_168_2) rfl ?_
    refine mV_iload_n (k := 3) (by decide +kernel) rfl ?_
    refine mV_iload (i := 4) (by decide +kernel) rfl ?_
    refine mV_if_le (off := 22) (tgt := 144) (by decide +kernel) (by decide) (fun hc => ?_) (fun hc => ?_)
    · replace h := h.1 hc
      refine mV_iconst (n := 0) (v := nI 0) (by decide +kernel) (by decide) ?_
      refine mV_ias (by decide +kernel) sh_169 h.1 ?_
      replace h := h.2
      refine mV_aload_n (k := 0) (by decide +kernel) rfl ?_
      refine mV_gfr (r := some 170) (by decide +kernel) fk_4_15 sh_168 (mm_rrs st_168_3) rfl ?_
      refine mV_iload_n (k := 3) (by decide +kernel) rfl ?_
      refine mV_cS (as := [.int v3]) (rest := [.ref 170]) (mc1 := 0) (ms1 := 0) (mc := 0) (ms := 0) (by decide +kernel) md_J6_bitCount_0f7a4 lk_4_54 rfl rfl (Nat.le_of_ble_eq_true rfl) (mC.mono (mm_contI (fun r1 G2 hK => ?_)) h)
      replace h := hK
      refine mV_dup2 (by decide +kernel) rfl rfl ?_
      refine mV_lalx (x := mg_l G2 170 r1.toNatClampNeg) (by decide +kernel) sh_170 h.1 rfl ?_
      replace h := h.2
      refine mV_aload_n (k := 0) (by decide +kernel) rfl ?_
      refine mV_gfr (r := some 169) (by decide +kernel) fk_4_9 sh_168 (mm_rrs st_168_2) rfl ?_
      refine mV_iload_n (k := 3) (by decide +kernel) rfl ?_
      refine mV_ialx (x := mg_i G2 169 v3.toNatClampNeg) (by decide +kernel) sh_169 h.1 rfl ?_
      replace h := h.2
      refine mV_i2l (by decide +kernel) ?_
      refine mV_ladd (by decide +kernel) ?_
      refine mV_las (by decide +kernel) sh_170 h.1 ?_
      replace h := h.2
      refine mV_iincc (i := 3) (n := 1) (c := nI 1) (ls' := [some (.ref 168), some (.int v1), some (.int v2), some (.int (v3 + (nI 1))), some (.int v4), some (.int v5)]) (by decide +kernel) (by decide) rfl (Nat.le_of_ble_eq_true rfl) rfl rfl ?_
      refine mV_goto (off := -103) (tgt := 65) (by decide +kernel) (by decide) ?_
      refine mV_fg [4, 5] (ls' := [some (.ref 168), some (.int v1), some (.int v2), some (.int (v3 + (nI 1))), none, none]) rfl ?_
      exact h
    · replace h := h.2 hc
      refine mV_aload_n (k := 0) (by decide +kernel) rfl ?_
      refine mV_gfr (r := some 98) (by decide +kernel) fk_4_30 sh_168 (mm_rrs st_168_1) rfl ?_
      refine mV_iload_n (k := 1) (by decide +kernel) rfl ?_
      refine mV_iload_n (k := 3) (by decide +kernel) rfl ?_
      refine mV_cV (as := [.int v1, .int v3]) (rest := [.int v3, .ref 169]) (mc1 := 0) (ms1 := 0) (mc := 0) (ms := 0) (by decide +kernel) md_X2_firstOther lk_4_51 sh_98 rfl rfl rfl (Nat.le_of_ble_eq_true rfl) (mC.mono (mm_contI (fun r3 G4 hK => ?_)) h)
      replace h := hK
      refine mV_bipush (n := -2) (v := (-2)) (by decide +kernel) (by decide) ?_
      refine mV_icmp_ne (off := 8) (tgt := 144) (by decide +kernel) (by decide) (fun hc => ?_) (fun hc => ?_)
      · replace h := h.1 hc
        refine mV_iconst (n := 0) (v := nI 0) (by decide +kernel) (by decide) ?_
        refine mV_ias (by decide +kernel) sh_169 h.1 ?_
        replace h := h.2
        refine mV_aload_n (k := 0) (by decide +kernel) rfl ?_
        refine mV_gfr (r := some 170) (by decide +kernel) fk_4_15 sh_168 (mm_rrs st_168_3) rfl ?_
        refine mV_iload_n (k := 3) (by decide +kernel) rfl ?_
        refine mV_cS (as := [.int v3]) (rest := [.ref 170]) (mc1 := 0) (ms1 := 0) (mc := 0) (ms := 0) (by decide +kernel) md_J6_bitCount_0f7a4 lk_4_54 rfl rfl (Nat.le_of_ble_eq_true rfl) (mC.mono (mm_contI (fun r5 G6 hK => ?_)) h)
        replace h := hK
        refine mV_dup2 (by decide +kernel) rfl rfl ?_
        refine mV_lalx (x := mg_l G6 170 r5.toNatClampNeg) (by decide +kernel) sh_170 h.1 rfl ?_
        replace h := h.2
        refine mV_aload_n (k := 0) (by decide +kernel) rfl ?_
        refine mV_gfr (r := some 169) (by decide +kernel) fk_4_9 sh_168 (mm_rrs st_168_2) rfl ?_
        refine mV_iload_n (k := 3) (by decide +kernel) rfl ?_
        refine mV_ialx (x := mg_i G6 169 v3.toNatClampNeg) (by decide +kernel) sh_169 h.1 rfl ?_
        replace h := h.2
        refine mV_i2l (by decide +kernel) ?_
        refine mV_ladd (by decide +kernel) ?_
        refine mV_las (by decide +kernel) sh_170 h.1 ?_
        replace h := h.2
        refine mV_iincc (i := 3) (n := 1) (c := nI 1) (ls' := [some (.ref 168), some (.int v1), some (.int v2), some (.int (v3 + (nI 1))), some (.int v4), some (.int v5)]) (by decide +kernel) (by decide) rfl (Nat.le_of_ble_eq_true rfl) rfl rfl ?_
        refine mV_goto (off := -103) (tgt := 65) (by decide +kernel) (by decide) ?_
        refine mV_fg [4, 5] (ls' := [some (.ref 168), some (.int v1), some (.int v2), some (.int (v3 + (nI 1))), none, none]) rfl ?_
        exact h
      · replace h := h.2 hc
        refine mV_iload (i := 4) (by decide +kernel) rfl ?_
        refine mV_goto (off := 4) (tgt := 145) (by decide +kernel) (by decide) ?_
        refine mV_ias (by decide +kernel) sh_169 h.1 ?_
        replace h := h.2
        refine mV_aload_n (k := 0) (by decide +kernel) rfl ?_
        refine mV_gfr (r := some 170) (by decide +kernel) fk_4_15 sh_168 (mm_rrs st_168_3) rfl ?_
        refine mV_iload_n (k := 3) (by decide +kernel) rfl ?_
        refine mV_cS (as := [.int v3]) (rest := [.ref 170]) (mc1 := 0) (ms1 := 0) (mc := 0) (ms := 0) (by decide +kernel) md_J6_bitCount_0f7a4 lk_4_54 rfl rfl (Nat.le_of_ble_eq_true rfl) (mC.mono (mm_contI (fun r7 G8 hK => ?_)) h)
        replace h := hK
        refine mV_dup2 (by decide +kernel) rfl rfl ?_
        refine mV_lalx (x := mg_l G8 170 r7.toNatClampNeg) (by decide +kernel) sh_170 h.1 rfl ?_
        replace h := h.2
        refine mV_aload_n (k := 0) (by decide +kernel) rfl ?_
        refine mV_gfr (r := some 169) (by decide +kernel) fk_4_9 sh_168 (mm_rrs st_168_2) rfl ?_
        refine mV_iload_n (k := 3) (by decide +kernel) rfl ?_
        refine mV_ialx (x := mg_i G8 169 v3.toNatClampNeg) (by decide +kernel) sh_169 h.1 rfl ?_
        replace h := h.2
        refine mV_i2l (by decide +kernel) ?_
        refine mV_ladd (by decide +kernel) ?_
        refine mV_las (by decide +kernel) sh_170 h.1 ?_
        replace h := h.2
        refine mV_iincc (i := 3) (n := 1) (c := nI 1) (ls' := [some (.ref 168), some (.int v1), some (.int v2), some (.int (v3 + (nI 1))), some (.int v4), some (.int v5)]) (by decide +kernel) (by decide) rfl (Nat.le_of_ble_eq_true rfl) rfl rfl ?_
        refine mV_goto (off := -103) (tgt := 65) (by decide +kernel) (by decide) ?_
        refine mV_fg [4, 5] (ls' := [some (.ref 168), some (.int v1), some (.int v2), some (.int (v3 + (nI 1))), none, none]) rfl ?_
        exact h
  · replace h := h.2 hc
    refine mV_iload_n (k := 3) (by decide +kernel) rfl ?_
    refine mV_iload (i := 5) (by decide +kernel) rfl ?_
    refine mV_iushr (by decide +kernel) ?_
    refine mV_iconst (n := 1) (v := nI 1) (by decide +kernel) (by decide) ?_
    refine mV_iand (by decide +kernel) ?_
    refine mV_if_eq (off := 19) (tgt := 109) (by decide +kernel) (by decide) (fun hc => ?_) (fun hc => ?_)
    · replace h := h.1 hc
      refine mV_iincc (i := 5) (n := 1) (c := nI 1) (ls' := [some (.ref 168), some (.int v1), some (.int v2), some (.int v3), some (.int v4), some (.int (v5 + (nI 1)))]) (by decide +kernel) (by decide) rfl (Nat.le_of_ble_eq_true rfl) rfl rfl ?_
      refine mV_goto (off := -34) (tgt := 78) (by decide +kernel) (by decide) ?_
      exact h
    · replace h := h.2 hc
      refine mV_iload (i := 4) (by decide +kernel) rfl ?_
      refine mV_aload_n (k := 0) (by decide +kernel) rfl ?_
      refine mV_gfr (r := some 169) (by decide +kernel) fk_4_9 sh_168 (mm_rrs st_168_2) rfl ?_
      refine mV_iload_n (k := 3) (by decide +kernel) rfl ?_
      refine mV_iconst (n := 1) (v := nI 1) (by decide +kernel) (by decide) ?_
      refine mV_iload (i := 5) (by decide +kernel) rfl ?_
      refine mV_ishl (by decide +kernel) ?_
      refine mV_ixor (by decide +kernel) ?_
      refine mV_ialx (x := mg_i G 169 ((v3 ^^^ ((nI 1) <<< (v5 &&& 31))).toNatClampNeg)) (by decide +kernel) sh_169 h.1 rfl ?_
      replace h := h.2
      refine mV_iadd (by decide +kernel) ?_
      refine mV_istore (i := 4) (ls' := [some (.ref 168), some (.int v1), some (.int v2), some (.int v3), some (.int (v4 + (mg_i G 169 ((v3 ^^^ ((nI 1) <<< (v5 &&& 31))).toNatClampNeg)))), some (.int v5)]) (by decide +kernel) (Nat.le_of_ble_eq_true rfl) rfl rfl ?_
      refine mV_iincc (i := 5) (n := 1) (c := nI 1) (ls' := [some (.ref 168), some (.int v1), some (.int v2), some (.int v3), some (.int (v4 + (mg_i G 169 ((v3 ^^^ ((nI 1) <<< (v5 &&& 31))).toNatClampNeg)))), some (.int (v5 + (nI 1)))]) (by decide +kernel) (by decide) rfl (Nat.le_of_ble_eq_true rfl) rfl rfl ?_
      refine mV_goto (off := -34) (tgt := 78) (by decide +kernel) (by decide) ?_
      exact h
set_option maxRecDepth 100000 in
set_option maxHeartbeats 4000000 in
theorem e_X4_waysOf {l : Launch} {κ : mm_K} {d : Nat} {G : mm_G} {K : Int64 → mm_G → Prop} (a1 : Int32) (a2 : Int32) (h : mC l κ true (d + 5) 0 0 m_X4_reckonWays [.ref 168, .int a1] G (rV (fun G2 => ((a2 < 0 → K (lN 0) G2) ∧ (¬ a2 < 0 → (((nI 12) < a2 → K (lN 0) G2) ∧ (¬ (nI 12) < a2 → vp_in a2 13 ∧ K (mg_l G2 170 a2.toNatClampNeg) G2))))))) : mC l κ true (d + 6) 0 0 m_X4_waysOf [.ref 168, .int a1, .int a2] G (rL K) := by
  refine mC.of (by decide) (Nat.le_of_ble_eq_true rfl) [some (.ref 168), some (.int a1), some (.int a2)] rfl ?_
  refine mV_aload_n (k := 0) (by decide +kernel) rfl ?_
  refine mV_iload_n (k := 1) (by decide +kernel) rfl ?_
  refine mV_cV (as := [.int a1]) (rest := []) (mc1 := 0) (ms1 := 0) (mc := 0) (ms := 0) (by decide +kernel) md_X4_reckonWays lk_4_60 sh_168 rfl rfl rfl (Nat.le_of_ble_eq_true rfl) (mC.mono (mm_contV (fun G2 hK => ?_)) h)
  replace h := hK
  refine mV_iload_n (k := 2) (by decide +kernel) rfl ?_
  refine mV_if_lt (off := 18) (tgt := 24) (by decide +kernel) (by decide) (fun hc => ?_) (fun hc => ?_)
  · replace h := h.1 hc
    refine mV_lconst (n := 0) (v := lN 0) (by decide +kernel) (by decide) ?_
    exact mV_lret (by decide +kernel) rfl h
  · replace h := h.2 hc
    refine mV_iload_n (k := 2) (by decide +kernel) rfl ?_
    refine mV_bipush (n := 12) (v := nI 12) (by decide +kernel) (by decide) ?_
    refine mV_icmp_gt (off := 12) (tgt := 24) (by decide +kernel) (by decide) (fun hc => ?_) (fun hc => ?_)
    · replace h := h.1 hc
      refine mV_lconst (n := 0) (v := lN 0) (by decide +kernel) (by decide) ?_
      exact mV_lret (by decide +kernel) rfl h
    · replace h := h.2 hc
      refine mV_aload_n (k := 0) (by decide +kernel) rfl ?_
      refine mV_gfr (r := some 170) (by decide +kernel) fk_4_15 sh_168 (mm_rrs st_168_3) rfl ?_
      refine mV_iload_n (k := 2) (by decide +kernel) rfl ?_
      refine mV_lalx (x := mg_l G2 170 a2.toNatClampNeg) (by decide +kernel) sh_170 h.1 rfl ?_
      replace h := h.2
      refine mV_goto (off := 4) (tgt := 25) (by decide +kernel) (by decide) ?_
      exact mV_lret (by decide +kernel) rfl h
set_option maxRecDepth 100000 in
set_option maxHeartbeats 4000000 in
theorem e_X4_meanOf {l : Launch} {κ : mm_K} {d : Nat} {G : mm_G} {K : Int64 → mm_G → Prop} (a1 : Int32) (a2 : Int32) (h : mC l κ true (d + 5) 0 0 m_X4_reckonWays [.ref 168, .int a1] G (rV (fun G2 => vp_in a1 4 ∧ mV l κ true (d + 6) 0 0 m_X4_meanOf 32 [some (.ref 168), some (.int a1), some (.int a2), some (.int (if (nI 12) < (mg_i G2 (54 + 2 * a1.toNatClampNeg) 1) then (nI 12) else (mg_i G2 (54 + 2 * a1.toNatClampNeg) 1))), some (.long (lN 0)), none, some (.long (lN 1)), none, some (.int (if (nI 12) < (mg_i G2 (54 + 2 * a1.toNatClampNeg) 1) then (nI 12) else (mg_i G2 (54 + 2 * a1.toNatClampNeg) 1))), none] [] G2 (rL K)))) : mC l κ true (d + 6) 0 0 m_X4_meanOf [.ref 168, .int a1, .int a2] G (rL K) := by
  refine mC.of (by decide) (Nat.le_of_ble_eq_true rfl) [some (.ref 168), some (.int a1), some (.int a2), none, none, none, none, none, none, none] rfl ?_
  refine mV_aload_n (k := 0) (by decide +kernel) rfl ?_
  refine mV_iload_n (k := 1) (by decide +kernel) rfl ?_
  refine mV_cV (as := [.int a1]) (rest := []) (mc1 := 0) (ms1 := 0) (mc := 0) (ms := 0) (by decide +kernel) md_X4_reckonWays lk_4_60 sh_168 rfl rfl rfl (Nat.le_of_ble_eq_true rfl) (mC.mono (mm_contV (fun G2 hK => ?_)) h)
  replace h := hK
  refine mV_aload_n (k := 0) (by decide +kernel) rfl ?_
  refine mV_gfr (r := some 50) (by decide +kernel) fk_4_26 sh_168 (mm_rrs st_168_0) rfl ?_
  refine mV_gfr (r := some 51) (by decide +kernel) fk_4_34 sh_50 (mm_rrs st_50_0) rfl ?_
  refine mV_iload_n (k := 1) (by decide +kernel) rfl ?_
  have hj3 := h.1
  replace h := h.2
  refine mV_aal (t := 5) (r := some (54 + 2 * a1.toNatClampNeg)) (by decide +kernel) sh_51 (by decide) hj3 (mm_rrs (mm_rs50.2.2.2.2.2.2.2.1 _ (mm_ixlt hj3))) rfl ?_
  refine mV_gfix (x := mg_i G2 (54 + 2 * a1.toNatClampNeg) 1) (by decide +kernel) fk_4_40 (mm_rs50.2.2.2.2.2.2.2.2 _ (mm_ixlt hj3)).1 rfl ?_
  refine mV_bipush (n := 12) (v := nI 12) (by decide +kernel) (by decide) ?_
  refine mV_min (by decide +kernel) lk_4_64 (Nat.le_of_ble_eq_true rfl) ?_
  refine mV_istore_n (k := 3) (ls' := [some (.ref 168), some (.int a1), some (.int a2), some (.int (if (nI 12) < (mg_i G2 (54 + 2 * a1.toNatClampNeg) 1) then (nI 12) else (mg_i G2 (54 + 2 * a1.toNatClampNeg) 1))), none, none, none, none, none, none]) (by decide +kernel) (Nat.le_of_ble_eq_true rfl) rfl rfl ?_
  refine mV_lconst (n := 0) (v := lN 0) (by decide +kernel) (by decide) ?_
  refine mV_lstore (i := 4) (ls' := [some (.ref 168), some (.int a1), some (.int a2), some (.int (if (nI 12) < (mg_i G2 (54 + 2 * a1.toNatClampNeg) 1) then (nI 12) else (mg_i G2 (54 + 2 * a1.toNatClampNeg) 1))), some (.long (lN 0)), none, none, none, none, none]) (by decide +kernel) (Nat.le_of_ble_eq_true rfl) rfl rfl ?_
  refine mV_lconst (n := 1) (v := lN 1) (by decide +kernel) (by decide) ?_
  refine mV_lstore (i := 6) (ls' := [some (.ref 168), some (.int a1), some (.int a2), some (.int (if (nI 12) < (mg_i G2 (54 + 2 * a1.toNatClampNeg) 1) then (nI 12) else (mg_i G2 (54 + 2 * a1.toNatClampNeg) 1))), some (.long (lN 0)), none, some (.long (lN 1)), none, none, none]) (by decide +kernel) (Nat.le_of_ble_eq_true rfl) rfl rfl ?_
  refine mV_iload_n (k := 3) (by decide +kernel) rfl ?_
  refine mV_istore (i := 8) (ls' := [some (.ref 168), some (.int a1), some (.int a2), some (.int (if (nI 12) < (mg_i G2 (54 + 2 * a1.toNatClampNeg) 1) then (nI 12) else (mg_i G2 (54 + 2 * a1.toNatClampNeg) 1))), some (.long (lN 0)), none, some (.long (lN 1)), none, some (.int (if (nI 12) < (mg_i G2 (54 + 2 * a1.toNatClampNeg) 1) then (nI 12) else (mg_i G2 (54 + 2 * a1.toNatClampNeg) 1))), none]) (by decide +kernel) (Nat.le_of_ble_eq_true rfl) rfl rfl ?_
  exact h
set_option maxRecDepth 100000 in
set_option maxHeartbeats 4000000 in
theorem p_X4_meanOf_32 {l : Launch} {κ : mm_K} {d : Nat} {G : mm_G} {K : Int64 → mm_G → Prop} (v1 : Int32) (v2 : Int32) (v3 : Int32) (v4 : Int64) (v6 : Int64) (v8 : Int32) (h : ((v8 < 0 → mC l κ true (d + 5) 0 0 m_X4_commonDivisor [.long v4, .long v6] G (rL (fun r1 G2 => ((v2 = 0 → (¬ (if (lN 1) < r1 then r1 else (lN 1)) = 0) ∧ K (v4 / (if (lN 1) < r1 then r1 else (lN 1))) G2) ∧ (¬ v2 = 0 → (¬ (if (lN 1) < r1 then r1 else (lN 1)) = 0) ∧ K (v6 / (if (lN 1) < r1 then r1 else (lN 1))) G2))))) ∧ (¬ v8 < 0 → vp_in v8 13 ∧ ((v8 ≤ 0 → mV l κ true (d + 6) 0 0 m_X4_meanOf 32 [some (.ref 168), some (.int v1), some (.int v2), some (.int v3), some (.long (v4 + ((mg_l G 170 v8.toNatClampNeg) * v6))), none, some (.long v6), none, some (.int (v8 + (-1))), none] [] G (rL K)) ∧ (¬ v8 ≤ 0 → mV l κ true (d + 6) 0 0 m_X4_meanOf 32 [some (.ref 168), some (.int v1), some (.int v2), some (.int v3), some (.long (v4 + ((mg_l G 170 v8.toNatClampNeg) * v6))), none, some (.long (v6 * (((v3 - v8) + (nI 1)).toInt64))), none, some (.int (v8 + (-1))), none] [] G (rL K)))))) : mV l κ true (d + 6) 0 0 m_X4_meanOf 32 [some (.ref 168), some (.int v1), some (.int v2), some (.int v3), some (.long v4), none, some (.long v6), none, some (.int v8), none] [] G (rL K) := by
  refine mV_iload (i := 8) (by decide +kernel) rfl ?_
  refine mV_if_lt (off := 41) (tgt := 75) (by decide +kernel) (by decide) (fun hc => ?_) (fun hc => ?_)
  · replace h := h.1 hc
    refine mV_lload (i := 4) (by decide +kernel) rfl ?_
    refine mV_lload (i := 6) (by decide +kernel) rfl ?_
    refine mV_cS (as := [.long v4, .long v6]) (rest := []) (mc1 := 0) (ms1 := 0) (mc := 0) (ms := 0) (by decide +kernel) md_X4_commonDivisor lk_4_69 rfl rfl (Nat.le_of_ble_eq_true rfl) (mC.mono (mm_contL (fun r1 G2 hK => ?_)) h)
    replace h := hK
    refine mV_lstore (i := 8) (ls' := [some (.ref 168), some (.int v1), some (.int v2), some (.int v3), some (.long v4), none, some (.long v6), none, some (.long r1), none]) (by decide +kernel) (Nat.le_of_ble_eq_true rfl) rfl rfl ?_
    refine mV_iload_n (k := 2) (by decide +kernel) rfl ?_
    refine mV_if_eq (off := 8) (tgt := 93) (by decide +kernel) (by decide) (fun hc => ?_) (fun hc => ?_)
    · replace h := h.1 hc
      refine mV_lload (i := 4) (by decide +kernel) rfl ?_
      refine mV_lload (i := 8) (by decide +kernel) rfl ?_
      refine mV_lconst (n := 1) (v := lN 1) (by decide +kernel) (by decide) ?_
      refine mV_maxl (by decide +kernel) lk_4_73 (Nat.le_of_ble_eq_true rfl) ?_
      refine mV_ldiv (by decide +kernel) h.1 ?_
      replace h := h.2
      exact mV_lret (by decide +kernel) rfl h
    · replace h := h.2 hc
      refine mV_lload (i := 6) (by decide +kernel) rfl ?_
      refine mV_goto (off := 5) (tgt := 95) (by decide +kernel) (by decide) ?_
      refine mV_lload (i := 8) (by decide +kernel) rfl ?_
      refine mV_lconst (n := 1) (v := lN 1) (by decide +kernel) (by decide) ?_
      refine mV_maxl (by decide +kernel) lk_4_73 (Nat.le_of_ble_eq_true rfl) ?_
      refine mV_ldiv (by decide +kernel) h.1 ?_
      replace h := h.2
      exact mV_lret (by decide +kernel) rfl h
  · replace h := h.2 hc
    refine mV_lload (i := 4) (by decide +kernel) rfl ?_
    refine mV_aload_n (k := 0) (by decide +kernel) rfl ?_
    refine mV_gfr (r := some 170) (by decide +kernel) fk_4_15 sh_168 (mm_rrs st_168_3) rfl ?_
    refine mV_iload (i := 8) (by decide +kernel) rfl ?_
    refine mV_lalx (x := mg_l G 170 v8.toNatClampNeg) (by decide +kernel) sh_170 h.1 rfl ?_
    replace h := h.2
    refine mV_lload (i := 6) (by decide +kernel) rfl ?_
    refine mV_lmul (by decide +kernel) ?_
    refine mV_ladd (by decide +kernel) ?_
    refine mV_lstore (i := 4) (ls' := [some (.ref 168), some (.int v1), some (.int v2), some (.int v3), some (.long (v4 + ((mg_l G 170 v8.toNatClampNeg) * v6))), none, some (.long v6), none, some (.int v8), none]) (by decide +kernel) (Nat.le_of_ble_eq_true rfl) rfl rfl ?_
    refine mV_iload (i := 8) (by decide +kernel) rfl ?_
    refine mV_if_le (off := 15) (tgt := 69) (by decide +kernel) (by decide) (fun hc => ?_) (fun hc => ?_)
    · replace h := h.1 hc
      refine mV_iincc (i := 8) (n := -1) (c := (-1)) (ls' := [some (.ref 168), some (.int v1), some (.int v2), some (.int v3), some (.long (v4 + ((mg_l G 170 v8.toNatClampNeg) * v6))), none, some (.long v6), none, some (.int (v8 + (-1))), none]) (by decide +kernel) (by decide) rfl (Nat.le_of_ble_eq_true rfl) rfl rfl ?_
      refine mV_goto (off := -40) (tgt := 32) (by decide +kernel) (by decide) ?_
      exact h
    · replace h := h.2 hc
      refine mV_lload (i := 6) (by decide +kernel) rfl ?_
      refine mV_iload_n (k := 3) (by decide +kernel) rfl ?_
      refine mV_iload (i := 8) (by decide +kernel) rfl ?_
      refine mV_isub (by decide +kernel) ?_
      refine mV_iconst (n := 1) (v := nI 1) (by decide +kernel) (by decide) ?_
      refine mV_iadd (by decide +kernel) ?_
      refine mV_i2l (by decide +kernel) ?_
      refine mV_lmul (by decide +kernel) ?_
      refine mV_lstore (i := 6) (ls' := [some (.ref 168), some (.int v1), some (.int v2), some (.int v3), some (.long (v4 + ((mg_l G 170 v8.toNatClampNeg) * v6))), none, some (.long (v6 * (((v3 - v8) + (nI 1)).toInt64))), none, some (.int v8), none]) (by decide +kernel) (Nat.le_of_ble_eq_true rfl) rfl rfl ?_
      refine mV_iincc (i := 8) (n := -1) (c := (-1)) (ls' := [some (.ref 168), some (.int v1), some (.int v2), some (.int v3), some (.long (v4 + ((mg_l G 170 v8.toNatClampNeg) * v6))), none, some (.long (v6 * (((v3 - v8) + (nI 1)).toInt64))), none, some (.int (v8 + (-1))), none]) (by decide +kernel) (by decide) rfl (Nat.le_of_ble_eq_true rfl) rfl rfl ?_
      refine mV_goto (off := -40) (tgt := 32) (by decide +kernel) (by decide) ?_
      exact h
set_option maxRecDepth 100000 in
set_option maxHeartbeats 4000000 in
theorem e_X4_commonDivisor {l : Launch} {κ : mm_K} {d : Nat} {G : mm_G} {K : Int64 → mm_G → Prop} (a1 : Int64) (a2 : Int64) (h : mV l κ true d 0 0 m_X4_commonDivisor 9 [some (.long a1), none, some (.long a2), none, some (.long a1), none, some (.long a2), none, some (.int (nI 0)), none, none] [] G (rL K)) : mC l κ true d 0 0 m_X4_commonDivisor [.long a1, .long a2] G (rL K) := by
  refine mC.of (by decide) (Nat.le_of_ble_eq_true rfl) [some (.long a1), none, some (.long a2), none, none, none, none, none, none, none, none] rfl ?_
  refine mV_lload_n (k := 0) (by decide +kernel) rfl ?_
  refine mV_lstore (i := 4) (ls' := [some (.long a1), none, some (.long a2), none, some (.long a1), none, none, none, none, none, none]) (by decide +kernel) (Nat.le_of_ble_eq_true rfl) rfl rfl ?_
  refine mV_lload_n (k := 2) (by decide +kernel) rfl ?_
  refine mV_lstore (i := 6) (ls' := [some (.long a1), none, some (.long a2), none, some (.long a1), none, some (.long a2), none, none, none, none]) (by decide +kernel) (Nat.le_of_ble_eq_true rfl) rfl rfl ?_
  refine mV_iconst (n := 0) (v := nI 0) (by decide +kernel) (by decide) ?_
  refine mV_istore (i := 8) (ls' := [some (.long a1), none, some (.long a2), none, some (.long a1), none, some (.long a2), none, some (.int (nI 0)), none, none]) (by decide +kernel) (Nat.le_of_ble_eq_true rfl) rfl rfl ?_
  exact h
set_option maxRecDepth 100000 in
set_option maxHeartbeats 4000000 in
theorem p_X4_commonDivisor_9 {l : Launch} {κ : mm_K} {d : Nat} {G : mm_G} {K : Int64 → mm_G → Prop} (v0 : Int64) (v2 : Int64) (v4 : Int64) (v6 : Int64) (v8 : Int32) (h : (((nI 200) ≤ v8 → K v4 G) ∧ (¬ (nI 200) ≤ v8 → (((lg_cmp v6 (lN 0)) = 0 → K v4 G) ∧ (¬ (lg_cmp v6 (lN 0)) = 0 → (¬ v6 = 0) ∧ mV l κ true d 0 0 m_X4_commonDivisor 9 [some (.long v0), none, some (.long v2), none, some (.long v6), none, some (.long (v4 - v4 / v6 * v6)), none, some (.int (v8 + (nI 1))), none, none] [] G (rL K)))))) : mV l κ true d 0 0 m_X4_commonDivisor 9 [some (.long v0), none, some (.long v2), none, some (.long v4), none, some (.long v6), none, some (.int v8), none, none] [] G (rL K) := by
  refine mV_iload (i := 8) (by decide +kernel) rfl ?_
  refine mV_sipush (n := 200) (v := nI 200) (by decide +kernel) (by decide) ?_
  refine mV_icmp_ge (off := 31) (tgt := 45) (by decide +kernel) (by decide) (fun hc => ?_) (fun hc => ?_)
  · replace h := h.1 hc
    refine mV_lload (i := 4) (by decide +kernel) rfl ?_
    exact mV_lret (by decide +kernel) rfl h
  · replace h := h.2 hc
    refine mV_lload (i := 6) (by decide +kernel) rfl ?_
    refine mV_lconst (n := 0) (v := lN 0) (by decide +kernel) (by decide) ?_
    refine mV_lcmp (by decide +kernel) ?_
    refine mV_if_eq (off := 24) (tgt := 45) (by decide +kernel) (by decide) (fun hc => ?_) (fun hc => ?_)
    · replace h := h.1 hc
      refine mV_lload (i := 4) (by decide +kernel) rfl ?_
      exact mV_lret (by decide +kernel) rfl h
    · replace h := h.2 hc
      refine mV_lload (i := 4) (by decide +kernel) rfl ?_
      refine mV_lload (i := 6) (by decide +kernel) rfl ?_
      refine mV_lrem (by decide +kernel) h.1 ?_
      replace h := h.2
      refine mV_lstore (i := 9) (ls' := [some (.long v0), none, some (.long v2), none, some (.long v4), none, some (.long v6), none, some (.int v8), some (.long (v4 - v4 / v6 * v6)), none]) (by decide +kernel) (Nat.le_of_ble_eq_true rfl) rfl rfl ?_
      refine mV_lload (i := 6) (by decide +kernel) rfl ?_
      refine mV_lstore (i := 4) (ls' := [some (.long v0), none, some (.long v2), none, some (.long v6), none, some (.long v6), none, some (.int v8), some (.long (v4 - v4 / v6 * v6)), none]) (by decide +kernel) (Nat.le_of_ble_eq_true rfl) rfl rfl ?_
      refine mV_lload (i := 9) (by decide +kernel) rfl ?_
      refine mV_lstore (i := 6) (ls' := [some (.long v0), none, some (.long v2), none, some (.long v6), none, some (.long (v4 - v4 / v6 * v6)), none, some (.int v8), some (.long (v4 - v4 / v6 * v6)), none]) (by decide +kernel) (Nat.le_of_ble_eq_true rfl) rfl rfl ?_
      refine mV_iincc (i := 8) (n := 1) (c := nI 1) (ls' := [some (.long v0), none, some (.long v2), none, some (.long v6), none, some (.long (v4 - v4 / v6 * v6)), none, some (.int (v8 + (nI 1))), some (.long (v4 - v4 / v6 * v6)), none]) (by decide +kernel) (by decide) rfl (Nat.le_of_ble_eq_true rfl) rfl rfl ?_
      refine mV_goto (off := -33) (tgt := 9) (by decide +kernel) (by decide) ?_
      refine mV_fg [9] (ls' := [some (.long v0), none, some (.long v2), none, some (.long v6), none, some (.long (v4 - v4 / v6 * v6)), none, some (.int (v8 + (nI 1))), none, none]) rfl ?_
      exact h
set_option maxRecDepth 100000 in
set_option maxHeartbeats 4000000 in
theorem e_X4_coreOf {l : Launch} {κ : mm_K} {d : Nat} {G : mm_G} {K : Int32 → mm_G → Prop} (a1 : Int32) (h : (((mg_i G 168 5) = a1 → K (mg_i G 168 6) G) ∧ (¬ (mg_i G 168 5) = a1 → mC l κ true (d + 5) 0 0 m_X4_fewestThatDo [.ref 168, .int a1] G (rI (fun r1 G2 => K r1 (ms_i (ms_i G2 168 6 r1) 168 5 a1)))))) : mC l κ true (d + 6) 0 0 m_X4_coreOf [.ref 168, .int a1] G (rI K) := by
  refine mC.of (by decide) (Nat.le_of_ble_eq_true rfl) [some (.ref 168), some (.int a1)] rfl ?_
  refine mV_aload_n (k := 0) (by decide +kernel) rfl ?_
  refine mV_gfix (x := mg_i G 168 5) (by decide +kernel) fk_4_23 sh_168 rfl ?_
  refine mV_iload_n (k := 1) (by decide +kernel) rfl ?_
  refine mV_icmp_eq (off := 17) (tgt := 22) (by decide +kernel) (by decide) (fun hc => ?_) (fun hc => ?_)
  · replace h := h.1 hc
    refine mV_aload_n (k := 0) (by decide +kernel) rfl ?_
    refine mV_gfix (x := mg_i G 168 6) (by decide +kernel) fk_4_79 sh_168 rfl ?_
    exact mV_iret (by decide +kernel) rfl h
  · replace h := h.2 hc
    refine mV_aload_n (k := 0) (by decide +kernel) rfl ?_
    refine mV_aload_n (k := 0) (by decide +kernel) rfl ?_
    refine mV_iload_n (k := 1) (by decide +kernel) rfl ?_
    refine mV_cV (as := [.int a1]) (rest := [.ref 168]) (mc1 := 0) (ms1 := 0) (mc := 0) (ms := 0) (by decide +kernel) md_X4_fewestThatDo lk_4_76 sh_168 rfl rfl rfl (Nat.le_of_ble_eq_true rfl) (mC.mono (mm_contI (fun r1 G2 hK => ?_)) h)
    replace h := hK
    refine mV_pfi (by decide +kernel) fk_4_79 sh_168 ?_
    refine mV_aload_n (k := 0) (by decide +kernel) rfl ?_
    refine mV_iload_n (k := 1) (by decide +kernel) rfl ?_
    refine mV_pfi (by decide +kernel) fk_4_23 sh_168 ?_
    refine mV_aload_n (k := 0) (by decide +kernel) rfl ?_
    refine mV_gfix (x := r1) (by decide +kernel) fk_4_79 sh_168 rfl ?_
    exact mV_iret (by decide +kernel) rfl h
set_option maxRecDepth 100000 in
set_option maxHeartbeats 4000000 in
theorem e_X4_fewestThatDo {l : Launch} {κ : mm_K} {d : Nat} {G : mm_G} {K : Int32 → mm_G → Prop} (a1 : Int32) (h : vp_in a1 4 ∧ mV l κ true (d + 5) 0 0 m_X4_fewestThatDo 19 [some (.ref 168), some (.int a1), some (.int (((nI 1) <<< ((mg_i G (54 + 2 * a1.toNatClampNeg) 1) &&& 31)) - (nI 1))), some (.int (nI 0)), none, none] [] G (rI K)) : mC l κ true (d + 5) 0 0 m_X4_fewestThatDo [.ref 168, .int a1] G (rI K) := by
  refine mC.of (by decide) (Nat.le_of_ble_eq_true rfl) [some (.ref 168), some (.int a1), none, none, none, none] rfl ?_
  refine mV_iconst (n := 1) (v := nI 1) (by decide +kernel) (by decide) ?_
  refine mV_aload_n (k := 0) (by decide +kernel) rfl ?_
  refine mV_gfr (r := some 50) (by decide +kernel) fk_4_26 sh_168 (mm_rrs st_168_0) rfl ?_
  refine mV_gfr (r := some 51) (by decide +kernel) fk_4_34 sh_50 (mm_rrs st_50_0) rfl ?_
  refine mV_iload_n (k := 1) (by decide +kernel) rfl ?_
  have hj1 := h.1
  replace h := h.2
  refine mV_aal (t := 5) (r := some (54 + 2 * a1.toNatClampNeg)) (by decide +kernel) sh_51 (by decide) hj1 (mm_rrs (mm_rs50.2.2.2.2.2.2.2.1 _ (mm_ixlt hj1))) rfl ?_
  refine mV_gfix (x := mg_i G (54 + 2 * a1.toNatClampNeg) 1) (by decide +kernel) fk_4_40 (mm_rs50.2.2.2.2.2.2.2.2 _ (mm_ixlt hj1)).1 rfl ?_
  refine mV_ishl (by decide +kernel) ?_
  refine mV_iconst (n := 1) (v := nI 1) (by decide +kernel) (by decide) ?_
  refine mV_isub (by decide +kernel) ?_
  refine mV_istore_n (k := 2) (ls' := [some (.ref 168), some (.int a1), some (.int (((nI 1) <<< ((mg_i G (54 + 2 * a1.toNatClampNeg) 1) &&& 31)) - (nI 1))), none, none, none]) (by decide +kernel) (Nat.le_of_ble_eq_true rfl) rfl rfl ?_
  refine mV_iconst (n := 0) (v := nI 0) (by decide +kernel) (by decide) ?_
  refine mV_istore_n (k := 3) (ls' := [some (.ref 168), some (.int a1), some (.int (((nI 1) <<< ((mg_i G (54 + 2 * a1.toNatClampNeg) 1) &&& 31)) - (nI 1))), some (.int (nI 0)), none, none]) (by decide +kernel) (Nat.le_of_ble_eq_true rfl) rfl rfl ?_
  exact h
set_option maxRecDepth 100000 in
set_option maxHeartbeats 4000000 in
theorem p_X4_fewestThatDo_19 {l : Launch} {κ : mm_K} {d : Nat} {G : mm_G} {K : Int32 → mm_G → Prop} (v1 : Int32) (v2 : Int32) (v3 : Int32) (h : vp_in v1 4 ∧ (((mg_i G (54 + 2 * v1.toNatClampNeg) 1) ≤ v3 → K v2 G) ∧ (¬ (mg_i G (54 + 2 * v1.toNatClampNeg) 1) ≤ v3 → mV l κ true (d + 5) 0 0 m_X4_fewestThatDo 45 [some (.ref 168), some (.int v1), some (.int v2), some (.int v3), some (.int (((nI 1) <<< (v3 &&& 31)) - (nI 1))), some (.int (nI 0))] [] G (rI K)))) : mV l κ true (d + 5) 0 0 m_X4_fewestThatDo 19 [some (.ref 168), some (.int v1), some (.int v2), some (.int v3), none, none] [] G (rI K) := by
  refine mV_iload_n (k := 3) (by decide +kernel) rfl ?_
  refine mV_aload_n (k := 0) (by decide +kernel) rfl ?_
  refine mV_gfr (r := some 50) (by decide +kernel) fk_4_26 sh_168 (mm_rrs st_168_0) rfl ?_
  refine mV_gfr (r := some 51) (by decide +kernel) fk_4_34 sh_50 (mm_rrs st_50_0) rfl ?_
  refine mV_iload_n (k := 1) (by decide +kernel) rfl ?_
  have hj1 := h.1
  replace h := h.2
  refine mV_aal (t := 5) (r := some (54 + 2 * v1.toNatClampNeg)) (by decide +kernel) sh_51 (by decide) hj1 (mm_rrs (mm_rs50.2.2.2.2.2.2.2.1 _ (mm_ixlt hj1))) rfl ?_
  refine mV_gfix (x := mg_i G (54 + 2 * v1.toNatClampNeg) 1) (by decide +kernel) fk_4_40 (mm_rs50.2.2.2.2.2.2.2.2 _ (mm_ixlt hj1)).1 rfl ?_
  refine mV_icmp_ge (off := 64) (tgt := 96) (by decide +kernel) (by decide) (fun hc => ?_) (fun hc => ?_)
  · replace h := h.1 hc
    refine mV_iload_n (k := 2) (by decide +kernel) rfl ?_
    exact mV_iret (by decide +kernel) rfl h
  · replace h := h.2 hc
    refine mV_iconst (n := 1) (v := nI 1) (by decide +kernel) (by decide) ?_
    refine mV_iload_n (k := 3) (by decide +kernel) rfl ?_
    refine mV_ishl (by decide +kernel) ?_
    refine mV_iconst (n := 1) (v := nI 1) (by decide +kernel) (by decide) ?_
    refine mV_isub (by decide +kernel) ?_
    refine mV_istore (i := 4) (ls' := [some (.ref 168), some (.int v1), some (.int v2), some (.int v3), some (.int (((nI 1) <<< (v3 &&& 31)) - (nI 1))), none]) (by decide +kernel) (Nat.le_of_ble_eq_true rfl) rfl rfl ?_
    refine mV_iconst (n := 0) (v := nI 0) (by decide +kernel) (by decide) ?_
    refine mV_istore (i := 5) (ls' := [some (.ref 168), some (.int v1), some (.int v2), some (.int v3), some (.int (((nI 1) <<< (v3 &&& 31)) - (nI 1))), some (.int (nI 0))]) (by decide +kernel) (Nat.le_of_ble_eq_true rfl) rfl rfl ?_
    exact h
set_option maxRecDepth 100000 in
set_option maxHeartbeats 4000000 in
theorem p_X4_fewestThatDo_45 {l : Launch} {κ : mm_K} {d : Nat} {G : mm_G} {K : Int32 → mm_G → Prop} (v1 : Int32) (v2 : Int32) (v3 : Int32) (v4 : Int32) (v5 : Int32) (h : ((v2 < v5 → mV l κ true (d + 5) 0 0 m_X4_fewestThatDo 19 [some (.ref 168), some (.int v1), some (.int v2), some (.int (v3 + (nI 1))), none, none] [] G (rI K)) ∧ (¬ v2 < v5 → ((v2 < v4 → mV l κ true (d + 5) 0 0 m_X4_fewestThatDo 19 [some (.ref 168), some (.int v1), some (.int v2), some (.int (v3 + (nI 1))), none, none] [] G (rI K)) ∧ (¬ v2 < v4 → mC l κ true (d + 4) 0 0 m_X2_firstOther [.ref 98, .int v1, .int (v2 ^^^ v4)] G (rI (fun r1 G2 => ((¬ r1 = (-2) → mC l κ true (d + 4) 0 0 m_X12_setBehind [.int v4] G2 (rI (fun r3 G4 => mV l κ true (d + 5) 0 0 m_X4_fewestThatDo 45 [some (.ref 168), some (.int v1), some (.int v2), some (.int v3), some (.int r3), some (.int (v5 + (nI 1)))] [] G4 (rI K)))) ∧ (r1 = (-2) → K v4 G2))))))))) : mV l κ true (d + 5) 0 0 m_X4_fewestThatDo 45 [some (.ref 168), some (.int v1), some (.int v2), some (.int v3), some (.int v4), some (.int v5)] [] G (rI K) := by
  refine mV_iload (i := 5) (by decide +kernel) rfl ?_
  refine mV_iload_n (k := 2) (by decide +kernel) rfl ?_
  refine mV_icmp_gt (off := 42) (tgt := 90) (by decide +kernel) (by decide) (fun hc => ?_) (fun hc => ?_)
  · replace h := h.1 hc
    refine mV_iincc (i := 3) (n := 1) (c := nI 1) (ls' := [some (.ref 168), some (.int v1), some (.int v2), some (.int (v3 + (nI 1))), some (.int v4), some (.int v5)]) (by decide +kernel) (by decide) rfl (Nat.le_of_ble_eq_true rfl) rfl rfl ?_
    refine mV_goto (off := -74) (tgt := 19) (by decide +kernel) (by decide) ?_
    refine mV_fg [4, 5] (ls' := [some (.ref 168), some (.int v1), some (.int v2), some (.int (v3 + (nI 1))), none, none]) rfl ?_
    exact h
  · replace h := h.2 hc
    refine mV_iload (i := 4) (by decide +kernel) rfl ?_
    refine mV_iload_n (k := 2) (by decide +kernel) rfl ?_
    refine mV_icmp_gt (off := 36) (tgt := 90) (by decide +kernel) (by decide) (fun hc => ?_) (fun hc => ?_)
    · replace h := h.1 hc
      refine mV_iincc (i := 3) (n := 1) (c := nI 1) (ls' := [some (.ref 168), some (.int v1), some (.int v2), some (.int (v3 + (nI 1))), some (.int v4), some (.int v5)]) (by decide +kernel) (by decide) rfl (Nat.le_of_ble_eq_true rfl) rfl rfl ?_
      refine mV_goto (off := -74) (tgt := 19) (by decide +kernel) (by decide) ?_
      refine mV_fg [4, 5] (ls' := [some (.ref 168), some (.int v1), some (.int v2), some (.int (v3 + (nI 1))), none, none]) rfl ?_
      exact h
    · replace h := h.2 hc
      refine mV_aload_n (k := 0) (by decide +kernel) rfl ?_
      refine mV_gfr (r := some 98) (by decide +kernel) fk_4_30 sh_168 (mm_rrs st_168_1) rfl ?_
      refine mV_iload_n (k := 1) (by decide +kernel) rfl ?_
      refine mV_iload_n (k := 2) (by decide +kernel) rfl ?_
      refine mV_iload (i := 4) (by decide +kernel) rfl ?_
      refine mV_ixor (by decide +kernel) ?_
      refine mV_cV (as := [.int v1, .int (v2 ^^^ v4)]) (rest := []) (mc1 := 0) (ms1 := 0) (mc := 0) (ms := 0) (by decide +kernel) md_X2_firstOther lk_4_51 sh_98 rfl rfl rfl (Nat.le_of_ble_eq_true rfl) (mC.mono (mm_contI (fun r1 G2 hK => ?_)) h)
      replace h := hK
      refine mV_bipush (n := -2) (v := (-2)) (by decide +kernel) (by decide) ?_
      refine mV_icmp_ne (off := 6) (tgt := 77) (by decide +kernel) (by decide) (fun hc => ?_) (fun hc => ?_)
      · replace h := h.1 hc
        refine mV_iload (i := 4) (by decide +kernel) rfl ?_
        refine mV_cSN (as := [.int v4]) (rest := []) (mc1 := 0) (ms1 := 0) (mc := 0) (ms := 0) (by decide +kernel) md_X12_setBehind lk_4_82 rfl rfl (Nat.le_of_ble_eq_true rfl) (mC.mono (mm_contI (fun r3 G4 hK => ?_)) h)
        replace h := hK
        refine mV_istore (i := 4) (ls' := [some (.ref 168), some (.int v1), some (.int v2), some (.int v3), some (.int r3), some (.int v5)]) (by decide +kernel) (Nat.le_of_ble_eq_true rfl) rfl rfl ?_
        refine mV_iincc (i := 5) (n := 1) (c := nI 1) (ls' := [some (.ref 168), some (.int v1), some (.int v2), some (.int v3), some (.int r3), some (.int (v5 + (nI 1)))]) (by decide +kernel) (by decide) rfl (Nat.le_of_ble_eq_true rfl) rfl rfl ?_
        refine mV_goto (off := -42) (tgt := 45) (by decide +kernel) (by decide) ?_
        exact h
      · replace h := h.2 hc
        refine mV_iload (i := 4) (by decide +kernel) rfl ?_
        exact mV_iret (by decide +kernel) rfl h
set_option maxRecDepth 100000 in
set_option maxHeartbeats 4000000 in
theorem e_X5_readTape {l : Launch} {κ : mm_K} {d : Nat} {G : mm_G} {K : mm_G → Prop}  (h : mC l κ true (d + 5) 0 0 m_X10_scan [.ref 1] G (rV (fun G2 => mC l κ true (d + 5) 0 0 m_X7_clear [.ref 8] G2 (rV (fun G4 => mC l κ true (d + 5) 0 0 m_X11_clear [.ref 20] G4 (rV (fun G6 => mV l κ true (d + 6) 64 704 m_X5_readTape 38 [some (.ref 7), some (.int (nI 0))] [] (ms_i (ms_i (ms_i G6 7 2 (nI 0)) 7 8 (nI 0)) 7 6 (nI 0)) (rV K)))))))) : mC l κ true (d + 6) 64 704 m_X5_readTape [.ref 7] G (rV K) := by
  refine mC.of (by decide) (Nat.le_of_ble_eq_true rfl) [some (.ref 7), none] rfl ?_
  refine mV_aload_n (k := 0) (by decide +kernel) rfl ?_
  refine mV_gfr (r := some 1) (by decide +kernel) fk_5_29 sh_7 (mm_rrs st_7_4) rfl ?_
  refine mV_cV (as := []) (rest := []) (mc1 := 0) (ms1 := 0) (mc := 64) (ms := 704) (by decide +kernel) md_X10_scan lk_5_33 sh_1 rfl rfl rfl (Nat.le_of_ble_eq_true rfl) (mC.mono (mm_contV (fun G2 hK => ?_)) h)
  replace h := hK
  refine mV_aload_n (k := 0) (by decide +kernel) rfl ?_
  refine mV_gfr (r := some 8) (by decide +kernel) fk_5_12 sh_7 (mm_rrs st_7_0) rfl ?_
  refine mV_cV (as := []) (rest := []) (mc1 := 0) (ms1 := 0) (mc := 64) (ms := 704) (by decide +kernel) md_X7_clear lk_5_38 sh_8 rfl rfl rfl (Nat.le_of_ble_eq_true rfl) (mC.mono (mm_contV (fun G4 hK => ?_)) h)
  replace h := hK
  refine mV_aload_n (k := 0) (by decide +kernel) rfl ?_
  refine mV_gfr (r := some 20) (by decide +kernel) fk_5_21 sh_7 (mm_rrs st_7_1) rfl ?_
  refine mV_cV (as := []) (rest := []) (mc1 := 0) (ms1 := 0) (mc := 64) (ms := 704) (by decide +kernel) md_X11_clear lk_5_41 sh_20 rfl rfl rfl (Nat.le_of_ble_eq_true rfl) (mC.mono (mm_contV (fun G6 hK => ?_)) h)
  replace h := hK
  refine mV_aload_n (k := 0) (by decide +kernel) rfl ?_
  refine mV_iconst (n := 0) (v := nI 0) (by decide +kernel) (by decide) ?_
  refine mV_pfi (by decide +kernel) fk_5_42 sh_7 ?_
  refine mV_aload_n (k := 0) (by decide +kernel) rfl ?_
  refine mV_iconst (n := 0) (v := nI 0) (by decide +kernel) (by decide) ?_
  refine mV_pfi (by decide +kernel) fk_5_46 sh_7 ?_
  refine mV_aload_n (k := 0) (by decide +kernel) rfl ?_
  refine mV_iconst (n := 0) (v := nI 0) (by decide +kernel) (by decide) ?_
  refine mV_pfi (by decide +kernel) fk_5_49 sh_7 ?_
  refine mV_iconst (n := 0) (v := nI 0) (by decide +kernel) (by decide) ?_
  refine mV_istore_n (k := 1) (ls' := [some (.ref 7), some (.int (nI 0))]) (by decide +kernel) (Nat.le_of_ble_eq_true rfl) rfl rfl ?_
  exact h
set_option maxRecDepth 100000 in
set_option maxHeartbeats 4000000 in
theorem p_X5_readTape_38 {l : Launch} {κ : mm_K} {d mc ms : Nat} {G : mm_G} {K : mm_G → Prop} (v1 : Int32) (h : (((nI 400) < v1 → vp_in (mg_i G 7 6) 401 ∧ ((¬ (mg_i G 7 2) = 0 → K (ms_i G 7 3 (mg_i G 4 ((mg_i G 7 6).toNatClampNeg)))) ∧ ((mg_i G 7 2) = 0 → K (ms_i (ms_i (ms_i G 7 3 (mg_i G 4 ((mg_i G 7 6).toNatClampNeg))) 7 2 (mg_i G 7 8)) 7 3 (mg_i G 7 9))))) ∧ (¬ (nI 400) < v1 → ((¬ (mg_i G 7 2) = 0 → vp_in (mg_i G 7 6) 401 ∧ ((¬ (mg_i G 7 2) = 0 → K (ms_i G 7 3 (mg_i G 4 ((mg_i G 7 6).toNatClampNeg)))) ∧ ((mg_i G 7 2) = 0 → K (ms_i (ms_i (ms_i G 7 3 (mg_i G 4 ((mg_i G 7 6).toNatClampNeg))) 7 2 (mg_i G 7 8)) 7 3 (mg_i G 7 9))))) ∧ ((mg_i G 7 2) = 0 → vp_in (mg_i G 7 6) 401 ∧ (((mg_i G 3 ((mg_i G 7 6).toNatClampNeg)) = 0 → vp_in (mg_i G 7 6) 401 ∧ ((¬ (mg_i G 7 2) = 0 → K (ms_i G 7 3 (mg_i G 4 ((mg_i G 7 6).toNatClampNeg)))) ∧ ((mg_i G 7 2) = 0 → K (ms_i (ms_i (ms_i G 7 3 (mg_i G 4 ((mg_i G 7 6).toNatClampNeg))) 7 2 (mg_i G 7 8)) 7 3 (mg_i G 7 9))))) ∧ (¬ (mg_i G 3 ((mg_i G 7 6).toNatClampNeg)) = 0 → vp_in (mg_i G 7 6) 401 ∧ ((((mg_i G 3 ((mg_i G 7 6).toNatClampNeg)) - (nI 20)) = nI 16 → ∃ c3 s4, mc = 16 + c3 ∧ ms = 176 + s4 ∧ mC l κ true (d + 5) 16 176 m_X5_rowTold [.ref 7] G (rI (fun r1 G2 => mV l κ true (d + 6) c3 s4 m_X5_readTape 38 [some (.ref 7), some (.int (v1 + (nI 1)))] [] G2 (rV K)))) ∧ (((mg_i G 3 ((mg_i G 7 6).toNatClampNeg)) - (nI 20)) = nI 17 → mC l κ true (d + 5) 0 0 m_X5_trialTold [.ref 7] G (rI (fun r5 G6 => mV l κ true (d + 6) mc ms m_X5_readTape 38 [some (.ref 7), some (.int (v1 + (nI 1)))] [] G6 (rV K)))) ∧ (((mg_i G 3 ((mg_i G 7 6).toNatClampNeg)) - (nI 20)) = nI 18 → mV l κ true (d + 6) mc ms m_X5_readTape 38 [some (.ref 7), some (.int (v1 + (nI 1)))] [] (ms_i G 7 2 (nI 1)) (rV K)) ∧ (((mg_i G 3 ((mg_i G 7 6).toNatClampNeg)) - (nI 20)) = nI 19 → mC l κ true (d + 5) 0 0 m_X5_fuelTold [.ref 7] G (rI (fun r7 G8 => mV l κ true (d + 6) mc ms m_X5_readTape 38 [some (.ref 7), some (.int (v1 + (nI 1)))] [] G8 (rV K)))) ∧ ((((mg_i G 3 ((mg_i G 7 6).toNatClampNeg)) - (nI 20)).toInt < 16 ∨ 19 < ((mg_i G 3 ((mg_i G 7 6).toNatClampNeg)) - (nI 20)).toInt) → mV l κ true (d + 6) mc ms m_X5_readTape 38 [some (.ref 7), some (.int (v1 + (nI 1)))] [] (ms_i G 7 2 (nI 1)) (rV K)))))))))) : mV l κ true (d + 6) mc ms m_X5_readTape 38 [some (.ref 7), some (.int v1)] [] G (rV K) := by
  refine mV_iload_n (k := 1) (by decide +kernel) rfl ?_
  refine mV_sipush (n := 400) (v := nI 400) (by decide +kernel) (by decide) ?_
  refine mV_icmp_gt (off := 105) (tgt := 147) (by decide +kernel) (by decide) (fun hc => ?_) (fun hc => ?_)
  · replace h := h.1 hc
    refine mV_aload_n (k := 0) (by decide +kernel) rfl ?_
    refine mV_aload_n (k := 0) (by decide +kernel) rfl ?_
    refine mV_gfr (r := some 1) (by decide +kernel) fk_5_29 sh_7 (mm_rrs st_7_4) rfl ?_
    refine mV_gfr (r := some 4) (by decide +kernel) fk_5_65 sh_1 (mm_rrs st_1_2) rfl ?_
    refine mV_aload_n (k := 0) (by decide +kernel) rfl ?_
    refine mV_gfix (x := mg_i G 7 6) (by decide +kernel) fk_5_49 sh_7 rfl ?_
    refine mV_ialx (x := mg_i G 4 ((mg_i G 7 6).toNatClampNeg)) (by decide +kernel) sh_4 h.1 rfl ?_
    replace h := h.2
    refine mV_pfi (by decide +kernel) fk_5_68 sh_7 ?_
    refine mV_aload_n (k := 0) (by decide +kernel) rfl ?_
    refine mV_gfix (x := mg_i G 7 2) (by decide +kernel) fk_5_42 sh_7 rfl ?_
    refine mV_if_ne (off := 19) (tgt := 186) (by decide +kernel) (by decide) (fun hc => ?_) (fun hc => ?_)
    · replace h := h.1 hc
      exact mV_vret (by decide +kernel) rfl h
    · replace h := h.2 hc
      refine mV_aload_n (k := 0) (by decide +kernel) rfl ?_
      refine mV_aload_n (k := 0) (by decide +kernel) rfl ?_
      refine mV_gfix (x := mg_i G 7 8) (by decide +kernel) fk_5_46 sh_7 rfl ?_
      refine mV_pfi (by decide +kernel) fk_5_42 sh_7 ?_
      refine mV_aload_n (k := 0) (by decide +kernel) rfl ?_
      refine mV_aload_n (k := 0) (by decide +kernel) rfl ?_
      refine mV_gfix (x := mg_i G 7 9) (by decide +kernel) fk_5_71 sh_7 rfl ?_
      refine mV_pfi (by decide +kernel) fk_5_68 sh_7 ?_
      exact mV_vret (by decide +kernel) rfl h
  · replace h := h.2 hc
    refine mV_aload_n (k := 0) (by decide +kernel) rfl ?_
    refine mV_gfix (x := mg_i G 7 2) (by decide +kernel) fk_5_42 sh_7 rfl ?_
    refine mV_if_ne (off := 98) (tgt := 147) (by decide +kernel) (by decide) (fun hc => ?_) (fun hc => ?_)
    · replace h := h.1 hc
      refine mV_aload_n (k := 0) (by decide +kernel) rfl ?_
      refine mV_aload_n (k := 0) (by decide +kernel) rfl ?_
      refine mV_gfr (r := some 1) (by decide +kernel) fk_5_29 sh_7 (mm_rrs st_7_4) rfl ?_
      refine mV_gfr (r := some 4) (by decide +kernel) fk_5_65 sh_1 (mm_rrs st_1_2) rfl ?_
      refine mV_aload_n (k := 0) (by decide +kernel) rfl ?_
      refine mV_gfix (x := mg_i G 7 6) (by decide +kernel) fk_5_49 sh_7 rfl ?_
      refine mV_ialx (x := mg_i G 4 ((mg_i G 7 6).toNatClampNeg)) (by decide +kernel) sh_4 h.1 rfl ?_
      replace h := h.2
      refine mV_pfi (by decide +kernel) fk_5_68 sh_7 ?_
      refine mV_aload_n (k := 0) (by decide +kernel) rfl ?_
      refine mV_gfix (x := mg_i G 7 2) (by decide +kernel) fk_5_42 sh_7 rfl ?_
      refine mV_if_ne (off := 19) (tgt := 186) (by decide +kernel) (by decide) (fun hc => ?_) (fun hc => ?_)
      · replace h := h.1 hc
        exact mV_vret (by decide +kernel) rfl h
      · replace h := h.2 hc
        refine mV_aload_n (k := 0) (by decide +kernel) rfl ?_
        refine mV_aload_n (k := 0) (by decide +kernel) rfl ?_
        refine mV_gfix (x := mg_i G 7 8) (by decide +kernel) fk_5_46 sh_7 rfl ?_
        refine mV_pfi (by decide +kernel) fk_5_42 sh_7 ?_
        refine mV_aload_n (k := 0) (by decide +kernel) rfl ?_
        refine mV_aload_n (k := 0) (by decide +kernel) rfl ?_
        refine mV_gfix (x := mg_i G 7 9) (by decide +kernel) fk_5_71 sh_7 rfl ?_
        refine mV_pfi (by decide +kernel) fk_5_68 sh_7 ?_
        exact mV_vret (by decide +kernel) rfl h
    · replace h := h.2 hc
      refine mV_aload_n (k := 0) (by decide +kernel) rfl ?_
      refine mV_gfr (r := some 1) (by decide +kernel) fk_5_29 sh_7 (mm_rrs st_7_4) rfl ?_
      refine mV_gfr (r := some 3) (by decide +kernel) fk_5_52 sh_1 (mm_rrs st_1_1) rfl ?_
      refine mV_aload_n (k := 0) (by decide +kernel) rfl ?_
      refine mV_gfix (x := mg_i G 7 6) (by decide +kernel) fk_5_49 sh_7 rfl ?_
      refine mV_ialx (x := mg_i G 3 ((mg_i G 7 6).toNatClampNeg)) (by decide +kernel) sh_3 h.1 rfl ?_
      replace h := h.2
      refine mV_if_eq (off := 83) (tgt := 147) (by decide +kernel) (by decide) (fun hc => ?_) (fun hc => ?_)
      · replace h := h.1 hc
        refine mV_aload_n (k := 0) (by decide +kernel) rfl ?_
        refine mV_aload_n (k := 0) (by decide +kernel) rfl ?_
        refine mV_gfr (r := some 1) (by decide +kernel) fk_5_29 sh_7 (mm_rrs st_7_4) rfl ?_
        refine mV_gfr (r := some 4) (by decide +kernel) fk_5_65 sh_1 (mm_rrs st_1_2) rfl ?_
        refine mV_aload_n (k := 0) (by decide +kernel) rfl ?_
        refine mV_gfix (x := mg_i G 7 6) (by decide +kernel) fk_5_49 sh_7 rfl ?_
        refine mV_ialx (x := mg_i G 4 ((mg_i G 7 6).toNatClampNeg)) (by decide +kernel) sh_4 h.1 rfl ?_
        replace h := h.2
        refine mV_pfi (by decide +kernel) fk_5_68 sh_7 ?_
        refine mV_aload_n (k := 0) (by decide +kernel) rfl ?_
        refine mV_gfix (x := mg_i G 7 2) (by decide +kernel) fk_5_42 sh_7 rfl ?_
        refine mV_if_ne (off := 19) (tgt := 186) (by decide +kernel) (by decide) (fun hc => ?_) (fun hc => ?_)
        · replace h := h.1 hc
          exact mV_vret (by decide +kernel) rfl h
        · replace h := h.2 hc
          refine mV_aload_n (k := 0) (by decide +kernel) rfl ?_
          refine mV_aload_n (k := 0) (by decide +kernel) rfl ?_
          refine mV_gfix (x := mg_i G 7 8) (by decide +kernel) fk_5_46 sh_7 rfl ?_
          refine mV_pfi (by decide +kernel) fk_5_42 sh_7 ?_
          refine mV_aload_n (k := 0) (by decide +kernel) rfl ?_
          refine mV_aload_n (k := 0) (by decide +kernel) rfl ?_
          refine mV_gfix (x := mg_i G 7 9) (by decide +kernel) fk_5_71 sh_7 rfl ?_
          refine mV_pfi (by decide +kernel) fk_5_68 sh_7 ?_
          exact mV_vret (by decide +kernel) rfl h
      · replace h := h.2 hc
        refine mV_aload_n (k := 0) (by decide +kernel) rfl ?_
        refine mV_gfr (r := some 1) (by decide +kernel) fk_5_29 sh_7 (mm_rrs st_7_4) rfl ?_
        refine mV_gfr (r := some 3) (by decide +kernel) fk_5_52 sh_1 (mm_rrs st_1_1) rfl ?_
        refine mV_aload_n (k := 0) (by decide +kernel) rfl ?_
        refine mV_gfix (x := mg_i G 7 6) (by decide +kernel) fk_5_49 sh_7 rfl ?_
        refine mV_ialx (x := mg_i G 3 ((mg_i G 7 6).toNatClampNeg)) (by decide +kernel) sh_3 h.1 rfl ?_
        replace h := h.2
        refine mV_bipush (n := 20) (v := nI 20) (by decide +kernel) (by decide) ?_
        refine mV_isub (by decide +kernel) ?_
        have hsw : (((mg_i G 3 ((mg_i G 7 6).toNatClampNeg)) - (nI 20)).toInt < 16 ∨ 19 < ((mg_i G 3 ((mg_i G 7 6).toNatClampNeg)) - (nI 20)).toInt) ∨ ((mg_i G 3 ((mg_i G 7 6).toNatClampNeg)) - (nI 20)).toInt = 16 ∨ ((mg_i G 3 ((mg_i G 7 6).toNatClampNeg)) - (nI 20)).toInt = 17 ∨ ((mg_i G 3 ((mg_i G 7 6).toNatClampNeg)) - (nI 20)).toInt = 18 ∨ ((mg_i G 3 ((mg_i G 7 6).toNatClampNeg)) - (nI 20)).toInt = 19 := by omega
        rcases hsw with hc | hc | hc | hc | hc
        · replace h := h.2.2.2.2 hc
          refine mV_tabOut (dflt := 54) (lo := 16) (hi := 19) (offs := #[30, 38, 54, 46]) (len := 30) (tgt := 136) (by decide +kernel) hc (by decide) ?_
          refine mV_aload_n (k := 0) (by decide +kernel) rfl ?_
          refine mV_iconst (n := 1) (v := nI 1) (by decide +kernel) (by decide) ?_
          refine mV_pfi (by decide +kernel) fk_5_42 sh_7 ?_
          refine mV_iincc (i := 1) (n := 1) (c := nI 1) (ls' := [some (.ref 7), some (.int (v1 + (nI 1)))]) (by decide +kernel) (by decide) rfl (Nat.le_of_ble_eq_true rfl) rfl rfl ?_
          refine mV_goto (off := -106) (tgt := 38) (by decide +kernel) (by decide) ?_
          exact h
        · replace h := h.1 (mm_eqI hc (by decide))
          refine mV_tabIn (dflt := 54) (lo := 16) (hi := 19) (offs := #[30, 38, 54, 46]) (len := 30) (off := 30) (tgt := 112) (by decide +kernel) (by rw [hc]; decide) (by rw [hc]; decide) (by rw [hc]; rfl) (by decide) ?_
          refine mV_aload_n (k := 0) (by decide +kernel) rfl ?_
          obtain ⟨c3, s4, rfl, rfl, h⟩ := h
          refine mV_cV (as := []) (rest := []) (mc1 := 16) (ms1 := 176) (mc := c3) (ms := s4) (by decide +kernel) md_X5_rowTold lk_5_55 sh_7 rfl rfl rfl (Nat.le_of_ble_eq_true rfl) (mC.mono (mm_contI (fun r1 G2 hK => ?_)) h)
          replace h := hK
          refine mV_pop (by decide +kernel) rfl ?_
          refine mV_goto (off := 24) (tgt := 141) (by decide +kernel) (by decide) ?_
          refine mV_iincc (i := 1) (n := 1) (c := nI 1) (ls' := [some (.ref 7), some (.int (v1 + (nI 1)))]) (by decide +kernel) (by decide) rfl (Nat.le_of_ble_eq_true rfl) rfl rfl ?_
          refine mV_goto (off := -106) (tgt := 38) (by decide +kernel) (by decide) ?_
          exact h
        · replace h := h.2.1 (mm_eqI hc (by decide))
          refine mV_tabIn (dflt := 54) (lo := 16) (hi := 19) (offs := #[30, 38, 54, 46]) (len := 30) (off := 38) (tgt := 120) (by decide +kernel) (by rw [hc]; decide) (by rw [hc]; decide) (by rw [hc]; rfl) (by decide) ?_
          refine mV_aload_n (k := 0) (by decide +kernel) rfl ?_
          refine mV_bud (mc' := 0 + mc) (ms' := 0 + ms) (Nat.zero_add _) (Nat.zero_add _) ?_
          refine mV_cV (as := []) (rest := []) (mc1 := 0) (ms1 := 0) (mc := mc) (ms := ms) (by decide +kernel) md_X5_trialTold lk_5_59 sh_7 rfl rfl rfl (Nat.le_of_ble_eq_true rfl) (mC.mono (mm_contI (fun r5 G6 hK => ?_)) h)
          replace h := hK
          refine mV_pop (by decide +kernel) rfl ?_
          refine mV_goto (off := 16) (tgt := 141) (by decide +kernel) (by decide) ?_
          refine mV_iincc (i := 1) (n := 1) (c := nI 1) (ls' := [some (.ref 7), some (.int (v1 + (nI 1)))]) (by decide +kernel) (by decide) rfl (Nat.le_of_ble_eq_true rfl) rfl rfl ?_
          refine mV_goto (off := -106) (tgt := 38) (by decide +kernel) (by decide) ?_
          exact h
        · replace h := h.2.2.1 (mm_eqI hc (by decide))
          refine mV_tabIn (dflt := 54) (lo := 16) (hi := 19) (offs := #[30, 38, 54, 46]) (len := 30) (off := 54) (tgt := 136) (by decide +kernel) (by rw [hc]; decide) (by rw [hc]; decide) (by rw [hc]; rfl) (by decide) ?_
          refine mV_aload_n (k := 0) (by decide +kernel) rfl ?_
          refine mV_iconst (n := 1) (v := nI 1) (by decide +kernel) (by decide) ?_
          refine mV_pfi (by decide +kernel) fk_5_42 sh_7 ?_
          refine mV_iincc (i := 1) (n := 1) (c := nI 1) (ls' := [some (.ref 7), some (.int (v1 + (nI 1)))]) (by decide +kernel) (by decide) rfl (Nat.le_of_ble_eq_true rfl) rfl rfl ?_
          refine mV_goto (off := -106) (tgt := 38) (by decide +kernel) (by decide) ?_
          exact h
        · replace h := h.2.2.2.1 (mm_eqI hc (by decide))
          refine mV_tabIn (dflt := 54) (lo := 16) (hi := 19) (offs := #[30, 38, 54, 46]) (len := 30) (off := 46) (tgt := 128) (by decide +kernel) (by rw [hc]; decide) (by rw [hc]; decide) (by rw [hc]; rfl) (by decide) ?_
          refine mV_aload_n (k := 0) (by decide +kernel) rfl ?_
          refine mV_bud (mc' := 0 + mc) (ms' := 0 + ms) (Nat.zero_add _) (Nat.zero_add _) ?_
          refine mV_cV (as := []) (rest := []) (mc1 := 0) (ms1 := 0) (mc := mc) (ms := ms) (by decide +kernel) md_X5_fuelTold lk_5_62 sh_7 rfl rfl rfl (Nat.le_of_ble_eq_true rfl) (mC.mono (mm_contI (fun r7 G8 hK => ?_)) h)
          replace h := hK
          refine mV_pop (by decide +kernel) rfl ?_
          refine mV_goto (off := 8) (tgt := 141) (by decide +kernel) (by decide) ?_
          refine mV_iincc (i := 1) (n := 1) (c := nI 1) (ls' := [some (.ref 7), some (.int (v1 + (nI 1)))]) (by decide +kernel) (by decide) rfl (Nat.le_of_ble_eq_true rfl) rfl rfl ?_
          refine mV_goto (off := -106) (tgt := 38) (by decide +kernel) (by decide) ?_
          exact h
set_option maxRecDepth 100000 in
set_option maxHeartbeats 4000000 in
theorem e_X5_accept {l : Launch} {κ : mm_K} {d : Nat} {G : mm_G} {K : Int32 → mm_G → Prop} (a1 : Int32) (h : vp_in (mg_i G 7 6) 401 ∧ (((mg_i G 3 ((mg_i G 7 6).toNatClampNeg)) = a1 → (((mg_i G 7 6) < (nI 400) → ((¬ (mg_i G 7 2) = 0 → K (nI 0) (ms_i G 7 6 ((mg_i G 7 6) + (nI 1)))) ∧ ((mg_i G 7 2) = 0 → K (nI 1) (ms_i G 7 6 ((mg_i G 7 6) + (nI 1)))))) ∧ (¬ (mg_i G 7 6) < (nI 400) → ((¬ (nI 2) = 0 → K (nI 0) (ms_i G 7 2 (nI 2))) ∧ ((nI 2) = 0 → K (nI 1) (ms_i G 7 2 (nI 2))))))) ∧ (¬ (mg_i G 3 ((mg_i G 7 6).toNatClampNeg)) = a1 → ((¬ (nI 1) = 0 → K (nI 0) (ms_i G 7 2 (nI 1))) ∧ ((nI 1) = 0 → K (nI 1) (ms_i G 7 2 (nI 1))))))) : mC l κ true d 0 0 m_X5_accept [.ref 7, .int a1] G (rI K) := by
  refine mC.of (by decide) (Nat.le_of_ble_eq_true rfl) [some (.ref 7), some (.int a1)] rfl ?_
  refine mV_aload_n (k := 0) (by decide +kernel) rfl ?_
  refine mV_gfr (r := some 1) (by decide +kernel) fk_5_29 sh_7 (mm_rrs st_7_4) rfl ?_
  refine mV_gfr (r := some 3) (by decide +kernel) fk_5_52 sh_1 (mm_rrs st_1_1) rfl ?_
  refine mV_aload_n (k := 0) (by decide +kernel) rfl ?_
  refine mV_gfix (x := mg_i G 7 6) (by decide +kernel) fk_5_49 sh_7 rfl ?_
  refine mV_ialx (x := mg_i G 3 ((mg_i G 7 6).toNatClampNeg)) (by decide +kernel) sh_3 h.1 rfl ?_
  replace h := h.2
  refine mV_iload_n (k := 1) (by decide +kernel) rfl ?_
  refine mV_icmp_eq (off := 11) (tgt := 24) (by decide +kernel) (by decide) (fun hc => ?_) (fun hc => ?_)
  · replace h := h.1 hc
    refine mV_aload_n (k := 0) (by decide +kernel) rfl ?_
    refine mV_gfix (x := mg_i G 7 6) (by decide +kernel) fk_5_49 sh_7 rfl ?_
    refine mV_sipush (n := 400) (v := nI 400) (by decide +kernel) (by decide) ?_
    refine mV_icmp_lt (off := 11) (tgt := 42) (by decide +kernel) (by decide) (fun hc => ?_) (fun hc => ?_)
    · replace h := h.1 hc
      refine mV_aload_n (k := 0) (by decide +kernel) rfl ?_
      refine mV_dup (by decide +kernel) rfl ?_
      refine mV_gfix (x := mg_i G 7 6) (by decide +kernel) fk_5_49 sh_7 rfl ?_
      refine mV_iconst (n := 1) (v := nI 1) (by decide +kernel) (by decide) ?_
      refine mV_iadd (by decide +kernel) ?_
      refine mV_pfi (by decide +kernel) fk_5_49 sh_7 ?_
      refine mV_aload_n (k := 0) (by decide +kernel) rfl ?_
      refine mV_gfix (x := mg_i G 7 2) (by decide +kernel) fk_5_42 sh_7 rfl ?_
      refine mV_if_ne (off := 7) (tgt := 63) (by decide +kernel) (by decide) (fun hc => ?_) (fun hc => ?_)
      · replace h := h.1 hc
        refine mV_iconst (n := 0) (v := nI 0) (by decide +kernel) (by decide) ?_
        exact mV_zret (by decide +kernel) rfl (by decide) h
      · replace h := h.2 hc
        refine mV_iconst (n := 1) (v := nI 1) (by decide +kernel) (by decide) ?_
        refine mV_goto (off := 4) (tgt := 64) (by decide +kernel) (by decide) ?_
        exact mV_zret (by decide +kernel) rfl (by decide) h
    · replace h := h.2 hc
      refine mV_aload_n (k := 0) (by decide +kernel) rfl ?_
      refine mV_iconst (n := 2) (v := nI 2) (by decide +kernel) (by decide) ?_
      refine mV_pfi (by decide +kernel) fk_5_42 sh_7 ?_
      refine mV_goto (off := 13) (tgt := 52) (by decide +kernel) (by decide) ?_
      refine mV_aload_n (k := 0) (by decide +kernel) rfl ?_
      refine mV_gfix (x := nI 2) (by decide +kernel) fk_5_42 sh_7 rfl ?_
      refine mV_if_ne (off := 7) (tgt := 63) (by decide +kernel) (by decide) (fun hc => ?_) (fun hc => ?_)
      · replace h := h.1 hc
        refine mV_iconst (n := 0) (v := nI 0) (by decide +kernel) (by decide) ?_
        exact mV_zret (by decide +kernel) rfl (by decide) h
      · replace h := h.2 hc
        refine mV_iconst (n := 1) (v := nI 1) (by decide +kernel) (by decide) ?_
        refine mV_goto (off := 4) (tgt := 64) (by decide +kernel) (by decide) ?_
        exact mV_zret (by decide +kernel) rfl (by decide) h
  · replace h := h.2 hc
    refine mV_aload_n (k := 0) (by decide +kernel) rfl ?_
    refine mV_iconst (n := 1) (v := nI 1) (by decide +kernel) (by decide) ?_
    refine mV_pfi (by decide +kernel) fk_5_42 sh_7 ?_
    refine mV_goto (off := 31) (tgt := 52) (by decide +kernel) (by decide) ?_
    refine mV_aload_n (k := 0) (by decide +kernel) rfl ?_
    refine mV_gfix (x := nI 1) (by decide +kernel) fk_5_42 sh_7 rfl ?_
    refine mV_if_ne (off := 7) (tgt := 63) (by decide +kernel) (by decide) (fun hc => ?_) (fun hc => ?_)
    · replace h := h.1 hc
      refine mV_iconst (n := 0) (v := nI 0) (by decide +kernel) (by decide) ?_
      exact mV_zret (by decide +kernel) rfl (by decide) h
    · replace h := h.2 hc
      refine mV_iconst (n := 1) (v := nI 1) (by decide +kernel) (by decide) ?_
      refine mV_goto (off := 4) (tgt := 64) (by decide +kernel) (by decide) ?_
      exact mV_zret (by decide +kernel) rfl (by decide) h
set_option maxRecDepth 100000 in
set_option maxHeartbeats 4000000 in
theorem e_X5_refuse {l : Launch} {κ : mm_K} {d : Nat} {G : mm_G} {K : Int32 → mm_G → Prop} (a1 : Int32) (h : K (nI 0) (ms_i G 7 2 a1)) : mC l κ true d 0 0 m_X5_refuse [.ref 7, .int a1] G (rI K) := by
  refine mC.of (by decide) (Nat.le_of_ble_eq_true rfl) [some (.ref 7), some (.int a1)] rfl ?_
  refine mV_aload_n (k := 0) (by decide +kernel) rfl ?_
  refine mV_iload_n (k := 1) (by decide +kernel) rfl ?_
  refine mV_pfi (by decide +kernel) fk_5_42 sh_7 ?_
  refine mV_iconst (n := 0) (v := nI 0) (by decide +kernel) (by decide) ?_
  exact mV_zret (by decide +kernel) rfl (by decide) h
set_option maxRecDepth 100000 in
set_option maxHeartbeats 4000000 in
theorem e_X5_note {l : Launch} {κ : mm_K} {d : Nat} {G : mm_G} {K : mm_G → Prop} (a1 : Int32) (a2 : Int32) (h : (((mg_i G 7 8) = 0 → K (ms_i (ms_i G 7 8 a1) 7 9 a2)) ∧ (¬ (mg_i G 7 8) = 0 → (((mg_i G 7 9) ≤ a2 → K G) ∧ (¬ (mg_i G 7 9) ≤ a2 → K (ms_i (ms_i G 7 8 a1) 7 9 a2)))))) : mC l κ true d 0 0 m_X5_note [.ref 7, .int a1, .int a2] G (rV K) := by
  refine mC.of (by decide) (Nat.le_of_ble_eq_true rfl) [some (.ref 7), some (.int a1), some (.int a2)] rfl ?_
  refine mV_aload_n (k := 0) (by decide +kernel) rfl ?_
  refine mV_gfix (x := mg_i G 7 8) (by decide +kernel) fk_5_46 sh_7 rfl ?_
  refine mV_if_eq (off := 11) (tgt := 15) (by decide +kernel) (by decide) (fun hc => ?_) (fun hc => ?_)
  · replace h := h.1 hc
    refine mV_aload_n (k := 0) (by decide +kernel) rfl ?_
    refine mV_iload_n (k := 1) (by decide +kernel) rfl ?_
    refine mV_pfi (by decide +kernel) fk_5_46 sh_7 ?_
    refine mV_aload_n (k := 0) (by decide +kernel) rfl ?_
    refine mV_iload_n (k := 2) (by decide +kernel) rfl ?_
    refine mV_pfi (by decide +kernel) fk_5_71 sh_7 ?_
    exact mV_vret (by decide +kernel) rfl h
  · replace h := h.2 hc
    refine mV_iload_n (k := 2) (by decide +kernel) rfl ?_
    refine mV_aload_n (k := 0) (by decide +kernel) rfl ?_
    refine mV_gfix (x := mg_i G 7 9) (by decide +kernel) fk_5_71 sh_7 rfl ?_
    refine mV_icmp_ge (off := 13) (tgt := 25) (by decide +kernel) (by decide) (fun hc => ?_) (fun hc => ?_)
    · replace h := h.1 hc
      exact mV_vret (by decide +kernel) rfl h
    · replace h := h.2 hc
      refine mV_aload_n (k := 0) (by decide +kernel) rfl ?_
      refine mV_iload_n (k := 1) (by decide +kernel) rfl ?_
      refine mV_pfi (by decide +kernel) fk_5_46 sh_7 ?_
      refine mV_aload_n (k := 0) (by decide +kernel) rfl ?_
      refine mV_iload_n (k := 2) (by decide +kernel) rfl ?_
      refine mV_pfi (by decide +kernel) fk_5_71 sh_7 ?_
      exact mV_vret (by decide +kernel) rfl h
set_option maxRecDepth 100000 in
set_option maxHeartbeats 4000000 in
theorem e_X5_rowTold {l : Launch} {κ : mm_K} {d : Nat} {G : mm_G} {K : Int32 → mm_G → Prop}  (h : (((mg_i G 8 1) < (nI 4) → vp_in (mg_i G 8 1) 4 ∧ mC l κ true (d + 4) 0 0 m_X5_accept [.ref 7, .int (nI 36)] (ms_i G (12 + 2 * (mg_i G 8 1).toNatClampNeg) 1 (nI 0)) (rI (fun r2 G3 => ((¬ r2 = 0 → vp_in (mg_i G3 7 6) 401 ∧ vp_in (mg_i G3 7 6) 401 ∧ mC l κ true (d + 4) 0 0 m_X5_accept [.ref 7, .int (nI 2)] (ms_l G3 (12 + 2 * (mg_i G 8 1).toNatClampNeg) 3 (mg_l G3 5 ((mg_i G3 7 6).toNatClampNeg))) (rI (fun r4 G5 => ((r4 = 0 → K (nI 0) G5) ∧ (¬ r4 = 0 → mC l κ true (d + 4) 0 0 m_X5_accept [.ref 7, .int (nI 6)] G5 (rI (fun r6 G7 => ((¬ r6 = 0 → mC l κ true (d + 4) 0 0 m_X7_named [.ref 8, .long (mg_l G7 (12 + 2 * (mg_i G 8 1).toNatClampNeg) 3)] G7 (rI (fun r8 G9 => ((r8 < 0 → mV l κ true (d + 5) 16 176 m_X5_rowTold 119 [some (.ref 7), some (.ref (12 + 2 * (mg_i G 8 1).toNatClampNeg)), some (.int (mg_i G3 4 ((mg_i G3 7 6).toNatClampNeg))), some (.int (nI 0))] [] G9 (rI K)) ∧ (¬ r8 < 0 → mC l κ true (d + 4) 0 0 m_X5_note [.ref 7, .int (nI 3), .int (mg_i G3 4 ((mg_i G3 7 6).toNatClampNeg))] G9 (rV (fun G11 => mV l κ true (d + 5) 16 176 m_X5_rowTold 119 [some (.ref 7), some (.ref (12 + 2 * (mg_i G 8 1).toNatClampNeg)), some (.int (mg_i G3 4 ((mg_i G3 7 6).toNatClampNeg))), some (.int (nI 0))] [] G11 (rI K)))))))) ∧ (r6 = 0 → K (nI 0) G7))))))))) ∧ (r2 = 0 → K (nI 0) G3))))) ∧ (¬ (mg_i G 8 1) < (nI 4) → mC l κ true (d + 4) 0 0 m_X5_refuse [.ref 7, .int (nI 2)] G (rI (fun r12 G13 => (r12 = 0 ∨ r12 = 1) ∧ K r12 G13))))) : mC l κ true (d + 5) 16 176 m_X5_rowTold [.ref 7] G (rI K) := by
  refine mC.of (by decide) (Nat.le_of_ble_eq_true rfl) [some (.ref 7), none, none, none] rfl ?_
  refine mV_aload_n (k := 0) (by decide +kernel) rfl ?_
  refine mV_gfr (r := some 8) (by decide +kernel) fk_5_12 sh_7 (mm_rrs st_7_0) rfl ?_
  refine mV_gfix (x := mg_i G 8 1) (by decide +kernel) fk_5_74 sh_8 rfl ?_
  refine mV_iconst (n := 4) (v := nI 4) (by decide +kernel) (by decide) ?_
  refine mV_icmp_lt (off := 9) (tgt := 17) (by decide +kernel) (by decide) (fun hc => ?_) (fun hc => ?_)
  · replace h := h.1 hc
    refine mV_aload_n (k := 0) (by decide +kernel) rfl ?_
    refine mV_gfr (r := some 8) (by decide +kernel) fk_5_12 sh_7 (mm_rrs st_7_0) rfl ?_
    refine mV_gfr (r := some 9) (by decide +kernel) fk_5_81 sh_8 (mm_rrs st_8_0) rfl ?_
    refine mV_aload_n (k := 0) (by decide +kernel) rfl ?_
    refine mV_gfr (r := some 8) (by decide +kernel) fk_5_12 sh_7 (mm_rrs st_7_0) rfl ?_
    refine mV_gfix (x := mg_i G 8 1) (by decide +kernel) fk_5_74 sh_8 rfl ?_
    have hj1 := h.1
    replace h := h.2
    refine mV_aal (t := 5) (r := some (12 + 2 * (mg_i G 8 1).toNatClampNeg)) (by decide +kernel) sh_9 (by decide) hj1 (mm_rrs (mm_rs8.2.2.2.2.2.2.2.1 _ (mm_ixlt hj1))) rfl ?_
    refine mV_astore_n (k := 1) (ls' := [some (.ref 7), some (.ref (12 + 2 * (mg_i G 8 1).toNatClampNeg)), none, none]) (by decide +kernel) (Nat.le_of_ble_eq_true rfl) rfl rfl ?_
    refine mV_aload_n (k := 1) (by decide +kernel) rfl ?_
    refine mV_iconst (n := 0) (v := nI 0) (by decide +kernel) (by decide) ?_
    refine mV_pfi (by decide +kernel) fk_5_85 (mm_rs8.2.2.2.2.2.2.2.2 _ (mm_ixlt hj1)).1 ?_
    refine mV_aload_n (k := 0) (by decide +kernel) rfl ?_
    refine mV_bipush (n := 36) (v := nI 36) (by decide +kernel) (by decide) ?_
    refine mV_cV (as := [.int (nI 36)]) (rest := []) (mc1 := 0) (ms1 := 0) (mc := 16) (ms := 176) (by decide +kernel) md_X5_accept lk_5_88 sh_7 rfl rfl rfl (Nat.le_of_ble_eq_true rfl) (mC.mono (mm_contI (fun r2 G3 hK => ?_)) h)
    replace h := hK
    refine mV_if_ne (off := 5) (tgt := 49) (by decide +kernel) (by decide) (fun hc => ?_) (fun hc => ?_)
    · replace h := h.1 hc
      refine mV_aload_n (k := 1) (by decide +kernel) rfl ?_
      refine mV_aload_n (k := 0) (by decide +kernel) rfl ?_
      refine mV_gfr (r := some 1) (by decide +kernel) fk_5_29 sh_7 (mm_rrs st_7_4) rfl ?_
      refine mV_gfr (r := some 5) (by decide +kernel) fk_5_91 sh_1 (mm_rrs st_1_3) rfl ?_
      refine mV_aload_n (k := 0) (by decide +kernel) rfl ?_
      refine mV_gfix (x := mg_i G3 7 6) (by decide +kernel) fk_5_49 sh_7 rfl ?_
      refine mV_lalx (x := mg_l G3 5 ((mg_i G3 7 6).toNatClampNeg)) (by decide +kernel) sh_5 h.1 rfl ?_
      replace h := h.2
      refine mV_pfl (by decide +kernel) fk_5_95 (mm_rs8.2.2.2.2.2.2.2.2 _ (mm_ixlt hj1)).1 ?_
      refine mV_aload_n (k := 0) (by decide +kernel) rfl ?_
      refine mV_gfr (r := some 1) (by decide +kernel) fk_5_29 sh_7 (mm_rrs st_7_4) rfl ?_
      refine mV_gfr (r := some 4) (by decide +kernel) fk_5_65 sh_1 (mm_rrs st_1_2) rfl ?_
      refine mV_aload_n (k := 0) (by decide +kernel) rfl ?_
      refine mV_gfix (x := mg_i G3 7 6) (by decide +kernel) fk_5_49 sh_7 rfl ?_
      refine mV_ialx (x := mg_i G3 4 ((mg_i G3 7 6).toNatClampNeg)) (by decide +kernel) sh_4 h.1 rfl ?_
      replace h := h.2
      refine mV_istore_n (k := 2) (ls' := [some (.ref 7), some (.ref (12 + 2 * (mg_i G 8 1).toNatClampNeg)), some (.int (mg_i G3 4 ((mg_i G3 7 6).toNatClampNeg))), none]) (by decide +kernel) (Nat.le_of_ble_eq_true rfl) rfl rfl ?_
      refine mV_aload_n (k := 0) (by decide +kernel) rfl ?_
      refine mV_iconst (n := 2) (v := nI 2) (by decide +kernel) (by decide) ?_
      refine mV_cV (as := [.int (nI 2)]) (rest := []) (mc1 := 0) (ms1 := 0) (mc := 16) (ms := 176) (by decide +kernel) md_X5_accept lk_5_88 sh_7 rfl rfl rfl (Nat.le_of_ble_eq_true rfl) (mC.mono (mm_contI (fun r4 G5 hK => ?_)) h)
      replace h := hK
      refine mV_if_eq (off := 12) (tgt := 95) (by decide +kernel) (by decide) (fun hc => ?_) (fun hc => ?_)
      · replace h := h.1 hc
        refine mV_iconst (n := 0) (v := nI 0) (by decide +kernel) (by decide) ?_
        exact mV_zret (by decide +kernel) rfl (by decide) h
      · replace h := h.2 hc
        refine mV_aload_n (k := 0) (by decide +kernel) rfl ?_
        refine mV_bipush (n := 6) (v := nI 6) (by decide +kernel) (by decide) ?_
        refine mV_cV (as := [.int (nI 6)]) (rest := []) (mc1 := 0) (ms1 := 0) (mc := 16) (ms := 176) (by decide +kernel) md_X5_accept lk_5_88 sh_7 rfl rfl rfl (Nat.le_of_ble_eq_true rfl) (mC.mono (mm_contI (fun r6 G7 hK => ?_)) h)
        replace h := hK
        refine mV_if_ne (off := 5) (tgt := 97) (by decide +kernel) (by decide) (fun hc => ?_) (fun hc => ?_)
        · replace h := h.1 hc
          refine mV_aload_n (k := 0) (by decide +kernel) rfl ?_
          refine mV_gfr (r := some 8) (by decide +kernel) fk_5_12 sh_7 (mm_rrs st_7_0) rfl ?_
          refine mV_aload_n (k := 1) (by decide +kernel) rfl ?_
          refine mV_gflx (x := mg_l G7 (12 + 2 * (mg_i G 8 1).toNatClampNeg) 3) (by decide +kernel) fk_5_95 (mm_rs8.2.2.2.2.2.2.2.2 _ (mm_ixlt hj1)).1 rfl ?_
          refine mV_cV (as := [.long (mg_l G7 (12 + 2 * (mg_i G 8 1).toNatClampNeg) 3)]) (rest := []) (mc1 := 0) (ms1 := 0) (mc := 16) (ms := 176) (by decide +kernel) md_X7_named lk_5_99 sh_8 rfl rfl rfl (Nat.le_of_ble_eq_true rfl) (mC.mono (mm_contI (fun r8 G9 hK => ?_)) h)
          replace h := hK
          refine mV_if_lt (off := 9) (tgt := 117) (by decide +kernel) (by decide) (fun hc => ?_) (fun hc => ?_)
          · replace h := h.1 hc
            refine mV_iconst (n := 0) (v := nI 0) (by decide +kernel) (by decide) ?_
            refine mV_istore_n (k := 3) (ls' := [some (.ref 7), some (.ref (12 + 2 * (mg_i G 8 1).toNatClampNeg)), some (.int (mg_i G3 4 ((mg_i G3 7 6).toNatClampNeg))), some (.int (nI 0))]) (by decide +kernel) (Nat.le_of_ble_eq_true rfl) rfl rfl ?_
            exact h
          · replace h := h.2 hc
            refine mV_aload_n (k := 0) (by decide +kernel) rfl ?_
            refine mV_iconst (n := 3) (v := nI 3) (by decide +kernel) (by decide) ?_
            refine mV_iload_n (k := 2) (by decide +kernel) rfl ?_
            refine mV_cV (as := [.int (nI 3), .int (mg_i G3 4 ((mg_i G3 7 6).toNatClampNeg))]) (rest := []) (mc1 := 0) (ms1 := 0) (mc := 16) (ms := 176) (by decide +kernel) md_X5_note lk_5_103 sh_7 rfl rfl rfl (Nat.le_of_ble_eq_true rfl) (mC.mono (mm_contV (fun G11 hK => ?_)) h)
            replace h := hK
            refine mV_iconst (n := 0) (v := nI 0) (by decide +kernel) (by decide) ?_
            refine mV_istore_n (k := 3) (ls' := [some (.ref 7), some (.ref (12 + 2 * (mg_i G 8 1).toNatClampNeg)), some (.int (mg_i G3 4 ((mg_i G3 7 6).toNatClampNeg))), some (.int (nI 0))]) (by decide +kernel) (Nat.le_of_ble_eq_true rfl) rfl rfl ?_
            exact h
        · replace h := h.2 hc
          refine mV_iconst (n := 0) (v := nI 0) (by decide +kernel) (by decide) ?_
          exact mV_zret (by decide +kernel) rfl (by decide) h
    · replace h := h.2 hc
      refine mV_iconst (n := 0) (v := nI 0) (by decide +kernel) (by decide) ?_
      exact mV_zret (by decide +kernel) rfl (by decide) h
  · replace h := h.2 hc
    refine mV_aload_n (k := 0) (by decide +kernel) rfl ?_
    refine mV_iconst (n := 2) (v := nI 2) (by decide +kernel) (by decide) ?_
    refine mV_cV (as := [.int (nI 2)]) (rest := []) (mc1 := 0) (ms1 := 0) (mc := 16) (ms := 176) (by decide +kernel) md_X5_refuse lk_5_77 sh_7 rfl rfl rfl (Nat.le_of_ble_eq_true rfl) (mC.mono (mm_contI (fun r12 G13 hK => ?_)) h)
    replace h := hK
    exact mV_zret (by decide +kernel) rfl h.1 h.2
set_option maxRecDepth 100000 in
set_option maxHeartbeats 4000000 in
theorem p_X5_rowTold_119 {l : Launch} {κ : mm_K} {d mc ms : Nat} {G : mm_G} {K : Int32 → mm_G → Prop} (v1 : Nat) (hv1 : RowAt v1) (v2 : Int32) (v3 : Int32) (h : (((nI 16) < v3 → mC l κ true (d + 4) 0 0 m_X5_checkLabels [.ref 7, .ref v1] G (rV (fun G2 => mC l κ true (d + 4) 0 0 m_X5_accept [.ref 7, .int (nI 7)] (ms_i G2 8 1 ((mg_i G2 8 1) + (nI 1))) (rI (fun r3 G4 => (r3 = 0 ∨ r3 = 1) ∧ K r3 G4))))) ∧ (¬ (nI 16) < v3 → vp_in (mg_i G 7 6) 401 ∧ (((mg_i G 3 ((mg_i G 7 6).toNatClampNeg)) = (nI 7) → mC l κ true (d + 4) 0 0 m_X5_checkLabels [.ref 7, .ref v1] G (rV (fun G6 => mC l κ true (d + 4) 0 0 m_X5_accept [.ref 7, .int (nI 7)] (ms_i G6 8 1 ((mg_i G6 8 1) + (nI 1))) (rI (fun r7 G8 => (r7 = 0 ∨ r7 = 1) ∧ K r7 G8))))) ∧ (¬ (mg_i G 3 ((mg_i G 7 6).toNatClampNeg)) = (nI 7) → ∃ c11 s12, mc = 1 + c11 ∧ ms = 11 + s12 ∧ mC l κ true (d + 4) 1 11 m_X5_lineTold [.ref 7, .ref v1] G (rI (fun r9 G10 => ((¬ r9 = 0 → mV l κ true (d + 5) c11 s12 m_X5_rowTold 119 [some (.ref 7), some (.ref v1), some (.int v2), some (.int (v3 + (nI 1)))] [] G10 (rI K)) ∧ (r9 = 0 → K (nI 0) G10))))))))) : mV l κ true (d + 5) mc ms m_X5_rowTold 119 [some (.ref 7), some (.ref v1), some (.int v2), some (.int v3)] [] G (rI K) := by
  refine mV_iload_n (k := 3) (by decide +kernel) rfl ?_
  refine mV_bipush (n := 16) (v := nI 16) (by decide +kernel) (by decide) ?_
  refine mV_icmp_gt (off := 36) (tgt := 158) (by decide +kernel) (by decide) (fun hc => ?_) (fun hc => ?_)
  · replace h := h.1 hc
    refine mV_aload_n (k := 0) (by decide +kernel) rfl ?_
    refine mV_aload_n (k := 1) (by decide +kernel) rfl ?_
    refine mV_bud (mc' := 0 + mc) (ms' := 0 + ms) (Nat.zero_add _) (Nat.zero_add _) ?_
    refine mV_cV (as := [.ref v1]) (rest := []) (mc1 := 0) (ms1 := 0) (mc := mc) (ms := ms) (by decide +kernel) md_X5_checkLabels lk_5_111 sh_7 rfl rfl rfl (Nat.le_of_ble_eq_true rfl) (mC.mono (mm_contV (fun G2 hK => ?_)) h)
    replace h := hK
    refine mV_aload_n (k := 0) (by decide +kernel) rfl ?_
    refine mV_gfr (r := some 8) (by decide +kernel) fk_5_12 sh_7 (mm_rrs st_7_0) rfl ?_
    refine mV_dup (by decide +kernel) rfl ?_
    refine mV_gfix (x := mg_i G2 8 1) (by decide +kernel) fk_5_74 sh_8 rfl ?_
    refine mV_iconst (n := 1) (v := nI 1) (by decide +kernel) (by decide) ?_
    refine mV_iadd (by decide +kernel) ?_
    refine mV_pfi (by decide +kernel) fk_5_74 sh_8 ?_
    refine mV_aload_n (k := 0) (by decide +kernel) rfl ?_
    refine mV_bipush (n := 7) (v := nI 7) (by decide +kernel) (by decide) ?_
    refine mV_bud (mc' := 0 + mc) (ms' := 0 + ms) (Nat.zero_add _) (Nat.zero_add _) ?_
    refine mV_cV (as := [.int (nI 7)]) (rest := []) (mc1 := 0) (ms1 := 0) (mc := mc) (ms := ms) (by decide +kernel) md_X5_accept lk_5_88 sh_7 rfl rfl rfl (Nat.le_of_ble_eq_true rfl) (mC.mono (mm_contI (fun r3 G4 hK => ?_)) h)
    replace h := hK
    exact mV_zret (by decide +kernel) rfl h.1 h.2
  · replace h := h.2 hc
    refine mV_aload_n (k := 0) (by decide +kernel) rfl ?_
    refine mV_gfr (r := some 1) (by decide +kernel) fk_5_29 sh_7 (mm_rrs st_7_4) rfl ?_
    refine mV_gfr (r := some 3) (by decide +kernel) fk_5_52 sh_1 (mm_rrs st_1_1) rfl ?_
    refine mV_aload_n (k := 0) (by decide +kernel) rfl ?_
    refine mV_gfix (x := mg_i G 7 6) (by decide +kernel) fk_5_49 sh_7 rfl ?_
    refine mV_ialx (x := mg_i G 3 ((mg_i G 7 6).toNatClampNeg)) (by decide +kernel) sh_3 h.1 rfl ?_
    replace h := h.2
    refine mV_bipush (n := 7) (v := nI 7) (by decide +kernel) (by decide) ?_
    refine mV_icmp_eq (off := 19) (tgt := 158) (by decide +kernel) (by decide) (fun hc => ?_) (fun hc => ?_)
    · replace h := h.1 hc
      refine mV_aload_n (k := 0) (by decide +kernel) rfl ?_
      refine mV_aload_n (k := 1) (by decide +kernel) rfl ?_
      refine mV_bud (mc' := 0 + mc) (ms' := 0 + ms) (Nat.zero_add _) (Nat.zero_add _) ?_
      refine mV_cV (as := [.ref v1]) (rest := []) (mc1 := 0) (ms1 := 0) (mc := mc) (ms := ms) (by decide +kernel) md_X5_checkLabels lk_5_111 sh_7 rfl rfl rfl (Nat.le_of_ble_eq_true rfl) (mC.mono (mm_contV (fun G6 hK => ?_)) h)
      replace h := hK
      refine mV_aload_n (k := 0) (by decide +kernel) rfl ?_
      refine mV_gfr (r := some 8) (by decide +kernel) fk_5_12 sh_7 (mm_rrs st_7_0) rfl ?_
      refine mV_dup (by decide +kernel) rfl ?_
      refine mV_gfix (x := mg_i G6 8 1) (by decide +kernel) fk_5_74 sh_8 rfl ?_
      refine mV_iconst (n := 1) (v := nI 1) (by decide +kernel) (by decide) ?_
      refine mV_iadd (by decide +kernel) ?_
      refine mV_pfi (by decide +kernel) fk_5_74 sh_8 ?_
      refine mV_aload_n (k := 0) (by decide +kernel) rfl ?_
      refine mV_bipush (n := 7) (v := nI 7) (by decide +kernel) (by decide) ?_
      refine mV_bud (mc' := 0 + mc) (ms' := 0 + ms) (Nat.zero_add _) (Nat.zero_add _) ?_
      refine mV_cV (as := [.int (nI 7)]) (rest := []) (mc1 := 0) (ms1 := 0) (mc := mc) (ms := ms) (by decide +kernel) md_X5_accept lk_5_88 sh_7 rfl rfl rfl (Nat.le_of_ble_eq_true rfl) (mC.mono (mm_contI (fun r7 G8 hK => ?_)) h)
      replace h := hK
      exact mV_zret (by decide +kernel) rfl h.1 h.2
    · replace h := h.2 hc
      refine mV_aload_n (k := 0) (by decide +kernel) rfl ?_
      refine mV_aload_n (k := 1) (by decide +kernel) rfl ?_
      obtain ⟨c11, s12, rfl, rfl, h⟩ := h
      refine mV_cV (as := [.ref v1]) (rest := []) (mc1 := 1) (ms1 := 11) (mc := c11) (ms := s12) (by decide +kernel) md_X5_lineTold lk_5_107 sh_7 rfl rfl rfl (Nat.le_of_ble_eq_true rfl) (mC.mono (mm_contI (fun r9 G10 hK => ?_)) h)
      replace h := hK
      refine mV_if_ne (off := 5) (tgt := 152) (by decide +kernel) (by decide) (fun hc => ?_) (fun hc => ?_)
      · replace h := h.1 hc
        refine mV_iincc (i := 3) (n := 1) (c := nI 1) (ls' := [some (.ref 7), some (.ref v1), some (.int v2), some (.int (v3 + (nI 1)))]) (by decide +kernel) (by decide) rfl (Nat.le_of_ble_eq_true rfl) rfl rfl ?_
        refine mV_goto (off := -36) (tgt := 119) (by decide +kernel) (by decide) ?_
        exact h
      · replace h := h.2 hc
        refine mV_iconst (n := 0) (v := nI 0) (by decide +kernel) (by decide) ?_
        exact mV_zret (by decide +kernel) rfl (by decide) h
