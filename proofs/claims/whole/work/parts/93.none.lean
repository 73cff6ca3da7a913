/-! reading: calls that make nothing -/
set_option maxRecDepth 100000 in
set_option maxHeartbeats 4000000 in
theorem e_X5_lineTold0 {l : Launch} {κ : mm_K} {d : Nat} {G : mm_G} {K : Int32 → mm_G → Prop} (a1 : Nat) (ha1 : RowAt a1) (h : vp_in (mg_i G 7 6) 401 ∧ ((¬ (mg_i G 3 ((mg_i G 7 6).toNatClampNeg)) = (nI 2) → mV l κ true (d + 4) 0 0 m_X5_lineTold 27 [some (.ref 7), some (.ref a1), some (.int (mg_i G 7 6)), some (.int (nI 0)), none] [] G (rI K)) ∧ ((mg_i G 3 ((mg_i G 7 6).toNatClampNeg)) = (nI 2) → mV l κ true (d + 4) 0 0 m_X5_lineTold 27 [some (.ref 7), some (.ref a1), some (.int (mg_i G 7 6)), some (.int (nI 1)), none] [] G (rI K)))) : mC l κ true (d + 4) 0 0 m_X5_lineTold [.ref 7, .ref a1] G (rI K) := by
  refine mC.of (by decide) (Nat.le_of_ble_eq_true rfl) [some (.ref 7), some (.ref a1), none, none, none] rfl ?_
  refine mV_aload_n (k := 0) (by decide +kernel) rfl ?_
  refine mV_gfix (x := mg_i G 7 6) (by decide +kernel) fk_5_49 sh_7 rfl ?_
  refine mV_istore_n (k := 2) (ls' := [some (.ref 7), some (.ref a1), some (.int (mg_i G 7 6)), none, none]) (by decide +kernel) (Nat.le_of_ble_eq_true rfl) rfl rfl ?_
  refine mV_aload_n (k := 0) (by decide +kernel) rfl ?_
  refine mV_gfr (r := some 1) (by decide +kernel) fk_5_29 sh_7 (mm_rrs st_7_4) rfl ?_
  refine mV_gfr (r := some 3) (by decide +kernel) fk_5_52 sh_1 (mm_rrs st_1_1) rfl ?_
  refine mV_aload_n (k := 0) (by decide +kernel) rfl ?_
  refine mV_gfix (x := mg_i G 7 6) (by decide +kernel) fk_5_49 sh_7 rfl ?_
  refine mV_ialx (x := mg_i G 3 ((mg_i G 7 6).toNatClampNeg)) (by decide +kernel) sh_3 h.1 rfl ?_
  replace h := h.2
  refine mV_iconst (n := 2) (v := nI 2) (by decide +kernel) (by decide) ?_
  refine mV_icmp_ne (off := 7) (tgt := 25) (by decide +kernel) (by decide) (fun hc => ?_) (fun hc => ?_)
  · replace h := h.1 hc
    refine mV_iconst (n := 0) (v := nI 0) (by decide +kernel) (by decide) ?_
    refine mV_istore_n (k := 3) (ls' := [some (.ref 7), some (.ref a1), some (.int (mg_i G 7 6)), some (.int (nI 0)), none]) (by decide +kernel) (Nat.le_of_ble_eq_true rfl) rfl rfl ?_
    exact h
  · replace h := h.2 hc
    refine mV_iconst (n := 1) (v := nI 1) (by decide +kernel) (by decide) ?_
    refine mV_goto (off := 4) (tgt := 26) (by decide +kernel) (by decide) ?_
    refine mV_istore_n (k := 3) (ls' := [some (.ref 7), some (.ref a1), some (.int (mg_i G 7 6)), some (.int (nI 1)), none]) (by decide +kernel) (Nat.le_of_ble_eq_true rfl) rfl rfl ?_
    exact h
set_option maxRecDepth 100000 in
set_option maxHeartbeats 4000000 in
theorem p_X5_rowTold0_119 {l : Launch} {κ : mm_K} {d mc ms : Nat} {G : mm_G} {K : Int32 → mm_G → Prop} (v1 : Nat) (hv1 : RowAt v1) (v2 : Int32) (v3 : Int32) (h : (((nI 16) < v3 → mC l κ true (d + 4) 0 0 m_X5_checkLabels [.ref 7, .ref v1] G (rV (fun G2 => mC l κ true (d + 4) 0 0 m_X5_accept [.ref 7, .int (nI 7)] (ms_i G2 8 1 ((mg_i G2 8 1) + (nI 1))) (rI (fun r3 G4 => (r3 = 0 ∨ r3 = 1) ∧ K r3 G4))))) ∧ (¬ (nI 16) < v3 → vp_in (mg_i G 7 6) 401 ∧ (((mg_i G 3 ((mg_i G 7 6).toNatClampNeg)) = (nI 7) → mC l κ true (d + 4) 0 0 m_X5_checkLabels [.ref 7, .ref v1] G (rV (fun G6 => mC l κ true (d + 4) 0 0 m_X5_accept [.ref 7, .int (nI 7)] (ms_i G6 8 1 ((mg_i G6 8 1) + (nI 1))) (rI (fun r7 G8 => (r7 = 0 ∨ r7 = 1) ∧ K r7 G8))))) ∧ (¬ (mg_i G 3 ((mg_i G 7 6).toNatClampNeg)) = (nI 7) → mC l κ true (d + 4) 0 0 m_X5_lineTold [.ref 7, .ref v1] G (rI (fun r9 G10 => ((¬ r9 = 0 → mV l κ true (d + 5) mc ms m_X5_rowTold 119 [some (.ref 7), some (.ref v1), some (.int v2), some (.int (v3 + (nI 1)))] [] G10 (rI K)) ∧ (r9 = 0 → K (nI 0) G10))))))))) : mV l κ true (d + 5) mc ms m_X5_rowTold 119 [some (.ref 7), some (.ref v1), some (.int v2), some (.int v3)] [] G (rI K) := by
  refine mV_iload_n (k := 3) (by decide +kernel) rfl ?_
  refine mV_bipush (n := 16) (v := nI 16) (by decide +kernel) (by decide) ?_
  refine mV_icmp_gt (off := 36) (tgt := 158) (by decide +kernel) (by decide) (fun hc => ?_) (fun hc => ?_)
  · replace h := h.1 hc
    refine mV_aload_n (k := 0) (by decide +kernel) rfl ?_
    refine mV_aload_n (k := 1) (by decide +kernel) rfl ?_
    refine mV_bud (mc' := 0 + mc) (ms' := 0 + ms) (Nat.zero_add _) (Nat.zero_add _) ?_
    refine mV_cV (as := [.ref v1]) (rest := []) (mc1 := 0) (ms1 := 0) (mc := mc) (ms := ms) (by decide +kernel) md_X5_checkLabels lk_5_111 sh_7 rfl rfl rfl (Nat.le_of_ble_eq_true rfl) (mC.mono (mm_contV (fun G2 hK => ?_)) h)
    replace h := hK
    refine mV_aload_n (k := 0) (by decide +kernel) rfl ?_
    refine mV_gfr (r := some 8) (by decide +kernel) fk_5_12 sh_7 (mm_rrs st_7_0) rfl ?_
    refine mV_dup (by decide +kernel) rfl ?_
    refine mV_gfix (x := mg_i G2 8 1) (by decide +kernel) fk_5_74 sh_8 rfl ?_
    refine mV_iconst (n := 1) (v := nI 1) (by decide +kernel) (by decide) ?_
    refine mV_iadd (by decide +kernel) ?_
    refine mV_pfi (by decide +kernel) fk_5_74 sh_8 ?_
    refine mV_aload_n (k := 0) (by decide +kernel) rfl ?_
    refine mV_bipush (n := 7) (v := nI 7) (by decide +kernel) (by decide) ?_
    refine mV_bud (mc' := 0 + mc) (ms' := 0 + ms) (Nat.zero_add _) (Nat.zero_add _) ?_
    refine mV_cV (as := [.int (nI 7)]) (rest := []) (mc1 := 0) (ms1 := 0) (mc := mc) (ms := ms) (by decide +kernel) md_X5_accept lk_5_88 sh_7 rfl rfl rfl (Nat.le_of_ble_eq_true rfl) (mC.mono (mm_contI (fun r3 G4 hK => ?_)) h)
    replace h := hK
    exact mV_zret (by decide +kernel) rfl h.1 h.2
  · replace h := h.2 hc
    refine mV_aload_n (k := 0) (by decide +kernel) rfl ?_
    refine mV_gfr (r := some 1) (by decide +kernel) fk_5_29 sh_7 (mm_rrs st_7_4) rfl ?_
    refine mV_gfr (r := some 3) (by decide +kernel) fk_5_52 sh_1 (mm_rrs st_1_1) rfl ?_
    refine mV_aload_n (k := 0) (by decide +kernel) rfl ?_
    refine mV_gfix (x := mg_i G 7 6) (by decide +kernel) fk_5_49 sh_7 rfl ?_
    refine mV_ialx (x := mg_i G 3 ((mg_i G 7 6).toNatClampNeg)) (by decide +kernel) sh_3 h.1 rfl ?_
    replace h := h.2
    refine mV_bipush (n := 7) (v := nI 7) (by decide +kernel) (by decide) ?_
    refine mV_icmp_eq (off := 19) (tgt := 158) (by decide +kernel) (by decide) (fun hc => ?_) (fun hc => ?_)
    · replace h := h.1 hc
      refine mV_aload_n (k := 0) (by decide +kernel) rfl ?_
      refine mV_aload_n (k := 1) (by decide +kernel) rfl ?_
      refine mV_bud (mc' := 0 + mc) (ms' := 0 + ms) (Nat.zero_add _) (Nat.zero_add _) ?_
      refine mV_cV (as := [.ref v1]) (rest := []) (mc1 := 0) (ms1 := 0) (mc := mc) (ms := ms) (by decide +kernel) md_X5_checkLabels lk_5_111 sh_7 rfl rfl rfl (Nat.le_of_ble_eq_true rfl) (mC.mono (mm_contV (fun G6 hK => ?_)) h)
      replace h := hK
      refine mV_aload_n (k := 0) (by decide +kernel) rfl ?_
      refine mV_gfr (r := some 8) (by decide +kernel) fk_5_12 sh_7 (mm_rrs st_7_0) rfl ?_
      refine mV_dup (by decide +kernel) rfl ?_
      refine mV_gfix (x := mg_i G6 8 1) (by decide +kernel) fk_5_74 sh_8 rfl ?_
      refine mV_iconst (n := 1) (v := nI 1) (by decide +kernel) (by decide) ?_
      refine mV_iadd (by decide +kernel) ?_
      refine mV_pfi (by decide +kernel) fk_5_74 sh_8 ?_
      refine mV_aload_n (k := 0) (by decide +kernel) rfl ?_
      refine mV_bipush (n := 7) (v := nI 7) (by decide +kernel) (by decide) ?_
      refine mV_bud (mc' := 0 + mc) (ms' := 0 + ms) (Nat.zero_add _) (Nat.zero_add _) ?_
      refine mV_cV (as := [.int (nI 7)]) (rest := []) (mc1 := 0) (ms1 := 0) (mc := mc) (ms := ms) (by decide +kernel) md_X5_accept lk_5_88 sh_7 rfl rfl rfl (Nat.le_of_ble_eq_true rfl) (mC.mono (mm_contI (fun r7 G8 hK => ?_)) h)
      replace h := hK
      exact mV_zret (by decide +kernel) rfl h.1 h.2
    · replace h := h.2 hc
      refine mV_aload_n (k := 0) (by decide +kernel) rfl ?_
      refine mV_aload_n (k := 1) (by decide +kernel) rfl ?_
      refine mV_bud (mc' := 0 + mc) (ms' := 0 + ms) (Nat.zero_add _) (Nat.zero_add _) ?_
      refine mV_cV (as := [.ref v1]) (rest := []) (mc1 := 0) (ms1 := 0) (mc := mc) (ms := ms) (by decide +kernel) md_X5_lineTold lk_5_107 sh_7 rfl rfl rfl (Nat.le_of_ble_eq_true rfl) (mC.mono (mm_contI (fun r9 G10 hK => ?_)) h)
      replace h := hK
      refine mV_if_ne (off := 5) (tgt := 152) (by decide +kernel) (by decide) (fun hc => ?_) (fun hc => ?_)
      · replace h := h.1 hc
        refine mV_iincc (i := 3) (n := 1) (c := nI 1) (ls' := [some (.ref 7), some (.ref v1), some (.int v2), some (.int (v3 + (nI 1)))]) (by decide +kernel) (by decide) rfl (Nat.le_of_ble_eq_true rfl) rfl rfl ?_
        refine mV_goto (off := -36) (tgt := 119) (by decide +kernel) (by decide) ?_
        exact h
      · replace h := h.2 hc
        refine mV_iconst (n := 0) (v := nI 0) (by decide +kernel) (by decide) ?_
        exact mV_zret (by decide +kernel) rfl (by decide) h
set_option maxRecDepth 100000 in
set_option maxHeartbeats 4000000 in
theorem e_X5_rowTold0 {l : Launch} {κ : mm_K} {d : Nat} {G : mm_G} {K : Int32 → mm_G → Prop}  (h : (((mg_i G 8 1) < (nI 4) → vp_in (mg_i G 8 1) 4 ∧ mC l κ true (d + 4) 0 0 m_X5_accept [.ref 7, .int (nI 36)] (ms_i G (12 + 2 * (mg_i G 8 1).toNatClampNeg) 1 (nI 0)) (rI (fun r2 G3 => ((¬ r2 = 0 → vp_in (mg_i G3 7 6) 401 ∧ vp_in (mg_i G3 7 6) 401 ∧ mC l κ true (d + 4) 0 0 m_X5_accept [.ref 7, .int (nI 2)] (ms_l G3 (12 + 2 * (mg_i G 8 1).toNatClampNeg) 3 (mg_l G3 5 ((mg_i G3 7 6).toNatClampNeg))) (rI (fun r4 G5 => ((r4 = 0 → K (nI 0) G5) ∧ (¬ r4 = 0 → mC l κ true (d + 4) 0 0 m_X5_accept [.ref 7, .int (nI 6)] G5 (rI (fun r6 G7 => ((¬ r6 = 0 → mC l κ true (d + 4) 0 0 m_X7_named [.ref 8, .long (mg_l G7 (12 + 2 * (mg_i G 8 1).toNatClampNeg) 3)] G7 (rI (fun r8 G9 => ((r8 < 0 → mV l κ true (d + 5) 0 0 m_X5_rowTold 119 [some (.ref 7), some (.ref (12 + 2 * (mg_i G 8 1).toNatClampNeg)), some (.int (mg_i G3 4 ((mg_i G3 7 6).toNatClampNeg))), some (.int (nI 0))] [] G9 (rI K)) ∧ (¬ r8 < 0 → mC l κ true (d + 4) 0 0 m_X5_note [.ref 7, .int (nI 3), .int (mg_i G3 4 ((mg_i G3 7 6).toNatClampNeg))] G9 (rV (fun G11 => mV l κ true (d + 5) 0 0 m_X5_rowTold 119 [some (.ref 7), some (.ref (12 + 2 * (mg_i G 8 1).toNatClampNeg)), some (.int (mg_i G3 4 ((mg_i G3 7 6).toNatClampNeg))), some (.int (nI 0))] [] G11 (rI K)))))))) ∧ (r6 = 0 → K (nI 0) G7))))))))) ∧ (r2 = 0 → K (nI 0) G3))))) ∧ (¬ (mg_i G 8 1) < (nI 4) → mC l κ true (d + 4) 0 0 m_X5_refuse [.ref 7, .int (nI 2)] G (rI (fun r12 G13 => (r12 = 0 ∨ r12 = 1) ∧ K r12 G13))))) : mC l κ true (d + 5) 0 0 m_X5_rowTold [.ref 7] G (rI K) := by
  refine mC.of (by decide) (Nat.le_of_ble_eq_true rfl) [some (.ref 7), none, none, none] rfl ?_
  refine mV_aload_n (k := 0) (by decide +kernel) rfl ?_
  refine mV_gfr (r := some 8) (by decide +kernel) fk_5_12 sh_7 (mm_rrs st_7_0) rfl ?_
  refine mV_gfix (x := mg_i G 8 1) (by decide +kernel) fk_5_74 sh_8 rfl ?_
  refine mV_iconst (n := 4) (v := nI 4) (by decide +kernel) (by decide) ?_
  refine mV_icmp_lt (off := 9) (tgt := 17) (by decide +kernel) (by decide) (fun hc => ?_) (fun hc => ?_)
  · replace h := h.1 hc
    refine mV_aload_n (k := 0) (by decide +kernel) rfl ?_
    refine mV_gfr (r := some 8) (by decide +kernel) fk_5_12 sh_7 (mm_rrs st_7_0) rfl ?_
    refine mV_gfr (r := some 9) (by decide +kernel) fk_5_81 sh_8 (mm_rrs st_8_0) rfl ?_
    refine mV_aload_n (k := 0) (by decide +kernel) rfl ?_
    refine mV_gfr (r := some 8) (by decide +kernel) fk_5_12 sh_7 (mm_rrs st_7_0) rfl ?_
    refine mV_gfix (x := mg_i G 8 1) (by decide +kernel) fk_5_74 sh_8 rfl ?_
    have hj1 := h.1
    replace h := h.2
    refine mV_aal (t := 5) (r := some (12 + 2 * (mg_i G 8 1).toNatClampNeg)) (by decide +kernel) sh_9 (by decide) hj1 (mm_rrs (mm_rs8.2.2.2.2.2.2.2.1 _ (mm_ixlt hj1))) rfl ?_
    refine mV_astore_n (k := 1) (ls' := [some (.ref 7), some (.ref (12 + 2 * (mg_i G 8 1).toNatClampNeg)), none, none]) (by decide +kernel) (Nat.le_of_ble_eq_true rfl) rfl rfl ?_
    refine mV_aload_n (k := 1) (by decide +kernel) rfl ?_
    refine mV_iconst (n := 0) (v := nI 0) (by decide +kernel) (by decide) ?_
    refine mV_pfi (by decide +kernel) fk_5_85 (mm_rs8.2.2.2.2.2.2.2.2 _ (mm_ixlt hj1)).1 ?_
    refine mV_aload_n (k := 0) (by decide +kernel) rfl ?_
    refine mV_bipush (n := 36) (v := nI 36) (by decide +kernel) (by decide) ?_
    refine mV_cV (as := [.int (nI 36)]) (rest := []) (mc1 := 0) (ms1 := 0) (mc := 0) (ms := 0) (by decide +kernel) md_X5_accept lk_5_88 sh_7 rfl rfl rfl (Nat.le_of_ble_eq_true rfl) (mC.mono (mm_contI (fun r2 G3 hK => ?_)) h)
    replace h := hK
    refine mV_if_ne (off := 5) (tgt := 49) (by decide +kernel) (by decide) (fun hc => ?_) (fun hc => ?_)
    · replace h := h.1 hc
      refine mV_aload_n (k := 1) (by decide +kernel) rfl ?_
      refine mV_aload_n (k := 0) (by decide +kernel) rfl ?_
      refine mV_gfr (r := some 1) (by decide +kernel) fk_5_29 sh_7 (mm_rrs st_7_4) rfl ?_
      refine mV_gfr (r := some 5) (by decide +kernel) fk_5_91 sh_1 (mm_rrs st_1_3) rfl ?_
      refine mV_aload_n (k := 0) (by decide +kernel) rfl ?_
      refine mV_gfix (x := mg_i G3 7 6) (by decide +kernel) fk_5_49 sh_7 rfl ?_
      refine mV_lalx (x := mg_l G3 5 ((mg_i G3 7 6).toNatClampNeg)) (by decide +kernel) sh_5 h.1 rfl ?_
      replace h := h.2
      refine mV_pfl (by decide +kernel) fk_5_95 (mm_rs8.2.2.2.2.2.2.2.2 _ (mm_ixlt hj1)).1 ?_
      refine mV_aload_n (k := 0) (by decide +kernel) rfl ?_
      refine mV_gfr (r := some 1) (by decide +kernel) fk_5_29 sh_7 (mm_rrs st_7_4) rfl ?_
      refine mV_gfr (r := some 4) (by decide +kernel) fk_5_65 sh_1 (mm_rrs st_1_2) rfl ?_
      refine mV_aload_n (k := 0) (by decide +kernel) rfl ?_
      refine mV_gfix (x := mg_i G3 7 6) (by decide +kernel) fk_5_49 sh_7 rfl ?_
      refine mV_ialx (x := mg_i G3 4 ((mg_i G3 7 6).toNatClampNeg)) (by decide +kernel) sh_4 h.1 rfl ?_
      replace h := h.2
      refine mV_istore_n (k := 2) (ls' := [some (.ref 7), some (.ref (12 + 2 * (mg_i G 8 1).toNatClampNeg)), some (.int (mg_i G3 4 ((mg_i G3 7 6).toNatClampNeg))), none]) (by decide +kernel) (Nat.le_of_ble_eq_true rfl) rfl rfl ?_
      refine mV_aload_n (k := 0) (by decide +kernel) rfl ?_
      refine mV_iconst (n := 2) (v := nI 2) (by decide +kernel) (by decide) ?_
      refine mV_cV (as := [.int (nI 2)]) (rest := []) (mc1 := 0) (ms1 := 0) (mc := 0) (ms := 0) (by decide +kernel) md_X5_accept lk_5_88 sh_7 rfl rfl rfl (Nat.le_of_ble_eq_true rfl) (mC.mono (mm_contI (fun r4 G5 hK => ?_)) h)
      replace h := hK
      refine mV_if_eq (off := 12) (tgt := 95) (by decide +kernel) (by decide) (fun hc => ?_) (fun hc => ?_)
      · replace h := h.1 hc
        refine mV_iconst (n := 0) (v := nI 0) (by decide +kernel) (by decide) ?_
        exact mV_zret (by decide +kernel) rfl (by decide) h
      · replace h := h.2 hc
        refine mV_aload_n (k := 0) (by decide +kernel) rfl ?_
        refine mV_bipush (n := 6) (v := nI 6) (by decide +kernel) (by decide) ?_
        refine mV_cV (as := [.int (nI 6)]) (rest := []) (mc1 := 0) (ms1 := 0) (mc := 0) (ms := 0) (by decide +kernel) md_X5_accept lk_5_88 sh_7 rfl rfl rfl (Nat.le_of_ble_eq_true rfl) (mC.mono (mm_contI (fun r6 G7 hK => ?_)) h)
        replace h := hK
        refine mV_if_ne (off := 5) (tgt := 97) (by decide +kernel) (by decide) (fun hc => ?_) (fun hc => ?_)
        · replace h := h.1 hc
          refine mV_aload_n (k := 0) (by decide +kernel) rfl ?_
          refine mV_gfr (r := some 8) (by decide +kernel) fk_5_12 sh_7 (mm_rrs st_7_0) rfl ?_
          refine mV_aload_n (k := 1) (by decide +kernel) rfl ?_
          refine mV_gflx (x := mg_l G7 (12 + 2 * (mg_i G 8 1).toNatClampNeg) 3) (by decide +kernel) fk_5_95 (mm_rs8.2.2.2.2.2.2.2.2 _ (mm_ixlt hj1)).1 rfl ?_
          refine mV_cV (as := [.long (mg_l G7 (12 + 2 * (mg_i G 8 1).toNatClampNeg) 3)]) (rest := []) (mc1 := 0) (ms1 := 0) (mc := 0) (ms := 0) (by decide +kernel) md_X7_named lk_5_99 sh_8 rfl rfl rfl (Nat.le_of_ble_eq_true rfl) (mC.mono (mm_contI (fun r8 G9 hK => ?_)) h)
          replace h := hK
          refine mV_if_lt (off := 9) (tgt := 117) (by decide +kernel) (by decide) (fun hc => ?_) (fun hc => ?_)
          · replace h := h.1 hc
            refine mV_iconst (n := 0) (v := nI 0) (by decide +kernel) (by decide) ?_
            refine mV_istore_n (k := 3) (ls' := [some (.ref 7), some (.ref (12 + 2 * (mg_i G 8 1).toNatClampNeg)), some (.int (mg_i G3 4 ((mg_i G3 7 6).toNatClampNeg))), some (.int (nI 0))]) (by decide +kernel) (Nat.le_of_ble_eq_true rfl) rfl rfl ?_
            exact h
          · replace h := h.2 hc
            refine mV_aload_n (k := 0) (by decide +kernel) rfl ?_
            refine mV_iconst (n := 3) (v := nI 3) (by decide +kernel) (by decide) ?_
            refine mV_iload_n (k := 2) (by decide +kernel) rfl ?_
            refine mV_cV (as := [.int (nI 3), .int (mg_i G3 4 ((mg_i G3 7 6).toNatClampNeg))]) (rest := []) (mc1 := 0) (ms1 := 0) (mc := 0) (ms := 0) (by decide +kernel) md_X5_note lk_5_103 sh_7 rfl rfl rfl (Nat.le_of_ble_eq_true rfl) (mC.mono (mm_contV (fun G11 hK => ?_)) h)
            replace h := hK
            refine mV_iconst (n := 0) (v := nI 0) (by decide +kernel) (by decide) ?_
            refine mV_istore_n (k := 3) (ls' := [some (.ref 7), some (.ref (12 + 2 * (mg_i G 8 1).toNatClampNeg)), some (.int (mg_i G3 4 ((mg_i G3 7 6).toNatClampNeg))), some (.int (nI 0))]) (by decide +kernel) (Nat.le_of_ble_eq_true rfl) rfl rfl ?_
            exact h
        · replace h := h.2 hc
          refine mV_iconst (n := 0) (v := nI 0) (by decide +kernel) (by decide) ?_
          exact mV_zret (by decide +kernel) rfl (by decide) h
    · replace h := h.2 hc
      refine mV_iconst (n := 0) (v := nI 0) (by decide +kernel) (by decide) ?_
      exact mV_zret (by decide +kernel) rfl (by decide) h
  · replace h := h.2 hc
    refine mV_aload_n (k := 0) (by decide +kernel) rfl ?_
    refine mV_iconst (n := 2) (v := nI 2) (by decide +kernel) (by decide) ?_
    refine mV_cV (as := [.int (nI 2)]) (rest := []) (mc1 := 0) (ms1 := 0) (mc := 0) (ms := 0) (by decide +kernel) md_X5_refuse lk_5_77 sh_7 rfl rfl rfl (Nat.le_of_ble_eq_true rfl) (mC.mono (mm_contI (fun r12 G13 hK => ?_)) h)
    replace h := hK
    exact mV_zret (by decide +kernel) rfl h.1 h.2
set_option maxRecDepth 100000 in
set_option maxHeartbeats 4000000 in
theorem p_X5_readTape0_38 {l : Launch} {κ : mm_K} {d mc ms : Nat} {G : mm_G} {K : mm_G → Prop} (v1 : Int32) (h : (((nI 400) < v1 → vp_in (mg_i G 7 6) 401 ∧ ((¬ (mg_i G 7 2) = 0 → K (ms_i G 7 3 (mg_i G 4 ((mg_i G 7 6).toNatClampNeg)))) ∧ ((mg_i G 7 2) = 0 → K (ms_i (ms_i (ms_i G 7 3 (mg_i G 4 ((mg_i G 7 6).toNatClampNeg))) 7 2 (mg_i G 7 8)) 7 3 (mg_i G 7 9))))) ∧ (¬ (nI 400) < v1 → ((¬ (mg_i G 7 2) = 0 → vp_in (mg_i G 7 6) 401 ∧ ((¬ (mg_i G 7 2) = 0 → K (ms_i G 7 3 (mg_i G 4 ((mg_i G 7 6).toNatClampNeg)))) ∧ ((mg_i G 7 2) = 0 → K (ms_i (ms_i (ms_i G 7 3 (mg_i G 4 ((mg_i G 7 6).toNatClampNeg))) 7 2 (mg_i G 7 8)) 7 3 (mg_i G 7 9))))) ∧ ((mg_i G 7 2) = 0 → vp_in (mg_i G 7 6) 401 ∧ (((mg_i G 3 ((mg_i G 7 6).toNatClampNeg)) = 0 → vp_in (mg_i G 7 6) 401 ∧ ((¬ (mg_i G 7 2) = 0 → K (ms_i G 7 3 (mg_i G 4 ((mg_i G 7 6).toNatClampNeg)))) ∧ ((mg_i G 7 2) = 0 → K (ms_i (ms_i (ms_i G 7 3 (mg_i G 4 ((mg_i G 7 6).toNatClampNeg))) 7 2 (mg_i G 7 8)) 7 3 (mg_i G 7 9))))) ∧ (¬ (mg_i G 3 ((mg_i G 7 6).toNatClampNeg)) = 0 → vp_in (mg_i G 7 6) 401 ∧ ((((mg_i G 3 ((mg_i G 7 6).toNatClampNeg)) - (nI 20)) = nI 16 → mC l κ true (d + 5) 0 0 m_X5_rowTold [.ref 7] G (rI (fun r1 G2 => mV l κ true (d + 6) mc ms m_X5_readTape 38 [some (.ref 7), some (.int (v1 + (nI 1)))] [] G2 (rV K)))) ∧ (((mg_i G 3 ((mg_i G 7 6).toNatClampNeg)) - (nI 20)) = nI 17 → mC l κ true (d + 5) 0 0 m_X5_trialTold [.ref 7] G (rI (fun r5 G6 => mV l κ true (d + 6) mc ms m_X5_readTape 38 [some (.ref 7), some (.int (v1 + (nI 1)))] [] G6 (rV K)))) ∧ (((mg_i G 3 ((mg_i G 7 6).toNatClampNeg)) - (nI 20)) = nI 18 → mV l κ true (d + 6) mc ms m_X5_readTape 38 [some (.ref 7), some (.int (v1 + (nI 1)))] [] (ms_i G 7 2 (nI 1)) (rV K)) ∧ (((mg_i G 3 ((mg_i G 7 6).toNatClampNeg)) - (nI 20)) = nI 19 → mC l κ true (d + 5) 0 0 m_X5_fuelTold [.ref 7] G (rI (fun r7 G8 => mV l κ true (d + 6) mc ms m_X5_readTape 38 [some (.ref 7), some (.int (v1 + (nI 1)))] [] G8 (rV K)))) ∧ ((((mg_i G 3 ((mg_i G 7 6).toNatClampNeg)) - (nI 20)).toInt < 16 ∨ 19 < ((mg_i G 3 ((mg_i G 7 6).toNatClampNeg)) - (nI 20)).toInt) → mV l κ true (d + 6) mc ms m_X5_readTape 38 [some (.ref 7), some (.int (v1 + (nI 1)))] [] (ms_i G 7 2 (nI 1)) (rV K)))))))))) : mV l κ true (d + 6) mc ms m_X5_readTape 38 [some (.ref 7), some (.int v1)] [] G (rV K) := by
  refine mV_iload_n (k := 1) (by decide +kernel) rfl ?_
  refine mV_sipush (n := 400) (v := nI 400) (by decide +kernel) (by decide) ?_
  refine mV_icmp_gt (off := 105) (tgt := 147) (by decide +kernel) (by decide) (fun hc => ?_) (fun hc => ?_)
  · replace h := h.1 hc
    refine mV_aload_n (k := 0) (by decide +kernel) rfl ?_
    refine mV_aload_n (k := 0) (by decide +kernel) rfl ?_
    refine mV_gfr (r := some 1) (by decide +kernel) fk_5_29 sh_7 (mm_rrs st_7_4) rfl ?_
    refine mV_gfr (r := some 4) (by decide +kernel) fk_5_65 sh_1 (mm_rrs st_1_2) rfl ?_
    refine mV_aload_n (k := 0) (by decide +kernel) rfl ?_
    refine mV_gfix (x := mg_i G 7 6) (by decide +kernel) fk_5_49 sh_7 rfl ?_
    refine mV_ialx (x := mg_i G 4 ((mg_i G 7 6).toNatClampNeg)) (by decide +kernel) sh_4 h.1 rfl ?_
    replace h := h.2
    refine mV_pfi (by decide +kernel) fk_5_68 sh_7 ?_
    refine mV_aload_n (k := 0) (by decide +kernel) rfl ?_
    refine mV_gfix (x := mg_i G 7 2) (by decide +kernel) fk_5_42 sh_7 rfl ?_
    refine mV_if_ne (off := 19) (tgt := 186) (by decide +kernel) (by decide) (fun hc => ?_) (fun hc => ?_)
    · replace h := h.1 hc
      exact mV_vret (by decide +kernel) rfl h
    · replace h := h.2 hc
      refine mV_aload_n (k := 0) (by decide +kernel) rfl ?_
      refine mV_aload_n (k := 0) (by decide +kernel) rfl ?_
      refine mV_gfix (x := mg_i G 7 8) (by decide +kernel) fk_5_46 sh_7 rfl ?_
      refine mV_pfi (by decide +kernel) fk_5_42 sh_7 ?_
      refine mV_aload_n (k := 0) (by decide +kernel) rfl ?_
      refine mV_aload_n (k := 0) (by decide +kernel) rfl ?_
      refine mV_gfix (x := mg_i G 7 9) (by decide +kernel) fk_5_71 sh_7 rfl ?_
      refine mV_pfi (by decide +kernel) fk_5_68 sh_7 ?_
      exact mV_vret (by decide +kernel) rfl h
  · replace h := h.2 hc
    refine mV_aload_n (k := 0) (by decide +kernel) rfl ?_
    refine mV_gfix (x := mg_i G 7 2) (by decide +kernel) fk_5_42 sh_7 rfl ?_
    refine mV_if_ne (off := 98) (tgt := 147) (by decide +kernel) (by decide) (fun hc => ?_) (fun hc => ?_)
    · replace h := h.1 hc
      refine mV_aload_n (k := 0) (by decide +kernel) rfl ?_
      refine mV_aload_n (k := 0) (by decide +kernel) rfl ?_
      refine mV_gfr (r := some 1) (by decide +kernel) fk_5_29 sh_7 (mm_rrs st_7_4) rfl ?_
      refine mV_gfr (r := some 4) (by decide +kernel) fk_5_65 sh_1 (mm_rrs st_1_2) rfl ?_
      refine mV_aload_n (k := 0) (by decide +kernel) rfl ?_
      refine mV_gfix (x := mg_i G 7 6) (by decide +kernel) fk_5_49 sh_7 rfl ?_
      refine mV_ialx (x := mg_i G 4 ((mg_i G 7 6).toNatClampNeg)) (by decide +kernel) sh_4 h.1 rfl ?_
      replace h := h.2
      refine mV_pfi (by decide +kernel) fk_5_68 sh_7 ?_
      refine mV_aload_n (k := 0) (by decide +kernel) rfl ?_
      refine mV_gfix (x := mg_i G 7 2) (by decide +kernel) fk_5_42 sh_7 rfl ?_
      refine mV_if_ne (off := 19) (tgt := 186) (by decide +kernel) (by decide) (fun hc => ?_) (fun hc => ?_)
      · replace h := h.1 hc
        exact mV_vret (by decide +kernel) rfl h
      · replace h := h.2 hc
        refine mV_aload_n (k := 0) (by decide +kernel) rfl ?_
        refine mV_aload_n (k := 0) (by decide +kernel) rfl ?_
        refine mV_gfix (x := mg_i G 7 8) (by decide +kernel) fk_5_46 sh_7 rfl ?_
        refine mV_pfi (by decide +kernel) fk_5_42 sh_7 ?_
        refine mV_aload_n (k := 0) (by decide +kernel) rfl ?_
        refine mV_aload_n (k := 0) (by decide +kernel) rfl ?_
        refine mV_gfix (x := mg_i G 7 9) (by decide +kernel) fk_5_71 sh_7 rfl ?_
        refine mV_pfi (by decide +kernel) fk_5_68 sh_7 ?_
        exact mV_vret (by decide +kernel) rfl h
    · replace h := h.2 hc
      refine mV_aload_n (k := 0) (by decide +kernel) rfl ?_
      refine mV_gfr (r := some 1) (by decide +kernel) fk_5_29 sh_7 (mm_rrs st_7_4) rfl ?_
      refine mV_gfr (r := some 3) (by decide +kernel) fk_5_52 sh_1 (mm_rrs st_1_1) rfl ?_
      refine mV_aload_n (k := 0) (by decide +kernel) rfl ?_
      refine mV_gfix (x := mg_i G 7 6) (by decide +kernel) fk_5_49 sh_7 rfl ?_
      refine mV_ialx (x := mg_i G 3 ((mg_i G 7 6).toNatClampNeg)) (by decide +kernel) sh_3 h.1 rfl ?_
      replace h := h.2
      refine mV_if_eq (off := 83) (tgt := 147) (by decide +kernel) (by decide) (fun hc => ?_) (fun hc => ?_)
      · replace h := h.1 hc
        refine mV_aload_n (k := 0) (by decide +kernel) rfl ?_
        refine mV_aload_n (k := 0) (by decide +kernel) rfl ?_
        refine mV_gfr (r := some 1) (by decide +kernel) fk_5_29 sh_7 (mm_rrs st_7_4) rfl ?_
        refine mV_gfr (r := some 4) (by decide +kernel) fk_5_65 sh_1 (mm_rrs st_1_2) rfl ?_
        refine mV_aload_n (k := 0) (by decide +kernel) rfl ?_
        refine mV_gfix (x := mg_i G 7 6) (by decide +kernel) fk_5_49 sh_7 rfl ?_
        refine mV_ialx (x := mg_i G 4 ((mg_i G 7 6).toNatClampNeg)) (by decide +kernel) sh_4 h.1 rfl ?_
        replace h := h.2
        refine mV_pfi (by decide +kernel) fk_5_68 sh_7 ?_
        refine mV_aload_n (k := 0) (by decide +kernel) rfl ?_
        refine mV_gfix (x := mg_i G 7 2) (by decide +kernel) fk_5_42 sh_7 rfl ?_
        refine mV_if_ne (off := 19) (tgt := 186) (by decide +kernel) (by decide) (fun hc => ?_) (fun hc => ?_)
        · replace h := h.1 hc
          exact mV_vret (by decide +kernel) rfl h
        · replace h := h.2 hc
          refine mV_aload_n (k := 0) (by decide +kernel) rfl ?_
          refine mV_aload_n (k := 0) (by decide +kernel) rfl ?_
          refine mV_gfix (x := mg_i G 7 8) (by decide +kernel) fk_5_46 sh_7 rfl ?_
          refine mV_pfi (by decide +kernel) fk_5_42 sh_7 ?_
          refine mV_aload_n (k := 0) (by decide +kernel) rfl ?_
          refine mV_aload_n (k := 0) (by decide +kernel) rfl ?_
          refine mV_gfix (x := mg_i G 7 9) (by decide +kernel) fk_5_71 sh_7 rfl ?_
          refine mV_pfi (by decide +kernel) fk_5_68 sh_7 ?_
          exact mV_vret (by decide +kernel) rfl h
      · replace h := h.2 hc
        refine mV_aload_n (k := 0) (by decide +kernel) rfl ?_
        refine mV_gfr (r := some 1) (by decide +kernel) fk_5_29 sh_7 (mm_rrs st_7_4) rfl ?_
        refine mV_gfr (r := some 3) (by decide +kernel) fk_5_52 sh_1 (mm_rrs st_1_1) rfl ?_
        refine mV_aload_n (k := 0) (by decide +kernel) rfl ?_
        refine mV_gfix (x := mg_i G 7 6) (by decide +kernel) fk_5_49 sh_7 rfl ?_
        refine mV_ialx (x := mg_i G 3 ((mg_i G 7 6).toNatClampNeg)) (by decide +kernel) sh_3 h.1 rfl ?_
        replace h := h.2
        refine mV_bipush (n := 20) (v := nI 20) (by decide +kernel) (by decide) ?_
        refine mV_isub (by decide +kernel) ?_
        have hsw : (((mg_i G 3 ((mg_i G 7 6).toNatClampNeg)) - (nI 20)).toInt < 16 ∨ 19 < ((mg_i G 3 ((mg_i G 7 6).toNatClampNeg)) - (nI 20)).toInt) ∨ ((mg_i G 3 ((mg_i G 7 6).toNatClampNeg)) - (nI 20)).toInt = 16 ∨ ((mg_i G 3 ((mg_i G 7 6).toNatClampNeg)) - (nI 20)).toInt = 17 ∨ ((mg_i G 3 ((mg_i G 7 6).toNatClampNeg)) - (nI 20)).toInt = 18 ∨ ((mg_i G 3 ((mg_i G 7 6).toNatClampNeg)) - (nI 20)).toInt = 19 := by omega
        rcases hsw with hc | hc | hc | hc | hc
        · replace h := h.2.2.2.2 hc
          refine mV_tabOut (dflt := 54) (lo := 16) (hi := 19) (offs := #[30, 38, 54, 46]) (len := 30) (tgt := 136) (by decide +kernel) hc (by decide) ?_
          refine mV_aload_n (k := 0) (by decide +kernel) rfl ?_
          refine mV_iconst (n := 1) (v := nI 1) (by decide +kernel) (by decide) ?_
          refine mV_pfi (by decide +kernel) fk_5_42 sh_7 ?_
          refine mV_iincc (i := 1) (n := 1) (c := nI 1) (ls' := [some (.ref 7), some (.int (v1 + (nI 1)))]) (by decide +kernel) (by decide) rfl (Nat.le_of_ble_eq_true rfl) rfl rfl ?_
          refine mV_goto (off := -106) (tgt := 38) (by decide +kernel) (by decide) ?_
          exact h
        · replace h := h.1 (mm_eqI hc (by decide))
          refine mV_tabIn (dflt := 54) (lo := 16) (hi := 19) (offs := #[30, 38, 54, 46]) (len := 30) (off := 30) (tgt := 112) (by decide +kernel) (by rw [hc]; decide) (by rw [hc]; decide) (by rw [hc]; rfl) (by decide) ?_
          refine mV_aload_n (k := 0) (by decide +kernel) rfl ?_
          refine mV_bud (mc' := 0 + mc) (ms' := 0 + ms) (Nat.zero_add _) (Nat.zero_add _) ?_
          refine mV_cV (as := []) (rest := []) (mc1 := 0) (ms1 := 0) (mc := mc) (ms := ms) (by decide +kernel) md_X5_rowTold lk_5_55 sh_7 rfl rfl rfl (Nat.le_of_ble_eq_true rfl) (mC.mono (mm_contI (fun r1 G2 hK => ?_)) h)
          replace h := hK
          refine mV_pop (by decide +kernel) rfl ?_
          refine mV_goto (off := 24) (tgt := 141) (by decide +kernel) (by decide) ?_
          refine mV_iincc (i := 1) (n := 1) (c := nI 1) (ls' := [some (.ref 7), some (.int (v1 + (nI 1)))]) (by decide +kernel) (by decide) rfl (Nat.le_of_ble_eq_true rfl) rfl rfl ?_
          refine mV_goto (off := -106) (tgt := 38) (by decide +kernel) (by decide) ?_
          exact h
        · replace h := h.2.1 (mm_eqI hc (by decide))
          refine mV_tabIn (dflt := 54) (lo := 16) (hi := 19) (offs := #[30, 38, 54, 46]) (len := 30) (off := 38) (tgt := 120) (by decide +kernel) (by rw [hc]; decide) (by rw [hc]; decide) (by rw [hc]; rfl) (by decide) ?_
          refine mV_aload_n (k := 0) (by decide +kernel) rfl ?_
          refine mV_bud (mc' := 0 + mc) (ms' := 0 + ms) (Nat.zero_add _) (Nat.zero_add _) ?_
          refine mV_cV (as := []) (rest := []) (mc1 := 0) (ms1 := 0) (mc := mc) (ms := ms) (by decide +kernel) md_X5_trialTold lk_5_59 sh_7 rfl rfl rfl (Nat.le_of_ble_eq_true rfl) (mC.mono (mm_contI (fun r5 G6 hK => ?_)) h)
          replace h := hK
          refine mV_pop (by decide +kernel) rfl ?_
          refine mV_goto (off := 16) (tgt := 141) (by decide +kernel) (by decide) ?_
          refine mV_iincc (i := 1) (n := 1) (c := nI 1) (ls' := [some (.ref 7), some (.int (v1 + (nI 1)))]) (by decide +kernel) (by decide) rfl (Nat.le_of_ble_eq_true rfl) rfl rfl ?_
          refine mV_goto (off := -106) (tgt := 38) (by decide +kernel) (by decide) ?_
          exact h
        · replace h := h.2.2.1 (mm_eqI hc (by decide))
          refine mV_tabIn (dflt := 54) (lo := 16) (hi := 19) (offs := #[30, 38, 54, 46]) (len := 30) (off := 54) (tgt := 136) (by decide +kernel) (by rw [hc]; decide) (by rw [hc]; decide) (by rw [hc]; rfl) (by decide) ?_
          refine mV_aload_n (k := 0) (by decide +kernel) rfl ?_
          refine mV_iconst (n := 1) (v := nI 1) (by decide +kernel) (by decide) ?_
          refine mV_pfi (by decide +kernel) fk_5_42 sh_7 ?_
          refine mV_iincc (i := 1) (n := 1) (c := nI 1) (ls' := [some (.ref 7), some (.int (v1 + (nI 1)))]) (by decide +kernel) (by decide) rfl (Nat.le_of_ble_eq_true rfl) rfl rfl ?_
          refine mV_goto (off := -106) (tgt := 38) (by decide +kernel) (by decide) ?_
          exact h
        · replace h := h.2.2.2.1 (mm_eqI hc (by decide))
          refine mV_tabIn (dflt := 54) (lo := 16) (hi := 19) (offs := #[30, 38, 54, 46]) (len := 30) (off := 46) (tgt := 128) (by decide +kernel) (by rw [hc]; decide) (by rw [hc]; decide) (by rw [hc]; rfl) (by decide) ?_
          refine mV_aload_n (k := 0) (by decide +kernel) rfl ?_
          refine mV_bud (mc' := 0 + mc) (ms' := 0 + ms) (Nat.zero_add _) (Nat.zero_add _) ?_
          refine mV_cV (as := []) (rest := []) (mc1 := 0) (ms1 := 0) (mc := mc) (ms := ms) (by decide +kernel) md_X5_fuelTold lk_5_62 sh_7 rfl rfl rfl (Nat.le_of_ble_eq_true rfl) (mC.mono (mm_contI (fun r7 G8 hK => ?_)) h)
          replace h := hK
          refine mV_pop (by decide +kernel) rfl ?_
          refine mV_goto (off := 8) (tgt := 141) (by decide +kernel) (by decide) ?_
          refine mV_iincc (i := 1) (n := 1) (c := nI 1) (ls' := [some (.ref 7), some (.int (v1 + (nI 1)))]) (by decide +kernel) (by decide) rfl (Nat.le_of_ble_eq_true rfl) rfl rfl ?_
          refine mV_goto (off := -106) (tgt := 38) (by decide +kernel) (by decide) ?_
          exact h
