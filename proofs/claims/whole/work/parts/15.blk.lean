set_option maxRecDepth 100000 in
set_option maxHeartbeats 4000000 in
theorem e_X5_checkLabels {l : Launch} {κ : mm_K} {d : Nat} {G : mm_G} {K : mm_G → Prop} (a1 : Nat) (ha1 : RowAt a1) (h : mV l κ true (d + 1) 0 0 m_X5_checkLabels 2 [some (.ref 7), some (.ref a1), some (.int (nI 0)), none] [] G (rV K)) : mC l κ true (d + 1) 0 0 m_X5_checkLabels [.ref 7, .ref a1] G (rV K) := by
  refine mC.of (by decide) (Nat.le_of_ble_eq_true rfl) [some (.ref 7), some (.ref a1), none, none] rfl ?_
  refine mV_iconst (n := 0) (v := nI 0) (by decide +kernel) (by decide) ?_
  refine mV_istore_n (k := 2) (ls' := [some (.ref 7), some (.ref a1), some (.int (nI 0)), none]) (by decide +kernel) (Nat.le_of_ble_eq_true rfl) rfl rfl ?_
  exact h
set_option maxRecDepth 100000 in
set_option maxHeartbeats 4000000 in
theorem p_X5_checkLabels_2 {l : Launch} {κ : mm_K} {d : Nat} {G : mm_G} {K : mm_G → Prop} (a1 : Nat) (ha1 : RowAt a1) (v2 : Int32) (h : (((mg_i G a1 1) ≤ v2 → K G) ∧ (¬ (mg_i G a1 1) ≤ v2 → vp_in v2 16 ∧ ∃ t2, mg_r G (a1 + 1) v2.toNatClampNeg = some t2 ∧ LineAt t2 ∧ (((mg_i G t2 1) = (nI 6) → mC l κ true d 0 0 m_X6_where [.ref a1, .long (mg_l G t2 9), .int (nI 0)] G (rI (fun r3 G4 => ((0 ≤ r3 → mV l κ true (d + 1) 0 0 m_X5_checkLabels 2 [some (.ref 7), some (.ref a1), some (.int (v2 + (nI 1))), none] [] G4 (rV K)) ∧ (¬ 0 ≤ r3 → vp_in v2 16 ∧ mC l κ true d 0 0 m_X5_note [.ref 7, .int (nI 4), .int (mg_i G4 49 v2.toNatClampNeg)] G4 (rV (fun G6 => mV l κ true (d + 1) 0 0 m_X5_checkLabels 2 [some (.ref 7), some (.ref a1), some (.int (v2 + (nI 1))), none] [] G6 (rV K)))))))) ∧ (¬ (mg_i G t2 1) = (nI 6) → ((¬ (mg_i G t2 1) = (nI 7) → mV l κ true (d + 1) 0 0 m_X5_checkLabels 2 [some (.ref 7), some (.ref a1), some (.int (v2 + (nI 1))), none] [] G (rV K)) ∧ ((mg_i G t2 1) = (nI 7) → mC l κ true d 0 0 m_X6_where [.ref a1, .long (mg_l G t2 9), .int (nI 0)] G (rI (fun r7 G8 => ((0 ≤ r7 → mV l κ true (d + 1) 0 0 m_X5_checkLabels 2 [some (.ref 7), some (.ref a1), some (.int (v2 + (nI 1))), none] [] G8 (rV K)) ∧ (¬ 0 ≤ r7 → vp_in v2 16 ∧ mC l κ true d 0 0 m_X5_note [.ref 7, .int (nI 4), .int (mg_i G8 49 v2.toNatClampNeg)] G8 (rV (fun G10 => mV l κ true (d + 1) 0 0 m_X5_checkLabels 2 [some (.ref 7), some (.ref a1), some (.int (v2 + (nI 1))), none] [] G10 (rV K)))))))))))))) : mV l κ true (d + 1) 0 0 m_X5_checkLabels 2 [some (.ref 7), some (.ref a1), some (.int v2), none] [] G (rV K) := by
  refine mV_iload_n (k := 2) (by decide +kernel) rfl ?_
  refine mV_aload_n (k := 1) (by decide +kernel) rfl ?_
  refine mV_gfix (x := mg_i G a1 1) (by decide +kernel) fk_5_85 ha1.1 rfl ?_
  refine mV_icmp_ge (off := 57) (tgt := 64) (by decide +kernel) (by decide) (fun hc => ?_) (fun hc => ?_)
  · replace h := h.1 hc
    exact mV_vret (by decide +kernel) rfl h
  · replace h := h.2 hc
    refine mV_aload_n (k := 1) (by decide +kernel) rfl ?_
    refine mV_gfr (r := some (a1 + 1)) (by decide +kernel) fk_5_115 ha1.1 (mm_rrs ha1.2.2.1) rfl ?_
    refine mV_iload_n (k := 2) (by decide +kernel) rfl ?_
    have hj1 := h.1
    replace h := h.2
    obtain ⟨t2, hrt2, hat2, h⟩ := h
    refine mV_aal (t := 4) (r := some t2) (by decide +kernel) ha1.2.1 (by decide) hj1 ((mm_rrd (ha1.2.2.2 _ (mm_ixlt hj1))).trans hrt2) rfl ?_
    refine mV_astore_n (k := 3) (ls' := [some (.ref 7), some (.ref a1), some (.int v2), some (.ref t2)]) (by decide +kernel) (Nat.le_of_ble_eq_true rfl) rfl rfl ?_
    refine mV_aload_n (k := 3) (by decide +kernel) rfl ?_
    refine mV_gfix (x := mg_i G t2 1) (by decide +kernel) fk_5_119 hat2 rfl ?_
    refine mV_bipush (n := 6) (v := nI 6) (by decide +kernel) (by decide) ?_
    refine mV_icmp_eq (off := 12) (tgt := 35) (by decide +kernel) (by decide) (fun hc => ?_) (fun hc => ?_)
    · replace h := h.1 hc
      refine mV_aload_n (k := 1) (by decide +kernel) rfl ?_
      refine mV_aload_n (k := 3) (by decide +kernel) rfl ?_
      refine mV_gflx (x := mg_l G t2 9) (by decide +kernel) fk_5_124 hat2 rfl ?_
      refine mV_iconst (n := 0) (v := nI 0) (by decide +kernel) (by decide) ?_
      refine mV_cV (as := [.long (mg_l G t2 9), .int (nI 0)]) (rest := []) (mc1 := 0) (ms1 := 0) (mc := 0) (ms := 0) (by decide +kernel) md_X6_where lk_5_127 ha1.1 rfl rfl rfl (Nat.le_of_ble_eq_true rfl) (mC.mono (mm_contI (fun r3 G4 hK => ?_)) h)
      replace h := hK
      refine mV_if_ge (off := 14) (tgt := 58) (by decide +kernel) (by decide) (fun hc => ?_) (fun hc => ?_)
      · replace h := h.1 hc
        refine mV_iincc (i := 2) (n := 1) (c := nI 1) (ls' := [some (.ref 7), some (.ref a1), some (.int (v2 + (nI 1))), some (.ref t2)]) (by decide +kernel) (by decide) rfl (Nat.le_of_ble_eq_true rfl) rfl rfl ?_
        refine mV_goto (off := -59) (tgt := 2) (by decide +kernel) (by decide) ?_
        refine mV_fg [3] (ls' := [some (.ref 7), some (.ref a1), some (.int (v2 + (nI 1))), none]) rfl ?_
        exact h
      · replace h := h.2 hc
        refine mV_aload_n (k := 0) (by decide +kernel) rfl ?_
        refine mV_iconst (n := 4) (v := nI 4) (by decide +kernel) (by decide) ?_
        refine mV_aload_n (k := 0) (by decide +kernel) rfl ?_
        refine mV_gfr (r := some 49) (by decide +kernel) fk_5_25 sh_7 (mm_rrs st_7_5) rfl ?_
        refine mV_iload_n (k := 2) (by decide +kernel) rfl ?_
        refine mV_ialx (x := mg_i G4 49 v2.toNatClampNeg) (by decide +kernel) sh_49 h.1 rfl ?_
        replace h := h.2
        refine mV_cV (as := [.int (nI 4), .int (mg_i G4 49 v2.toNatClampNeg)]) (rest := []) (mc1 := 0) (ms1 := 0) (mc := 0) (ms := 0) (by decide +kernel) md_X5_note lk_5_103 sh_7 rfl rfl rfl (Nat.le_of_ble_eq_true rfl) (mC.mono (mm_contV (fun G6 hK => ?_)) h)
        replace h := hK
        refine mV_iincc (i := 2) (n := 1) (c := nI 1) (ls' := [some (.ref 7), some (.ref a1), some (.int (v2 + (nI 1))), some (.ref t2)]) (by decide +kernel) (by decide) rfl (Nat.le_of_ble_eq_true rfl) rfl rfl ?_
        refine mV_goto (off := -59) (tgt := 2) (by decide +kernel) (by decide) ?_
        refine mV_fg [3] (ls' := [some (.ref 7), some (.ref a1), some (.int (v2 + (nI 1))), none]) rfl ?_
        exact h
    · replace h := h.2 hc
      refine mV_aload_n (k := 3) (by decide +kernel) rfl ?_
      refine mV_gfix (x := mg_i G t2 1) (by decide +kernel) fk_5_119 hat2 rfl ?_
      refine mV_bipush (n := 7) (v := nI 7) (by decide +kernel) (by decide) ?_
      refine mV_icmp_ne (off := 26) (tgt := 58) (by decide +kernel) (by decide) (fun hc => ?_) (fun hc => ?_)
      · replace h := h.1 hc
        refine mV_iincc (i := 2) (n := 1) (c := nI 1) (ls' := [some (.ref 7), some (.ref a1), some (.int (v2 + (nI 1))), some (.ref t2)]) (by decide +kernel) (by decide) rfl (Nat.le_of_ble_eq_true rfl) rfl rfl ?_
        refine mV_goto (off := -59) (tgt := 2) (by decide +kernel) (by decide) ?_
        refine mV_fg [3] (ls' := [some (.ref 7), some (.ref a1), some (.int (v2 + (nI 1))), none]) rfl ?_
        exact h
      · replace h := h.2 hc
        refine mV_aload_n (k := 1) (by decide +kernel) rfl ?_
        refine mV_aload_n (k := 3) (by decide +kernel) rfl ?_
        refine mV_gflx (x := mg_l G t2 9) (by decide +kernel) fk_5_124 hat2 rfl ?_
        refine mV_iconst (n := 0) (v := nI 0) (by decide +kernel) (by decide) ?_
        refine mV_cV (as := [.long (mg_l G t2 9), .int (nI 0)]) (rest := []) (mc1 := 0) (ms1 := 0) (mc := 0) (ms := 0) (by decide +kernel) md_X6_where lk_5_127 ha1.1 rfl rfl rfl (Nat.le_of_ble_eq_true rfl) (mC.mono (mm_contI (fun r7 G8 hK => ?_)) h)
        replace h := hK
        refine mV_if_ge (off := 14) (tgt := 58) (by decide +kernel) (by decide) (fun hc => ?_) (fun hc => ?_)
        · replace h := h.1 hc
          refine mV_iincc (i := 2) (n := 1) (c := nI 1) (ls' := [some (.ref 7), some (.ref a1), some (.int (v2 + (nI 1))), some (.ref t2)]) (by decide +kernel) (by decide) rfl (Nat.le_of_ble_eq_true rfl) rfl rfl ?_
          refine mV_goto (off := -59) (tgt := 2) (by decide +kernel) (by decide) ?_
          refine mV_fg [3] (ls' := [some (.ref 7), some (.ref a1), some (.int (v2 + (nI 1))), none]) rfl ?_
          exact h
        · replace h := h.2 hc
          refine mV_aload_n (k := 0) (by decide +kernel) rfl ?_
          refine mV_iconst (n := 4) (v := nI 4) (by decide +kernel) (by decide) ?_
          refine mV_aload_n (k := 0) (by decide +kernel) rfl ?_
          refine mV_gfr (r := some 49) (by decide +kernel) fk_5_25 sh_7 (mm_rrs st_7_5) rfl ?_
          refine mV_iload_n (k := 2) (by decide +kernel) rfl ?_
          refine mV_ialx (x := mg_i G8 49 v2.toNatClampNeg) (by decide +kernel) sh_49 h.1 rfl ?_
          replace h := h.2
          refine mV_cV (as := [.int (nI 4), .int (mg_i G8 49 v2.toNatClampNeg)]) (rest := []) (mc1 := 0) (ms1 := 0) (mc := 0) (ms := 0) (by decide +kernel) md_X5_note lk_5_103 sh_7 rfl rfl rfl (Nat.le_of_ble_eq_true rfl) (mC.mono (mm_contV (fun G10 hK => ?_)) h)
          replace h := hK
          refine mV_iincc (i := 2) (n := 1) (c := nI 1) (ls' := [some (.ref 7), some (.ref a1), some (.int (v2 + (nI 1))), some (.ref t2)]) (by decide +kernel) (by decide) rfl (Nat.le_of_ble_eq_true rfl) rfl rfl ?_
          refine mV_goto (off := -59) (tgt := 2) (by decide +kernel) (by decide) ?_
          refine mV_fg [3] (ls' := [some (.ref 7), some (.ref a1), some (.int (v2 + (nI 1))), none]) rfl ?_
          exact h
set_option maxRecDepth 100000 in
set_option maxHeartbeats 4000000 in
theorem e_X5_lineTold {l : Launch} {κ : mm_K} {d : Nat} {G : mm_G} {K : Int32 → mm_G → Prop} (a1 : Nat) (ha1 : RowAt a1) (h : vp_in (mg_i G 7 6) 401 ∧ ((¬ (mg_i G 3 ((mg_i G 7 6).toNatClampNeg)) = (nI 2) → mV l κ true (d + 4) 1 11 m_X5_lineTold 27 [some (.ref 7), some (.ref a1), some (.int (mg_i G 7 6)), some (.int (nI 0)), none] [] G (rI K)) ∧ ((mg_i G 3 ((mg_i G 7 6).toNatClampNeg)) = (nI 2) → mV l κ true (d + 4) 1 11 m_X5_lineTold 27 [some (.ref 7), some (.ref a1), some (.int (mg_i G 7 6)), some (.int (nI 1)), none] [] G (rI K)))) : mC l κ true (d + 4) 1 11 m_X5_lineTold [.ref 7, .ref a1] G (rI K) := by
  refine mC.of (by decide) (Nat.le_of_ble_eq_true rfl) [some (.ref 7), some (.ref a1), none, none, none] rfl ?_
  refine mV_aload_n (k := 0) (by decide +kernel) rfl ?_
  refine mV_gfix (x := mg_i G 7 6) (by decide +kernel) fk_5_49 sh_7 rfl ?_
  refine mV_istore_n (k := 2) (ls' := [some (.ref 7), some (.ref a1), some (.int (mg_i G 7 6)), none, none]) (by decide +kernel) (Nat.le_of_ble_eq_true rfl) rfl rfl ?_
  refine mV_aload_n (k := 0) (by decide +kernel) rfl ?_
  refine mV_gfr (r := some 1) (by decide +kernel) fk_5_29 sh_7 (mm_rrs st_7_4) rfl ?_
  refine mV_gfr (r := some 3) (by decide +kernel) fk_5_52 sh_1 (mm_rrs st_1_1) rfl ?_
  refine mV_aload_n (k := 0) (by decide +kernel) rfl ?_
  refine mV_gfix (x := mg_i G 7 6) (by decide +kernel) fk_5_49 sh_7 rfl ?_
  refine mV_ialx (x := mg_i G 3 ((mg_i G 7 6).toNatClampNeg)) (by decide +kernel) sh_3 h.1 rfl ?_
  replace h := h.2
  refine mV_iconst (n := 2) (v := nI 2) (by decide +kernel) (by decide) ?_
  refine mV_icmp_ne (off := 7) (tgt := 25) (by decide +kernel) (by decide) (fun hc => ?_) (fun hc => ?_)
  · replace h := h.1 hc
    refine mV_iconst (n := 0) (v := nI 0) (by decide +kernel) (by decide) ?_
    refine mV_istore_n (k := 3) (ls' := [some (.ref 7), some (.ref a1), some (.int (mg_i G 7 6)), some (.int (nI 0)), none]) (by decide +kernel) (Nat.le_of_ble_eq_true rfl) rfl rfl ?_
    exact h
  · replace h := h.2 hc
    refine mV_iconst (n := 1) (v := nI 1) (by decide +kernel) (by decide) ?_
    refine mV_goto (off := 4) (tgt := 26) (by decide +kernel) (by decide) ?_
    refine mV_istore_n (k := 3) (ls' := [some (.ref 7), some (.ref a1), some (.int (mg_i G 7 6)), some (.int (nI 1)), none]) (by decide +kernel) (Nat.le_of_ble_eq_true rfl) rfl rfl ?_
    exact h
set_option maxRecDepth 100000 in
set_option maxHeartbeats 4000000 in
theorem p_X5_lineTold_27 {l : Launch} {κ : mm_K} {d mc ms : Nat} {G : mm_G} {K : Int32 → mm_G → Prop} (a1 : Nat) (ha1 : RowAt a1) (v2 : Int32) (v3 : Int32) (h : ((¬ v3 = 0 → mV l κ true (d + 4) mc ms m_X5_lineTold 55 [some (.ref 7), some (.ref a1), some (.int v2), some (.int v3), none] [] G (rI K)) ∧ (v3 = 0 → vp_in (mg_i G 7 6) 401 ∧ mC l κ true (d + 3) 0 0 m_X5_isOrder [.int (mg_i G 3 ((mg_i G 7 6).toNatClampNeg))] G (rI (fun r1 G2 => ((¬ r1 = 0 → mV l κ true (d + 4) mc ms m_X5_lineTold 55 [some (.ref 7), some (.ref a1), some (.int v2), some (.int v3), none] [] G2 (rI K)) ∧ (r1 = 0 → mC l κ true (d + 3) 0 0 m_X5_refuse [.ref 7, .int (nI 1)] G2 (rI (fun r3 G4 => (r3 = 0 ∨ r3 = 1) ∧ K r3 G4))))))))) : mV l κ true (d + 4) mc ms m_X5_lineTold 27 [some (.ref 7), some (.ref a1), some (.int v2), some (.int v3), none] [] G (rI K) := by
  refine mV_iload_n (k := 3) (by decide +kernel) rfl ?_
  refine mV_if_ne (off := 27) (tgt := 55) (by decide +kernel) (by decide) (fun hc => ?_) (fun hc => ?_)
  · replace h := h.1 hc
    exact h
  · replace h := h.2 hc
    refine mV_aload_n (k := 0) (by decide +kernel) rfl ?_
    refine mV_gfr (r := some 1) (by decide +kernel) fk_5_29 sh_7 (mm_rrs st_7_4) rfl ?_
    refine mV_gfr (r := some 3) (by decide +kernel) fk_5_52 sh_1 (mm_rrs st_1_1) rfl ?_
    refine mV_aload_n (k := 0) (by decide +kernel) rfl ?_
    refine mV_gfix (x := mg_i G 7 6) (by decide +kernel) fk_5_49 sh_7 rfl ?_
    refine mV_ialx (x := mg_i G 3 ((mg_i G 7 6).toNatClampNeg)) (by decide +kernel) sh_3 h.1 rfl ?_
    replace h := h.2
    refine mV_bud (mc' := 0 + mc) (ms' := 0 + ms) (Nat.zero_add _) (Nat.zero_add _) ?_
    refine mV_cS (as := [.int (mg_i G 3 ((mg_i G 7 6).toNatClampNeg))]) (rest := []) (mc1 := 0) (ms1 := 0) (mc := mc) (ms := ms) (by decide +kernel) md_X5_isOrder lk_5_131 rfl rfl (Nat.le_of_ble_eq_true rfl) (mC.mono (mm_contI (fun r1 G2 hK => ?_)) h)
    replace h := hK
    refine mV_if_ne (off := 9) (tgt := 55) (by decide +kernel) (by decide) (fun hc => ?_) (fun hc => ?_)
    · replace h := h.1 hc
      exact h
    · replace h := h.2 hc
      refine mV_aload_n (k := 0) (by decide +kernel) rfl ?_
      refine mV_iconst (n := 1) (v := nI 1) (by decide +kernel) (by decide) ?_
      refine mV_bud (mc' := 0 + mc) (ms' := 0 + ms) (Nat.zero_add _) (Nat.zero_add _) ?_
      refine mV_cV (as := [.int (nI 1)]) (rest := []) (mc1 := 0) (ms1 := 0) (mc := mc) (ms := ms) (by decide +kernel) md_X5_refuse lk_5_77 sh_7 rfl rfl rfl (Nat.le_of_ble_eq_true rfl) (mC.mono (mm_contI (fun r3 G4 hK => ?_)) h)
      replace h := hK
      exact mV_zret (by decide +kernel) rfl h.1 h.2
set_option maxRecDepth 100000 in
set_option maxHeartbeats 4000000 in
theorem p_X5_lineTold_55 {l : Launch} {κ : mm_K} {d mc ms : Nat} {G : mm_G} {K : Int32 → mm_G → Prop} (a1 : Nat) (ha1 : RowAt a1) (v2 : Int32) (v3 : Int32) (h : (((mg_i G a1 1) < (nI 16) → ∃ c1 s2, mc = 1 + c1 ∧ ms = 11 + s2 ∧ (285 ≤ mg_n G) ∧ mC l κ true (d + 3) 0 0 m_X1_init [.ref (mg_n G)] (mg_b G 1) (rV (fun G4 => ((v3 = 0 → mV l κ true (d + 4) c1 s2 m_X5_lineTold 118 [some (.ref 7), some (.ref a1), some (.int v2), some (.int v3), some (.ref (mg_n G))] [] G4 (rI K)) ∧ (¬ v3 = 0 → vp_in (mg_i G4 7 6) 401 ∧ mC l κ true (d + 3) 0 0 m_X5_accept [.ref 7, .int (nI 2)] (ms_l G4 (mg_n G) 0 (mg_l G4 5 ((mg_i G4 7 6).toNatClampNeg))) (rI (fun r5 G6 => ((r5 = 0 → K (nI 0) G6) ∧ (¬ r5 = 0 → mC l κ true (d + 3) 0 0 m_X5_accept [.ref 7, .int (nI 5)] G6 (rI (fun r7 G8 => ((¬ r7 = 0 → mV l κ true (d + 4) c1 s2 m_X5_lineTold 118 [some (.ref 7), some (.ref a1), some (.int v2), some (.int v3), some (.ref (mg_n G))] [] G8 (rI K)) ∧ (r7 = 0 → K (nI 0) G8))))))))))))) ∧ (¬ (mg_i G a1 1) < (nI 16) → mC l κ true (d + 3) 0 0 m_X5_refuse [.ref 7, .int (nI 2)] G (rI (fun r9 G10 => (r9 = 0 ∨ r9 = 1) ∧ K r9 G10))))) : mV l κ true (d + 4) mc ms m_X5_lineTold 55 [some (.ref 7), some (.ref a1), some (.int v2), some (.int v3), none] [] G (rI K) := by
  refine mV_aload_n (k := 1) (by decide +kernel) rfl ?_
  refine mV_gfix (x := mg_i G a1 1) (by decide +kernel) fk_5_85 ha1.1 rfl ?_
  refine mV_bipush (n := 16) (v := nI 16) (by decide +kernel) (by decide) ?_
  refine mV_icmp_lt (off := 9) (tgt := 70) (by decide +kernel) (by decide) (fun hc => ?_) (fun hc => ?_)
  · replace h := h.1 hc
    obtain ⟨c1, s2, rfl, rfl, h⟩ := h
    have h285 : 285 ≤ mg_n G := h.1
    replace h := h.2
    refine mV_new (idx := 120) (ci := 1) (N := 11) (mc := c1) (ms := s2) (by decide +kernel) (mm_t3 180 (by decide +kernel)) (mm_t3 181 (by decide +kernel)) (mm_t1 18 (by decide +kernel)) rfl (mm_sh_hi h285) (fun k => mm_st_hi h285) ?_
    refine mV_dup (by decide +kernel) rfl ?_
    refine mV_bud (mc' := 0 + c1) (ms' := 0 + s2) (Nat.zero_add _) (Nat.zero_add _) ?_
    refine mV_cIN (b := (mg_n G)) (as := []) (rest := [.ref (mg_n G)]) (mc1 := 0) (ms1 := 0) (mc := c1) (ms := s2) (by decide +kernel) md_X1_init rfl lk_5_134 rfl rfl (Nat.le_of_ble_eq_true rfl) (mC.mono (mm_contV (fun G4 hK => ?_)) h)
    replace h := hK
    refine mV_astore (i := 4) (ls' := [some (.ref 7), some (.ref a1), some (.int v2), some (.int v3), some (.ref (mg_n G))]) (by decide +kernel) (Nat.le_of_ble_eq_true rfl) rfl rfl ?_
    refine mV_iload_n (k := 3) (by decide +kernel) rfl ?_
    refine mV_if_eq (off := 38) (tgt := 118) (by decide +kernel) (by decide) (fun hc => ?_) (fun hc => ?_)
    · replace h := h.1 hc
      exact h
    · replace h := h.2 hc
      refine mV_aload (i := 4) (by decide +kernel) rfl ?_
      refine mV_aload_n (k := 0) (by decide +kernel) rfl ?_
      refine mV_gfr (r := some 1) (by decide +kernel) fk_5_29 sh_7 (mm_rrs st_7_4) rfl ?_
      refine mV_gfr (r := some 5) (by decide +kernel) fk_5_91 sh_1 (mm_rrs st_1_3) rfl ?_
      refine mV_aload_n (k := 0) (by decide +kernel) rfl ?_
      refine mV_gfix (x := mg_i G4 7 6) (by decide +kernel) fk_5_49 sh_7 rfl ?_
      refine mV_lalx (x := mg_l G4 5 ((mg_i G4 7 6).toNatClampNeg)) (by decide +kernel) sh_5 h.1 rfl ?_
      replace h := h.2
      refine mV_pfl (by decide +kernel) fk_5_135 (mm_sh_hi h285) ?_
      refine mV_aload_n (k := 0) (by decide +kernel) rfl ?_
      refine mV_iconst (n := 2) (v := nI 2) (by decide +kernel) (by decide) ?_
      refine mV_bud (mc' := 0 + c1) (ms' := 0 + s2) (Nat.zero_add _) (Nat.zero_add _) ?_
      refine mV_cV (as := [.int (nI 2)]) (rest := []) (mc1 := 0) (ms1 := 0) (mc := c1) (ms := s2) (by decide +kernel) md_X5_accept lk_5_88 sh_7 rfl rfl rfl (Nat.le_of_ble_eq_true rfl) (mC.mono (mm_contI (fun r5 G6 hK => ?_)) h)
      replace h := hK
      refine mV_if_eq (off := 11) (tgt := 116) (by decide +kernel) (by decide) (fun hc => ?_) (fun hc => ?_)
      · replace h := h.1 hc
        refine mV_iconst (n := 0) (v := nI 0) (by decide +kernel) (by decide) ?_
        exact mV_zret (by decide +kernel) rfl (by decide) h
      · replace h := h.2 hc
        refine mV_aload_n (k := 0) (by decide +kernel) rfl ?_
        refine mV_iconst (n := 5) (v := nI 5) (by decide +kernel) (by decide) ?_
        refine mV_bud (mc' := 0 + c1) (ms' := 0 + s2) (Nat.zero_add _) (Nat.zero_add _) ?_
        refine mV_cV (as := [.int (nI 5)]) (rest := []) (mc1 := 0) (ms1 := 0) (mc := c1) (ms := s2) (by decide +kernel) md_X5_accept lk_5_88 sh_7 rfl rfl rfl (Nat.le_of_ble_eq_true rfl) (mC.mono (mm_contI (fun r7 G8 hK => ?_)) h)
        replace h := hK
        refine mV_if_ne (off := 5) (tgt := 118) (by decide +kernel) (by decide) (fun hc => ?_) (fun hc => ?_)
        · replace h := h.1 hc
          exact h
        · replace h := h.2 hc
          refine mV_iconst (n := 0) (v := nI 0) (by decide +kernel) (by decide) ?_
          exact mV_zret (by decide +kernel) rfl (by decide) h
  · replace h := h.2 hc
    refine mV_aload_n (k := 0) (by decide +kernel) rfl ?_
    refine mV_iconst (n := 2) (v := nI 2) (by decide +kernel) (by decide) ?_
    refine mV_bud (mc' := 0 + mc) (ms' := 0 + ms) (Nat.zero_add _) (Nat.zero_add _) ?_
    refine mV_cV (as := [.int (nI 2)]) (rest := []) (mc1 := 0) (ms1 := 0) (mc := mc) (ms := ms) (by decide +kernel) md_X5_refuse lk_5_77 sh_7 rfl rfl rfl (Nat.le_of_ble_eq_true rfl) (mC.mono (mm_contI (fun r9 G10 hK => ?_)) h)
    replace h := hK
    exact mV_zret (by decide +kernel) rfl h.1 h.2
set_option maxRecDepth 100000 in
set_option maxHeartbeats 4000000 in
theorem p_X5_lineTold_118 {l : Launch} {κ : mm_K} {d mc ms : Nat} {G : mm_G} {K : Int32 → mm_G → Prop} (a1 : Nat) (ha1 : RowAt a1) (v2 : Int32) (v3 : Int32) (v4 : Nat) (hv4 : LineAt v4) (h : mC l κ true (d + 3) 0 0 m_X5_orderTold [.ref 7, .ref v4, .int (mg_i G a1 1)] G (rI (fun r1 G2 => ((¬ r1 = 0 → mC l κ true (d + 3) 0 0 m_X6_insert [.ref a1, .ref v4, .int (mg_i (ms_i G2 v4 2 ((mg_i G2 7 6) - v2)) a1 1)] (ms_i G2 v4 2 ((mg_i G2 7 6) - v2)) (rV (fun G4 => mC l κ true (d + 3) 0 0 m_X5_accept [.ref 7, .int (nI 4)] G4 (rI (fun r5 G6 => (r5 = 0 ∨ r5 = 1) ∧ K r5 G6))))) ∧ (r1 = 0 → K (nI 0) G2))))) : mV l κ true (d + 4) mc ms m_X5_lineTold 118 [some (.ref 7), some (.ref a1), some (.int v2), some (.int v3), some (.ref v4)] [] G (rI K) := by
  refine mV_aload_n (k := 0) (by decide +kernel) rfl ?_
  refine mV_aload (i := 4) (by decide +kernel) rfl ?_
  refine mV_aload_n (k := 1) (by decide +kernel) rfl ?_
  refine mV_gfix (x := mg_i G a1 1) (by decide +kernel) fk_5_85 ha1.1 rfl ?_
  refine mV_bud (mc' := 0 + mc) (ms' := 0 + ms) (Nat.zero_add _) (Nat.zero_add _) ?_
  refine mV_cV (as := [.ref v4, .int (mg_i G a1 1)]) (rest := []) (mc1 := 0) (ms1 := 0) (mc := mc) (ms := ms) (by decide +kernel) md_X5_orderTold lk_5_136 sh_7 rfl rfl rfl (Nat.le_of_ble_eq_true rfl) (mC.mono (mm_contI (fun r1 G2 hK => ?_)) h)
  replace h := hK
  refine mV_if_ne (off := 5) (tgt := 133) (by decide +kernel) (by decide) (fun hc => ?_) (fun hc => ?_)
  · replace h := h.1 hc
    refine mV_aload (i := 4) (by decide +kernel) rfl ?_
    refine mV_aload_n (k := 0) (by decide +kernel) rfl ?_
    refine mV_gfix (x := mg_i G2 7 6) (by decide +kernel) fk_5_49 sh_7 rfl ?_
    refine mV_iload_n (k := 2) (by decide +kernel) rfl ?_
    refine mV_isub (by decide +kernel) ?_
    refine mV_pfi (by decide +kernel) fk_5_140 hv4 ?_
    refine mV_aload_n (k := 1) (by decide +kernel) rfl ?_
    refine mV_aload (i := 4) (by decide +kernel) rfl ?_
    refine mV_aload_n (k := 1) (by decide +kernel) rfl ?_
    refine mV_gfix (x := mg_i (ms_i G2 v4 2 ((mg_i G2 7 6) - v2)) a1 1) (by decide +kernel) fk_5_85 ha1.1 rfl ?_
    refine mV_bud (mc' := 0 + mc) (ms' := 0 + ms) (Nat.zero_add _) (Nat.zero_add _) ?_
    refine mV_cV (as := [.ref v4, .int (mg_i (ms_i G2 v4 2 ((mg_i G2 7 6) - v2)) a1 1)]) (rest := []) (mc1 := 0) (ms1 := 0) (mc := mc) (ms := ms) (by decide +kernel) md_X6_insert lk_5_142 ha1.1 rfl rfl rfl (Nat.le_of_ble_eq_true rfl) (mC.mono (mm_contV (fun G4 hK => ?_)) h)
    replace h := hK
    refine mV_aload_n (k := 0) (by decide +kernel) rfl ?_
    refine mV_iconst (n := 4) (v := nI 4) (by decide +kernel) (by decide) ?_
    refine mV_bud (mc' := 0 + mc) (ms' := 0 + ms) (Nat.zero_add _) (Nat.zero_add _) ?_
    refine mV_cV (as := [.int (nI 4)]) (rest := []) (mc1 := 0) (ms1 := 0) (mc := mc) (ms := ms) (by decide +kernel) md_X5_accept lk_5_88 sh_7 rfl rfl rfl (Nat.le_of_ble_eq_true rfl) (mC.mono (mm_contI (fun r5 G6 hK => ?_)) h)
    replace h := hK
    exact mV_zret (by decide +kernel) rfl h.1 h.2
  · replace h := h.2 hc
    refine mV_iconst (n := 0) (v := nI 0) (by decide +kernel) (by decide) ?_
    exact mV_zret (by decide +kernel) rfl (by decide) h
set_option maxRecDepth 100000 in
set_option maxHeartbeats 4000000 in
theorem e_X5_isOrder {l : Launch} {κ : mm_K} {d : Nat} {G : mm_G} {K : Int32 → mm_G → Prop} (a1 : Int32) (h : ((a1 < (nI 20) → K (nI 0) G) ∧ (¬ a1 < (nI 20) → (((nI 30) < a1 → K (nI 0) G) ∧ (¬ (nI 30) < a1 → K (nI 1) G))))) : mC l κ true d 0 0 m_X5_isOrder [.int a1] G (rI K) := by
  refine mC.of (by decide) (Nat.le_of_ble_eq_true rfl) [some (.int a1)] rfl ?_
  refine mV_iload_n (k := 0) (by decide +kernel) rfl ?_
  refine mV_bipush (n := 20) (v := nI 20) (by decide +kernel) (by decide) ?_
  refine mV_icmp_lt (off := 13) (tgt := 16) (by decide +kernel) (by decide) (fun hc => ?_) (fun hc => ?_)
  · replace h := h.1 hc
    refine mV_iconst (n := 0) (v := nI 0) (by decide +kernel) (by decide) ?_
    exact mV_zret (by decide +kernel) rfl (by decide) h
  · replace h := h.2 hc
    refine mV_iload_n (k := 0) (by decide +kernel) rfl ?_
    refine mV_bipush (n := 30) (v := nI 30) (by decide +kernel) (by decide) ?_
    refine mV_icmp_gt (off := 7) (tgt := 16) (by decide +kernel) (by decide) (fun hc => ?_) (fun hc => ?_)
    · replace h := h.1 hc
      refine mV_iconst (n := 0) (v := nI 0) (by decide +kernel) (by decide) ?_
      exact mV_zret (by decide +kernel) rfl (by decide) h
    · replace h := h.2 hc
      refine mV_iconst (n := 1) (v := nI 1) (by decide +kernel) (by decide) ?_
      refine mV_goto (off := 4) (tgt := 17) (by decide +kernel) (by decide) ?_
      exact mV_zret (by decide +kernel) rfl (by decide) h
set_option maxRecDepth 100000 in
set_option maxHeartbeats 4000000 in
theorem e_X5_orderTold {l : Launch} {κ : mm_K} {d : Nat} {G : mm_G} {K : Int32 → mm_G → Prop} (a1 : Nat) (ha1 : LineAt a1) (a2 : Int32) (h : vp_in (mg_i G 7 6) 401 ∧ mC l κ true (d + 2) 0 0 m_X5_isOrder [.int (mg_i G 3 ((mg_i G 7 6).toNatClampNeg))] G (rI (fun r1 G2 => ((¬ r1 = 0 → vp_in (mg_i G2 7 6) 401 ∧ vp_in (mg_i (ms_i G2 a1 1 ((mg_i G2 3 ((mg_i G2 7 6).toNatClampNeg)) - (nI 20))) 7 6) 401 ∧ mC l κ true (d + 2) 0 0 m_X5_accept [.ref 7, .int (mg_i (ms_i G2 a1 1 ((mg_i G2 3 ((mg_i G2 7 6).toNatClampNeg)) - (nI 20))) 3 ((mg_i (ms_i G2 a1 1 ((mg_i G2 3 ((mg_i G2 7 6).toNatClampNeg)) - (nI 20))) 7 6).toNatClampNeg))] (ms_i G2 a1 1 ((mg_i G2 3 ((mg_i G2 7 6).toNatClampNeg)) - (nI 20))) (rI (fun r3 G4 => ((¬ r3 = 0 → (((mg_i G4 a1 1) = nI 5 → mC l κ true (d + 2) 0 0 m_X5_valueTold [.ref 7, .ref a1, .int (nI 0)] G4 (rI (fun r9 G10 => (r9 = 0 ∨ r9 = 1) ∧ K r9 G10))) ∧ ((mg_i G4 a1 1) = nI 6 → mC l κ true (d + 2) 0 0 m_X5_labelTold [.ref 7, .ref a1, .int a2] G4 (rI (fun r11 G12 => (r11 = 0 ∨ r11 = 1) ∧ K r11 G12))) ∧ ((mg_i G4 a1 1) = nI 7 → mC l κ true (d + 2) 0 0 m_X5_valueTold [.ref 7, .ref a1, .int (nI 1)] G4 (rI (fun r13 G14 => ((r13 = 0 → K (nI 0) G14) ∧ (¬ r13 = 0 → mC l κ true (d + 2) 0 0 m_X5_testTold [.ref 7, .ref a1] G14 (rI (fun r15 G16 => ((r15 = 0 → K (nI 0) G16) ∧ (¬ r15 = 0 → mC l κ true (d + 2) 0 0 m_X5_valueTold [.ref 7, .ref a1, .int (nI 0)] G16 (rI (fun r17 G18 => ((r17 = 0 → K (nI 0) G18) ∧ (¬ r17 = 0 → mC l κ true (d + 2) 0 0 m_X5_labelTold [.ref 7, .ref a1, .int a2] G18 (rI (fun r19 G20 => ((r19 = 0 → K (nI 0) G20) ∧ (¬ r19 = 0 → K (nI 1) G20))))))))))))))))) ∧ ((mg_i G4 a1 1) = nI 8 → mC l κ true (d + 2) 0 0 m_X5_calledTold [.ref 7, .ref a1] G4 (rI (fun r21 G22 => (r21 = 0 ∨ r21 = 1) ∧ K r21 G22))) ∧ ((mg_i G4 a1 1) = nI 9 → K (nI 1) G4) ∧ ((mg_i G4 a1 1) = nI 10 → K (nI 1) G4) ∧ (((mg_i G4 a1 1).toInt < 5 ∨ 10 < (mg_i G4 a1 1).toInt) → mC l κ true (d + 2) 0 0 m_X5_counterTold [.ref 7, .ref a1] G4 (rI (fun r5 G6 => ((r5 = 0 → K (nI 0) G6) ∧ (¬ r5 = 0 → mC l κ true (d + 2) 0 0 m_X5_valueTold [.ref 7, .ref a1, .int (nI 0)] G6 (rI (fun r7 G8 => ((r7 = 0 → K (nI 0) G8) ∧ (¬ r7 = 0 → K (nI 1) G8))))))))))) ∧ (r3 = 0 → K (nI 0) G4))))) ∧ (r1 = 0 → mC l κ true (d + 2) 0 0 m_X5_refuse [.ref 7, .int (nI 1)] G2 (rI (fun r23 G24 => (r23 = 0 ∨ r23 = 1) ∧ K r23 G24))))))) : mC l κ true (d + 3) 0 0 m_X5_orderTold [.ref 7, .ref a1, .int a2] G (rI K) := by
  refine mC.of (by decide) (Nat.le_of_ble_eq_true rfl) [some (.ref 7), some (.ref a1), some (.int a2)] rfl ?_
  refine mV_aload_n (k := 0) (by decide +kernel) rfl ?_
  refine mV_gfr (r := some 1) (by decide +kernel) fk_5_29 sh_7 (mm_rrs st_7_4) rfl ?_
  refine mV_gfr (r := some 3) (by decide +kernel) fk_5_52 sh_1 (mm_rrs st_1_1) rfl ?_
  refine mV_aload_n (k := 0) (by decide +kernel) rfl ?_
  refine mV_gfix (x := mg_i G 7 6) (by decide +kernel) fk_5_49 sh_7 rfl ?_
  refine mV_ialx (x := mg_i G 3 ((mg_i G 7 6).toNatClampNeg)) (by decide +kernel) sh_3 h.1 rfl ?_
  replace h := h.2
  refine mV_cS (as := [.int (mg_i G 3 ((mg_i G 7 6).toNatClampNeg))]) (rest := []) (mc1 := 0) (ms1 := 0) (mc := 0) (ms := 0) (by decide +kernel) md_X5_isOrder lk_5_131 rfl rfl (Nat.le_of_ble_eq_true rfl) (mC.mono (mm_contI (fun r1 G2 hK => ?_)) h)
  replace h := hK
  refine mV_if_ne (off := 9) (tgt := 24) (by decide +kernel) (by decide) (fun hc => ?_) (fun hc => ?_)
  · replace h := h.1 hc
    refine mV_aload_n (k := 1) (by decide +kernel) rfl ?_
    refine mV_aload_n (k := 0) (by decide +kernel) rfl ?_
    refine mV_gfr (r := some 1) (by decide +kernel) fk_5_29 sh_7 (mm_rrs st_7_4) rfl ?_
    refine mV_gfr (r := some 3) (by decide +kernel) fk_5_52 sh_1 (mm_rrs st_1_1) rfl ?_
    refine mV_aload_n (k := 0) (by decide +kernel) rfl ?_
    refine mV_gfix (x := mg_i G2 7 6) (by decide +kernel) fk_5_49 sh_7 rfl ?_
    refine mV_ialx (x := mg_i G2 3 ((mg_i G2 7 6).toNatClampNeg)) (by decide +kernel) sh_3 h.1 rfl ?_
    replace h := h.2
    refine mV_bipush (n := 20) (v := nI 20) (by decide +kernel) (by decide) ?_
    refine mV_isub (by decide +kernel) ?_
    refine mV_pfi (by decide +kernel) fk_5_119 ha1 ?_
    refine mV_aload_n (k := 0) (by decide +kernel) rfl ?_
    refine mV_aload_n (k := 0) (by decide +kernel) rfl ?_
    refine mV_gfr (r := some 1) (by decide +kernel) fk_5_29 sh_7 (mm_rrs st_7_4) rfl ?_
    refine mV_gfr (r := some 3) (by decide +kernel) fk_5_52 sh_1 (mm_rrs st_1_1) rfl ?_
    refine mV_aload_n (k := 0) (by decide +kernel) rfl ?_
    refine mV_gfix (x := mg_i (ms_i G2 a1 1 ((mg_i G2 3 ((mg_i G2 7 6).toNatClampNeg)) - (nI 20))) 7 6) (by decide +kernel) fk_5_49 sh_7 rfl ?_
    refine mV_ialx (x := mg_i (ms_i G2 a1 1 ((mg_i G2 3 ((mg_i G2 7 6).toNatClampNeg)) - (nI 20))) 3 ((mg_i (ms_i G2 a1 1 ((mg_i G2 3 ((mg_i G2 7 6).toNatClampNeg)) - (nI 20))) 7 6).toNatClampNeg)) (by decide +kernel) sh_3 h.1 rfl ?_
    replace h := h.2
    refine mV_cV (as := [.int (mg_i (ms_i G2 a1 1 ((mg_i G2 3 ((mg_i G2 7 6).toNatClampNeg)) - (nI 20))) 3 ((mg_i (ms_i G2 a1 1 ((mg_i G2 3 ((mg_i G2 7 6).toNatClampNeg)) - (nI 20))) 7 6).toNatClampNeg))]) (rest := []) (mc1 := 0) (ms1 := 0) (mc := 0) (ms := 0) (by decide +kernel) md_X5_accept lk_5_88 sh_7 rfl rfl rfl (Nat.le_of_ble_eq_true rfl) (mC.mono (mm_contI (fun r3 G4 hK => ?_)) h)
    replace h := hK
    refine mV_if_ne (off := 5) (tgt := 64) (by decide +kernel) (by decide) (fun hc => ?_) (fun hc => ?_)
    · replace h := h.1 hc
      refine mV_aload_n (k := 1) (by decide +kernel) rfl ?_
      refine mV_gfix (x := mg_i G4 a1 1) (by decide +kernel) fk_5_119 ha1 rfl ?_
      have hsw : ((mg_i G4 a1 1).toInt < 5 ∨ 10 < (mg_i G4 a1 1).toInt) ∨ (mg_i G4 a1 1).toInt = 5 ∨ (mg_i G4 a1 1).toInt = 6 ∨ (mg_i G4 a1 1).toInt = 7 ∨ (mg_i G4 a1 1).toInt = 8 ∨ (mg_i G4 a1 1).toInt = 9 ∨ (mg_i G4 a1 1).toInt = 10 := by omega
      rcases hsw with hc | hc | hc | hc | hc | hc | hc
      · replace h := h.2.2.2.2.2.2 hc
        refine mV_tabOut (dflt := 103) (lo := 5) (hi := 10) (offs := #[40, 47, 54, 95, 101, 101]) (len := 40) (tgt := 171) (by decide +kernel) hc (by decide) ?_
        refine mV_aload_n (k := 0) (by decide +kernel) rfl ?_
        refine mV_aload_n (k := 1) (by decide +kernel) rfl ?_
        refine mV_cV (as := [.ref a1]) (rest := []) (mc1 := 0) (ms1 := 0) (mc := 0) (ms := 0) (by decide +kernel) md_X5_counterTold lk_5_160 sh_7 rfl rfl rfl (Nat.le_of_ble_eq_true rfl) (mC.mono (mm_contI (fun r5 G6 hK => ?_)) h)
        replace h := hK
        refine mV_if_eq (off := 16) (tgt := 192) (by decide +kernel) (by decide) (fun hc => ?_) (fun hc => ?_)
        · replace h := h.1 hc
          refine mV_iconst (n := 0) (v := nI 0) (by decide +kernel) (by decide) ?_
          exact mV_zret (by decide +kernel) rfl (by decide) h
        · replace h := h.2 hc
          refine mV_aload_n (k := 0) (by decide +kernel) rfl ?_
          refine mV_aload_n (k := 1) (by decide +kernel) rfl ?_
          refine mV_iconst (n := 0) (v := nI 0) (by decide +kernel) (by decide) ?_
          refine mV_cV (as := [.ref a1, .int (nI 0)]) (rest := []) (mc1 := 0) (ms1 := 0) (mc := 0) (ms := 0) (by decide +kernel) md_X5_valueTold lk_5_146 sh_7 rfl rfl rfl (Nat.le_of_ble_eq_true rfl) (mC.mono (mm_contI (fun r7 G8 hK => ?_)) h)
          replace h := hK
          refine mV_if_eq (off := 7) (tgt := 192) (by decide +kernel) (by decide) (fun hc => ?_) (fun hc => ?_)
          · replace h := h.1 hc
            refine mV_iconst (n := 0) (v := nI 0) (by decide +kernel) (by decide) ?_
            exact mV_zret (by decide +kernel) rfl (by decide) h
          · replace h := h.2 hc
            refine mV_iconst (n := 1) (v := nI 1) (by decide +kernel) (by decide) ?_
            refine mV_goto (off := 4) (tgt := 193) (by decide +kernel) (by decide) ?_
            exact mV_zret (by decide +kernel) rfl (by decide) h
      · replace h := h.1 (mm_eqI hc (by decide))
        refine mV_tabIn (dflt := 103) (lo := 5) (hi := 10) (offs := #[40, 47, 54, 95, 101, 101]) (len := 40) (off := 40) (tgt := 108) (by decide +kernel) (by rw [hc]; decide) (by rw [hc]; decide) (by rw [hc]; rfl) (by decide) ?_
        refine mV_aload_n (k := 0) (by decide +kernel) rfl ?_
        refine mV_aload_n (k := 1) (by decide +kernel) rfl ?_
        refine mV_iconst (n := 0) (v := nI 0) (by decide +kernel) (by decide) ?_
        refine mV_cV (as := [.ref a1, .int (nI 0)]) (rest := []) (mc1 := 0) (ms1 := 0) (mc := 0) (ms := 0) (by decide +kernel) md_X5_valueTold lk_5_146 sh_7 rfl rfl rfl (Nat.le_of_ble_eq_true rfl) (mC.mono (mm_contI (fun r9 G10 hK => ?_)) h)
        replace h := hK
        exact mV_zret (by decide +kernel) rfl h.1 h.2
      · replace h := h.2.1 (mm_eqI hc (by decide))
        refine mV_tabIn (dflt := 103) (lo := 5) (hi := 10) (offs := #[40, 47, 54, 95, 101, 101]) (len := 40) (off := 47) (tgt := 115) (by decide +kernel) (by rw [hc]; decide) (by rw [hc]; decide) (by rw [hc]; rfl) (by decide) ?_
        refine mV_aload_n (k := 0) (by decide +kernel) rfl ?_
        refine mV_aload_n (k := 1) (by decide +kernel) rfl ?_
        refine mV_iload_n (k := 2) (by decide +kernel) rfl ?_
        refine mV_cV (as := [.ref a1, .int a2]) (rest := []) (mc1 := 0) (ms1 := 0) (mc := 0) (ms := 0) (by decide +kernel) md_X5_labelTold lk_5_150 sh_7 rfl rfl rfl (Nat.le_of_ble_eq_true rfl) (mC.mono (mm_contI (fun r11 G12 hK => ?_)) h)
        replace h := hK
        exact mV_zret (by decide +kernel) rfl h.1 h.2
      · replace h := h.2.2.1 (mm_eqI hc (by decide))
        refine mV_tabIn (dflt := 103) (lo := 5) (hi := 10) (offs := #[40, 47, 54, 95, 101, 101]) (len := 40) (off := 54) (tgt := 122) (by decide +kernel) (by rw [hc]; decide) (by rw [hc]; decide) (by rw [hc]; rfl) (by decide) ?_
        refine mV_aload_n (k := 0) (by decide +kernel) rfl ?_
        refine mV_aload_n (k := 1) (by decide +kernel) rfl ?_
        refine mV_iconst (n := 1) (v := nI 1) (by decide +kernel) (by decide) ?_
        refine mV_cV (as := [.ref a1, .int (nI 1)]) (rest := []) (mc1 := 0) (ms1 := 0) (mc := 0) (ms := 0) (by decide +kernel) md_X5_valueTold lk_5_146 sh_7 rfl rfl rfl (Nat.le_of_ble_eq_true rfl) (mC.mono (mm_contI (fun r13 G14 hK => ?_)) h)
        replace h := hK
        refine mV_if_eq (off := 33) (tgt := 161) (by decide +kernel) (by decide) (fun hc => ?_) (fun hc => ?_)
        · replace h := h.1 hc
          refine mV_iconst (n := 0) (v := nI 0) (by decide +kernel) (by decide) ?_
          exact mV_zret (by decide +kernel) rfl (by decide) h
        · replace h := h.2 hc
          refine mV_aload_n (k := 0) (by decide +kernel) rfl ?_
          refine mV_aload_n (k := 1) (by decide +kernel) rfl ?_
          refine mV_cV (as := [.ref a1]) (rest := []) (mc1 := 0) (ms1 := 0) (mc := 0) (ms := 0) (by decide +kernel) md_X5_testTold lk_5_153 sh_7 rfl rfl rfl (Nat.le_of_ble_eq_true rfl) (mC.mono (mm_contI (fun r15 G16 hK => ?_)) h)
          replace h := hK
          refine mV_if_eq (off := 25) (tgt := 161) (by decide +kernel) (by decide) (fun hc => ?_) (fun hc => ?_)
          · replace h := h.1 hc
            refine mV_iconst (n := 0) (v := nI 0) (by decide +kernel) (by decide) ?_
            exact mV_zret (by decide +kernel) rfl (by decide) h
          · replace h := h.2 hc
            refine mV_aload_n (k := 0) (by decide +kernel) rfl ?_
            refine mV_aload_n (k := 1) (by decide +kernel) rfl ?_
            refine mV_iconst (n := 0) (v := nI 0) (by decide +kernel) (by decide) ?_
            refine mV_cV (as := [.ref a1, .int (nI 0)]) (rest := []) (mc1 := 0) (ms1 := 0) (mc := 0) (ms := 0) (by decide +kernel) md_X5_valueTold lk_5_146 sh_7 rfl rfl rfl (Nat.le_of_ble_eq_true rfl) (mC.mono (mm_contI (fun r17 G18 hK => ?_)) h)
            replace h := hK
            refine mV_if_eq (off := 16) (tgt := 161) (by decide +kernel) (by decide) (fun hc => ?_) (fun hc => ?_)
            · replace h := h.1 hc
              refine mV_iconst (n := 0) (v := nI 0) (by decide +kernel) (by decide) ?_
              exact mV_zret (by decide +kernel) rfl (by decide) h
            · replace h := h.2 hc
              refine mV_aload_n (k := 0) (by decide +kernel) rfl ?_
              refine mV_aload_n (k := 1) (by decide +kernel) rfl ?_
              refine mV_iload_n (k := 2) (by decide +kernel) rfl ?_
              refine mV_cV (as := [.ref a1, .int a2]) (rest := []) (mc1 := 0) (ms1 := 0) (mc := 0) (ms := 0) (by decide +kernel) md_X5_labelTold lk_5_150 sh_7 rfl rfl rfl (Nat.le_of_ble_eq_true rfl) (mC.mono (mm_contI (fun r19 G20 hK => ?_)) h)
              replace h := hK
              refine mV_if_eq (off := 7) (tgt := 161) (by decide +kernel) (by decide) (fun hc => ?_) (fun hc => ?_)
              · replace h := h.1 hc
                refine mV_iconst (n := 0) (v := nI 0) (by decide +kernel) (by decide) ?_
                exact mV_zret (by decide +kernel) rfl (by decide) h
              · replace h := h.2 hc
                refine mV_iconst (n := 1) (v := nI 1) (by decide +kernel) (by decide) ?_
                refine mV_goto (off := 4) (tgt := 162) (by decide +kernel) (by decide) ?_
                exact mV_zret (by decide +kernel) rfl (by decide) h
      · replace h := h.2.2.2.1 (mm_eqI hc (by decide))
        refine mV_tabIn (dflt := 103) (lo := 5) (hi := 10) (offs := #[40, 47, 54, 95, 101, 101]) (len := 40) (off := 95) (tgt := 163) (by decide +kernel) (by rw [hc]; decide) (by rw [hc]; decide) (by rw [hc]; rfl) (by decide) ?_
        refine mV_aload_n (k := 0) (by decide +kernel) rfl ?_
        refine mV_aload_n (k := 1) (by decide +kernel) rfl ?_
        refine mV_cV (as := [.ref a1]) (rest := []) (mc1 := 0) (ms1 := 0) (mc := 0) (ms := 0) (by decide +kernel) md_X5_calledTold lk_5_157 sh_7 rfl rfl rfl (Nat.le_of_ble_eq_true rfl) (mC.mono (mm_contI (fun r21 G22 hK => ?_)) h)
        replace h := hK
        exact mV_zret (by decide +kernel) rfl h.1 h.2
      · replace h := h.2.2.2.2.1 (mm_eqI hc (by decide))
        refine mV_tabIn (dflt := 103) (lo := 5) (hi := 10) (offs := #[40, 47, 54, 95, 101, 101]) (len := 40) (off := 101) (tgt := 169) (by decide +kernel) (by rw [hc]; decide) (by rw [hc]; decide) (by rw [hc]; rfl) (by decide) ?_
        refine mV_iconst (n := 1) (v := nI 1) (by decide +kernel) (by decide) ?_
        exact mV_zret (by decide +kernel) rfl (by decide) h
      · replace h := h.2.2.2.2.2.1 (mm_eqI hc (by decide))
        refine mV_tabIn (dflt := 103) (lo := 5) (hi := 10) (offs := #[40, 47, 54, 95, 101, 101]) (len := 40) (off := 101) (tgt := 169) (by decide +kernel) (by rw [hc]; decide) (by rw [hc]; decide) (by rw [hc]; rfl) (by decide) ?_
        refine mV_iconst (n := 1) (v := nI 1) (by decide +kernel) (by decide) ?_
        exact mV_zret (by decide +kernel) rfl (by decide) h
    · replace h := h.2 hc
      refine mV_iconst (n := 0) (v := nI 0) (by decide +kernel) (by decide) ?_
      exact mV_zret (by decide +kernel) rfl (by decide) h
  · replace h := h.2 hc
    refine mV_aload_n (k := 0) (by decide +kernel) rfl ?_
    refine mV_iconst (n := 1) (v := nI 1) (by decide +kernel) (by decide) ?_
    refine mV_cV (as := [.int (nI 1)]) (rest := []) (mc1 := 0) (ms1 := 0) (mc := 0) (ms := 0) (by decide +kernel) md_X5_refuse lk_5_77 sh_7 rfl rfl rfl (Nat.le_of_ble_eq_true rfl) (mC.mono (mm_contI (fun r23 G24 hK => ?_)) h)
    replace h := hK
    exact mV_zret (by decide +kernel) rfl h.1 h.2
set_option maxRecDepth 100000 in
set_option maxHeartbeats 4000000 in
theorem e_X5_counterTold {l : Launch} {κ : mm_K} {d : Nat} {G : mm_G} {K : Int32 → mm_G → Prop} (a1 : Nat) (ha1 : LineAt a1) (h : vp_in (mg_i G 7 6) 401 ∧ ((((mg_i G 3 ((mg_i G 7 6).toNatClampNeg)) - (nI 20)) < (nI 11) → mC l κ true d 0 0 m_X5_refuse [.ref 7, .int (nI 1)] G (rI (fun r1 G2 => (r1 = 0 ∨ r1 = 1) ∧ K r1 G2))) ∧ (¬ ((mg_i G 3 ((mg_i G 7 6).toNatClampNeg)) - (nI 20)) < (nI 11) → ((((mg_i G 3 ((mg_i G 7 6).toNatClampNeg)) - (nI 20)) ≤ (nI 14) → mC l κ true d 0 0 m_X5_accept [.ref 7, .int ((nI 20) + ((mg_i G 3 ((mg_i G 7 6).toNatClampNeg)) - (nI 20)))] (ms_i G a1 3 (((mg_i G 3 ((mg_i G 7 6).toNatClampNeg)) - (nI 20)) - (nI 11))) (rI (fun r3 G4 => (r3 = 0 ∨ r3 = 1) ∧ K r3 G4))) ∧ (¬ ((mg_i G 3 ((mg_i G 7 6).toNatClampNeg)) - (nI 20)) ≤ (nI 14) → mC l κ true d 0 0 m_X5_refuse [.ref 7, .int (nI 1)] G (rI (fun r5 G6 => (r5 = 0 ∨ r5 = 1) ∧ K r5 G6))))))) : mC l κ true (d + 1) 0 0 m_X5_counterTold [.ref 7, .ref a1] G (rI K) := by
  refine mC.of (by decide) (Nat.le_of_ble_eq_true rfl) [some (.ref 7), some (.ref a1), none] rfl ?_
  refine mV_aload_n (k := 0) (by decide +kernel) rfl ?_
  refine mV_gfr (r := some 1) (by decide +kernel) fk_5_29 sh_7 (mm_rrs st_7_4) rfl ?_
  refine mV_gfr (r := some 3) (by decide +kernel) fk_5_52 sh_1 (mm_rrs st_1_1) rfl ?_
  refine mV_aload_n (k := 0) (by decide +kernel) rfl ?_
  refine mV_gfix (x := mg_i G 7 6) (by decide +kernel) fk_5_49 sh_7 rfl ?_
  refine mV_ialx (x := mg_i G 3 ((mg_i G 7 6).toNatClampNeg)) (by decide +kernel) sh_3 h.1 rfl ?_
  replace h := h.2
  refine mV_bipush (n := 20) (v := nI 20) (by decide +kernel) (by decide) ?_
  refine mV_isub (by decide +kernel) ?_
  refine mV_istore_n (k := 2) (ls' := [some (.ref 7), some (.ref a1), some (.int ((mg_i G 3 ((mg_i G 7 6).toNatClampNeg)) - (nI 20)))]) (by decide +kernel) (Nat.le_of_ble_eq_true rfl) rfl rfl ?_
  refine mV_iload_n (k := 2) (by decide +kernel) rfl ?_
  refine mV_bipush (n := 11) (v := nI 11) (by decide +kernel) (by decide) ?_
  refine mV_icmp_lt (off := 9) (tgt := 28) (by decide +kernel) (by decide) (fun hc => ?_) (fun hc => ?_)
  · replace h := h.1 hc
    refine mV_aload_n (k := 0) (by decide +kernel) rfl ?_
    refine mV_iconst (n := 1) (v := nI 1) (by decide +kernel) (by decide) ?_
    refine mV_cV (as := [.int (nI 1)]) (rest := []) (mc1 := 0) (ms1 := 0) (mc := 0) (ms := 0) (by decide +kernel) md_X5_refuse lk_5_77 sh_7 rfl rfl rfl (Nat.le_of_ble_eq_true rfl) (mC.mono (mm_contI (fun r1 G2 hK => ?_)) h)
    replace h := hK
    exact mV_zret (by decide +kernel) rfl h.1 h.2
  · replace h := h.2 hc
    refine mV_iload_n (k := 2) (by decide +kernel) rfl ?_
    refine mV_bipush (n := 14) (v := nI 14) (by decide +kernel) (by decide) ?_
    refine mV_icmp_le (off := 9) (tgt := 34) (by decide +kernel) (by decide) (fun hc => ?_) (fun hc => ?_)
    · replace h := h.1 hc
      refine mV_aload_n (k := 1) (by decide +kernel) rfl ?_
      refine mV_iload_n (k := 2) (by decide +kernel) rfl ?_
      refine mV_bipush (n := 11) (v := nI 11) (by decide +kernel) (by decide) ?_
      refine mV_isub (by decide +kernel) ?_
      refine mV_pfi (by decide +kernel) fk_5_163 ha1 ?_
      refine mV_aload_n (k := 0) (by decide +kernel) rfl ?_
      refine mV_bipush (n := 20) (v := nI 20) (by decide +kernel) (by decide) ?_
      refine mV_iload_n (k := 2) (by decide +kernel) rfl ?_
      refine mV_iadd (by decide +kernel) ?_
      refine mV_cV (as := [.int ((nI 20) + ((mg_i G 3 ((mg_i G 7 6).toNatClampNeg)) - (nI 20)))]) (rest := []) (mc1 := 0) (ms1 := 0) (mc := 0) (ms := 0) (by decide +kernel) md_X5_accept lk_5_88 sh_7 rfl rfl rfl (Nat.le_of_ble_eq_true rfl) (mC.mono (mm_contI (fun r3 G4 hK => ?_)) h)
      replace h := hK
      exact mV_zret (by decide +kernel) rfl h.1 h.2
    · replace h := h.2 hc
      refine mV_aload_n (k := 0) (by decide +kernel) rfl ?_
      refine mV_iconst (n := 1) (v := nI 1) (by decide +kernel) (by decide) ?_
      refine mV_cV (as := [.int (nI 1)]) (rest := []) (mc1 := 0) (ms1 := 0) (mc := 0) (ms := 0) (by decide +kernel) md_X5_refuse lk_5_77 sh_7 rfl rfl rfl (Nat.le_of_ble_eq_true rfl) (mC.mono (mm_contI (fun r5 G6 hK => ?_)) h)
      replace h := hK
      exact mV_zret (by decide +kernel) rfl h.1 h.2
set_option maxRecDepth 100000 in
set_option maxHeartbeats 4000000 in
theorem e_X5_valueTold {l : Launch} {κ : mm_K} {d : Nat} {G : mm_G} {K : Int32 → mm_G → Prop} (a1 : Nat) (ha1 : LineAt a1) (a2 : Int32) (h : vp_in (mg_i G 7 6) 401 ∧ ((((mg_i G 3 ((mg_i G 7 6).toNatClampNeg)) - (nI 20)) < (nI 11) → ((¬ ((mg_i G 3 ((mg_i G 7 6).toNatClampNeg)) - (nI 20)) = (nI 15) → mV l κ true (d + 2) 0 0 m_X5_valueTold 59 [some (.ref 7), some (.ref a1), some (.int a2), some (.int ((mg_i G 3 ((mg_i G 7 6).toNatClampNeg)) - (nI 20))), some (.int (nI 0))] [] G (rI K)) ∧ (((mg_i G 3 ((mg_i G 7 6).toNatClampNeg)) - (nI 20)) = (nI 15) → mV l κ true (d + 2) 0 0 m_X5_valueTold 59 [some (.ref 7), some (.ref a1), some (.int a2), some (.int ((mg_i G 3 ((mg_i G 7 6).toNatClampNeg)) - (nI 20))), some (.int (nI 2))] [] (ms_i G 7 7 (nI 0)) (rI K)))) ∧ (¬ ((mg_i G 3 ((mg_i G 7 6).toNatClampNeg)) - (nI 20)) < (nI 11) → (((nI 14) < ((mg_i G 3 ((mg_i G 7 6).toNatClampNeg)) - (nI 20)) → ((¬ ((mg_i G 3 ((mg_i G 7 6).toNatClampNeg)) - (nI 20)) = (nI 15) → mV l κ true (d + 2) 0 0 m_X5_valueTold 59 [some (.ref 7), some (.ref a1), some (.int a2), some (.int ((mg_i G 3 ((mg_i G 7 6).toNatClampNeg)) - (nI 20))), some (.int (nI 0))] [] G (rI K)) ∧ (((mg_i G 3 ((mg_i G 7 6).toNatClampNeg)) - (nI 20)) = (nI 15) → mV l κ true (d + 2) 0 0 m_X5_valueTold 59 [some (.ref 7), some (.ref a1), some (.int a2), some (.int ((mg_i G 3 ((mg_i G 7 6).toNatClampNeg)) - (nI 20))), some (.int (nI 2))] [] (ms_i G 7 7 (nI 0)) (rI K)))) ∧ (¬ (nI 14) < ((mg_i G 3 ((mg_i G 7 6).toNatClampNeg)) - (nI 20)) → mV l κ true (d + 2) 0 0 m_X5_valueTold 59 [some (.ref 7), some (.ref a1), some (.int a2), some (.int ((mg_i G 3 ((mg_i G 7 6).toNatClampNeg)) - (nI 20))), some (.int (nI 1))] [] (ms_i G 7 7 (((mg_i G 3 ((mg_i G 7 6).toNatClampNeg)) - (nI 20)) - (nI 11))) (rI K)))))) : mC l κ true (d + 2) 0 0 m_X5_valueTold [.ref 7, .ref a1, .int a2] G (rI K) := by
  refine mC.of (by decide) (Nat.le_of_ble_eq_true rfl) [some (.ref 7), some (.ref a1), some (.int a2), none, none] rfl ?_
  refine mV_aload_n (k := 0) (by decide +kernel) rfl ?_
  refine mV_gfr (r := some 1) (by decide +kernel) fk_5_29 sh_7 (mm_rrs st_7_4) rfl ?_
  refine mV_gfr (r := some 3) (by decide +kernel) fk_5_52 sh_1 (mm_rrs st_1_1) rfl ?_
  refine mV_aload_n (k := 0) (by decide +kernel) rfl ?_
  refine mV_gfix (x := mg_i G 7 6) (by decide +kernel) fk_5_49 sh_7 rfl ?_
  refine mV_ialx (x := mg_i G 3 ((mg_i G 7 6).toNatClampNeg)) (by decide +kernel) sh_3 h.1 rfl ?_
  replace h := h.2
  refine mV_bipush (n := 20) (v := nI 20) (by decide +kernel) (by decide) ?_
  refine mV_isub (by decide +kernel) ?_
  refine mV_istore_n (k := 3) (ls' := [some (.ref 7), some (.ref a1), some (.int a2), some (.int ((mg_i G 3 ((mg_i G 7 6).toNatClampNeg)) - (nI 20))), none]) (by decide +kernel) (Nat.le_of_ble_eq_true rfl) rfl rfl ?_
  refine mV_iconst (n := 0) (v := nI 0) (by decide +kernel) (by decide) ?_
  refine mV_istore (i := 4) (ls' := [some (.ref 7), some (.ref a1), some (.int a2), some (.int ((mg_i G 3 ((mg_i G 7 6).toNatClampNeg)) - (nI 20))), some (.int (nI 0))]) (by decide +kernel) (Nat.le_of_ble_eq_true rfl) rfl rfl ?_
  refine mV_iload_n (k := 3) (by decide +kernel) rfl ?_
  refine mV_bipush (n := 11) (v := nI 11) (by decide +kernel) (by decide) ?_
  refine mV_icmp_lt (off := 23) (tgt := 45) (by decide +kernel) (by decide) (fun hc => ?_) (fun hc => ?_)
  · replace h := h.1 hc
    refine mV_iload_n (k := 3) (by decide +kernel) rfl ?_
    refine mV_bipush (n := 15) (v := nI 15) (by decide +kernel) (by decide) ?_
    refine mV_icmp_ne (off := 11) (tgt := 59) (by decide +kernel) (by decide) (fun hc => ?_) (fun hc => ?_)
    · replace h := h.1 hc
      exact h
    · replace h := h.2 hc
      refine mV_iconst (n := 2) (v := nI 2) (by decide +kernel) (by decide) ?_
      refine mV_istore (i := 4) (ls' := [some (.ref 7), some (.ref a1), some (.int a2), some (.int ((mg_i G 3 ((mg_i G 7 6).toNatClampNeg)) - (nI 20))), some (.int (nI 2))]) (by decide +kernel) (Nat.le_of_ble_eq_true rfl) rfl rfl ?_
      refine mV_aload_n (k := 0) (by decide +kernel) rfl ?_
      refine mV_iconst (n := 0) (v := nI 0) (by decide +kernel) (by decide) ?_
      refine mV_pfi (by decide +kernel) fk_5_166 sh_7 ?_
      exact h
  · replace h := h.2 hc
    refine mV_iload_n (k := 3) (by decide +kernel) rfl ?_
    refine mV_bipush (n := 14) (v := nI 14) (by decide +kernel) (by decide) ?_
    refine mV_icmp_gt (off := 17) (tgt := 45) (by decide +kernel) (by decide) (fun hc => ?_) (fun hc => ?_)
    · replace h := h.1 hc
      refine mV_iload_n (k := 3) (by decide +kernel) rfl ?_
      refine mV_bipush (n := 15) (v := nI 15) (by decide +kernel) (by decide) ?_
      refine mV_icmp_ne (off := 11) (tgt := 59) (by decide +kernel) (by decide) (fun hc => ?_) (fun hc => ?_)
      · replace h := h.1 hc
        exact h
      · replace h := h.2 hc
        refine mV_iconst (n := 2) (v := nI 2) (by decide +kernel) (by decide) ?_
        refine mV_istore (i := 4) (ls' := [some (.ref 7), some (.ref a1), some (.int a2), some (.int ((mg_i G 3 ((mg_i G 7 6).toNatClampNeg)) - (nI 20))), some (.int (nI 2))]) (by decide +kernel) (Nat.le_of_ble_eq_true rfl) rfl rfl ?_
        refine mV_aload_n (k := 0) (by decide +kernel) rfl ?_
        refine mV_iconst (n := 0) (v := nI 0) (by decide +kernel) (by decide) ?_
        refine mV_pfi (by decide +kernel) fk_5_166 sh_7 ?_
        exact h
    · replace h := h.2 hc
      refine mV_iconst (n := 1) (v := nI 1) (by decide +kernel) (by decide) ?_
      refine mV_istore (i := 4) (ls' := [some (.ref 7), some (.ref a1), some (.int a2), some (.int ((mg_i G 3 ((mg_i G 7 6).toNatClampNeg)) - (nI 20))), some (.int (nI 1))]) (by decide +kernel) (Nat.le_of_ble_eq_true rfl) rfl rfl ?_
      refine mV_aload_n (k := 0) (by decide +kernel) rfl ?_
      refine mV_iload_n (k := 3) (by decide +kernel) rfl ?_
      refine mV_bipush (n := 11) (v := nI 11) (by decide +kernel) (by decide) ?_
      refine mV_isub (by decide +kernel) ?_
      refine mV_pfi (by decide +kernel) fk_5_166 sh_7 ?_
      refine mV_goto (off := 17) (tgt := 59) (by decide +kernel) (by decide) ?_
      exact h
set_option maxRecDepth 100000 in
set_option maxHeartbeats 4000000 in
theorem p_X5_valueTold_59 {l : Launch} {κ : mm_K} {d : Nat} {G : mm_G} {K : Int32 → mm_G → Prop} (a1 : Nat) (ha1 : LineAt a1) (v2 : Int32) (v3 : Int32) (v4 : Int32) (h : ((¬ v4 = 0 → mC l κ true (d + 1) 0 0 m_X5_accept [.ref 7, .int ((nI 20) + v3)] G (rI (fun r1 G2 => ((¬ r1 = 0 → mV l κ true (d + 2) 0 0 m_X5_valueTold 87 [some (.ref 7), some (.ref a1), some (.int v2), some (.int v3), some (.int v4)] [] G2 (rI K)) ∧ (r1 = 0 → K (nI 0) G2))))) ∧ (v4 = 0 → mC l κ true (d + 1) 0 0 m_X5_numberTold [.ref 7] G (rI (fun r3 G4 => ((¬ r3 = 0 → mV l κ true (d + 2) 0 0 m_X5_valueTold 87 [some (.ref 7), some (.ref a1), some (.int v2), some (.int v3), some (.int v4)] [] G4 (rI K)) ∧ (r3 = 0 → K (nI 0) G4))))))) : mV l κ true (d + 2) 0 0 m_X5_valueTold 59 [some (.ref 7), some (.ref a1), some (.int v2), some (.int v3), some (.int v4)] [] G (rI K) := by
  refine mV_iload (i := 4) (by decide +kernel) rfl ?_
  refine mV_if_ne (off := 13) (tgt := 74) (by decide +kernel) (by decide) (fun hc => ?_) (fun hc => ?_)
  · replace h := h.1 hc
    refine mV_aload_n (k := 0) (by decide +kernel) rfl ?_
    refine mV_bipush (n := 20) (v := nI 20) (by decide +kernel) (by decide) ?_
    refine mV_iload_n (k := 3) (by decide +kernel) rfl ?_
    refine mV_iadd (by decide +kernel) ?_
    refine mV_cV (as := [.int ((nI 20) + v3)]) (rest := []) (mc1 := 0) (ms1 := 0) (mc := 0) (ms := 0) (by decide +kernel) md_X5_accept lk_5_88 sh_7 rfl rfl rfl (Nat.le_of_ble_eq_true rfl) (mC.mono (mm_contI (fun r1 G2 hK => ?_)) h)
    replace h := hK
    refine mV_if_ne (off := 5) (tgt := 87) (by decide +kernel) (by decide) (fun hc => ?_) (fun hc => ?_)
    · replace h := h.1 hc
      exact h
    · replace h := h.2 hc
      refine mV_iconst (n := 0) (v := nI 0) (by decide +kernel) (by decide) ?_
      exact mV_zret (by decide +kernel) rfl (by decide) h
  · replace h := h.2 hc
    refine mV_aload_n (k := 0) (by decide +kernel) rfl ?_
    refine mV_cV (as := []) (rest := []) (mc1 := 0) (ms1 := 0) (mc := 0) (ms := 0) (by decide +kernel) md_X5_numberTold lk_5_169 sh_7 rfl rfl rfl (Nat.le_of_ble_eq_true rfl) (mC.mono (mm_contI (fun r3 G4 hK => ?_)) h)
    replace h := hK
    refine mV_if_ne (off := 19) (tgt := 87) (by decide +kernel) (by decide) (fun hc => ?_) (fun hc => ?_)
    · replace h := h.1 hc
      exact h
    · replace h := h.2 hc
      refine mV_goto (off := 14) (tgt := 85) (by decide +kernel) (by decide) ?_
      refine mV_iconst (n := 0) (v := nI 0) (by decide +kernel) (by decide) ?_
      exact mV_zret (by decide +kernel) rfl (by decide) h
set_option maxRecDepth 100000 in
set_option maxHeartbeats 4000000 in
theorem p_X5_valueTold_87 {l : Launch} {κ : mm_K} {d : Nat} {G : mm_G} {K : Int32 → mm_G → Prop} (a1 : Nat) (ha1 : LineAt a1) (v2 : Int32) (v3 : Int32) (v4 : Int32) (h : ((v2 = 0 → K (nI 1) (ms_i (ms_i G a1 4 v4) a1 5 (mg_i (ms_i G a1 4 v4) 7 7))) ∧ (¬ v2 = 0 → K (nI 1) (ms_i (ms_i G a1 6 v4) a1 7 (mg_i (ms_i G a1 6 v4) 7 7))))) : mV l κ true (d + 2) 0 0 m_X5_valueTold 87 [some (.ref 7), some (.ref a1), some (.int v2), some (.int v3), some (.int v4)] [] G (rI K) := by
  refine mV_iload_n (k := 2) (by decide +kernel) rfl ?_
  refine mV_if_eq (off := 20) (tgt := 108) (by decide +kernel) (by decide) (fun hc => ?_) (fun hc => ?_)
  · replace h := h.1 hc
    refine mV_aload_n (k := 1) (by decide +kernel) rfl ?_
    refine mV_iload (i := 4) (by decide +kernel) rfl ?_
    refine mV_pfi (by decide +kernel) fk_5_178 ha1 ?_
    refine mV_aload_n (k := 1) (by decide +kernel) rfl ?_
    refine mV_aload_n (k := 0) (by decide +kernel) rfl ?_
    refine mV_gfix (x := mg_i (ms_i G a1 4 v4) 7 7) (by decide +kernel) fk_5_166 sh_7 rfl ?_
    refine mV_pfi (by decide +kernel) fk_5_181 ha1 ?_
    refine mV_iconst (n := 1) (v := nI 1) (by decide +kernel) (by decide) ?_
    exact mV_zret (by decide +kernel) rfl (by decide) h
  · replace h := h.2 hc
    refine mV_aload_n (k := 1) (by decide +kernel) rfl ?_
    refine mV_iload (i := 4) (by decide +kernel) rfl ?_
    refine mV_pfi (by decide +kernel) fk_5_172 ha1 ?_
    refine mV_aload_n (k := 1) (by decide +kernel) rfl ?_
    refine mV_aload_n (k := 0) (by decide +kernel) rfl ?_
    refine mV_gfix (x := mg_i (ms_i G a1 6 v4) 7 7) (by decide +kernel) fk_5_166 sh_7 rfl ?_
    refine mV_pfi (by decide +kernel) fk_5_175 ha1 ?_
    refine mV_goto (off := 17) (tgt := 122) (by decide +kernel) (by decide) ?_
    refine mV_iconst (n := 1) (v := nI 1) (by decide +kernel) (by decide) ?_
    exact mV_zret (by decide +kernel) rfl (by decide) h
set_option maxRecDepth 100000 in
set_option maxHeartbeats 4000000 in
theorem e_X5_numberTold {l : Launch} {κ : mm_K} {d : Nat} {G : mm_G} {K : Int32 → mm_G → Prop}  (h : vp_in (mg_i G 7 6) 401 ∧ ((¬ (mg_i G 3 ((mg_i G 7 6).toNatClampNeg)) = (nI 8) → (((nI 0) = 0 → vp_in (mg_i G 7 6) 401 ∧ (((nI 0) = 0 → mC l κ true d 0 0 m_X5_accept [.ref 7, .int (nI 3)] (ms_i G 7 7 ((mg_l G 5 ((mg_i G 7 6).toNatClampNeg)).toInt32)) (rI (fun r1 G2 => (r1 = 0 ∨ r1 = 1) ∧ K r1 G2))) ∧ (¬ (nI 0) = 0 → mC l κ true d 0 0 m_X5_accept [.ref 7, .int (nI 3)] (ms_i G 7 7 (-((mg_l G 5 ((mg_i G 7 6).toNatClampNeg)).toInt32))) (rI (fun r3 G4 => (r3 = 0 ∨ r3 = 1) ∧ K r3 G4))))) ∧ (¬ (nI 0) = 0 → mC l κ true d 0 0 m_X5_accept [.ref 7, .int (nI 8)] G (rI (fun r5 G6 => ((¬ r5 = 0 → vp_in (mg_i G6 7 6) 401 ∧ (((nI 0) = 0 → mC l κ true d 0 0 m_X5_accept [.ref 7, .int (nI 3)] (ms_i G6 7 7 ((mg_l G6 5 ((mg_i G6 7 6).toNatClampNeg)).toInt32)) (rI (fun r7 G8 => (r7 = 0 ∨ r7 = 1) ∧ K r7 G8))) ∧ (¬ (nI 0) = 0 → mC l κ true d 0 0 m_X5_accept [.ref 7, .int (nI 3)] (ms_i G6 7 7 (-((mg_l G6 5 ((mg_i G6 7 6).toNatClampNeg)).toInt32))) (rI (fun r9 G10 => (r9 = 0 ∨ r9 = 1) ∧ K r9 G10))))) ∧ (r5 = 0 → K (nI 0) G6))))))) ∧ ((mg_i G 3 ((mg_i G 7 6).toNatClampNeg)) = (nI 8) → (((nI 1) = 0 → vp_in (mg_i G 7 6) 401 ∧ (((nI 1) = 0 → mC l κ true d 0 0 m_X5_accept [.ref 7, .int (nI 3)] (ms_i G 7 7 ((mg_l G 5 ((mg_i G 7 6).toNatClampNeg)).toInt32)) (rI (fun r11 G12 => (r11 = 0 ∨ r11 = 1) ∧ K r11 G12))) ∧ (¬ (nI 1) = 0 → mC l κ true d 0 0 m_X5_accept [.ref 7, .int (nI 3)] (ms_i G 7 7 (-((mg_l G 5 ((mg_i G 7 6).toNatClampNeg)).toInt32))) (rI (fun r13 G14 => (r13 = 0 ∨ r13 = 1) ∧ K r13 G14))))) ∧ (¬ (nI 1) = 0 → mC l κ true d 0 0 m_X5_accept [.ref 7, .int (nI 8)] G (rI (fun r15 G16 => ((¬ r15 = 0 → vp_in (mg_i G16 7 6) 401 ∧ (((nI 1) = 0 → mC l κ true d 0 0 m_X5_accept [.ref 7, .int (nI 3)] (ms_i G16 7 7 ((mg_l G16 5 ((mg_i G16 7 6).toNatClampNeg)).toInt32)) (rI (fun r17 G18 => (r17 = 0 ∨ r17 = 1) ∧ K r17 G18))) ∧ (¬ (nI 1) = 0 → mC l κ true d 0 0 m_X5_accept [.ref 7, .int (nI 3)] (ms_i G16 7 7 (-((mg_l G16 5 ((mg_i G16 7 6).toNatClampNeg)).toInt32))) (rI (fun r19 G20 => (r19 = 0 ∨ r19 = 1) ∧ K r19 G20))))) ∧ (r15 = 0 → K (nI 0) G16))))))))) : mC l κ true (d + 1) 0 0 m_X5_numberTold [.ref 7] G (rI K) := by
  refine mC.of (by decide) (Nat.le_of_ble_eq_true rfl) [some (.ref 7), none, none] rfl ?_
  refine mV_aload_n (k := 0) (by decide +kernel) rfl ?_
  refine mV_gfr (r := some 1) (by decide +kernel) fk_5_29 sh_7 (mm_rrs st_7_4) rfl ?_
  refine mV_gfr (r := some 3) (by decide +kernel) fk_5_52 sh_1 (mm_rrs st_1_1) rfl ?_
  refine mV_aload_n (k := 0) (by decide +kernel) rfl ?_
  refine mV_gfix (x := mg_i G 7 6) (by decide +kernel) fk_5_49 sh_7 rfl ?_
  refine mV_ialx (x := mg_i G 3 ((mg_i G 7 6).toNatClampNeg)) (by decide +kernel) sh_3 h.1 rfl ?_
  replace h := h.2
  refine mV_bipush (n := 8) (v := nI 8) (by decide +kernel) (by decide) ?_
  refine mV_icmp_ne (off := 7) (tgt := 21) (by decide +kernel) (by decide) (fun hc => ?_) (fun hc => ?_)
  · replace h := h.1 hc
    refine mV_iconst (n := 0) (v := nI 0) (by decide +kernel) (by decide) ?_
    refine mV_istore_n (k := 1) (ls' := [some (.ref 7), some (.int (nI 0)), none]) (by decide +kernel) (Nat.le_of_ble_eq_true rfl) rfl rfl ?_
    refine mV_iload_n (k := 1) (by decide +kernel) rfl ?_
    refine mV_if_eq (off := 14) (tgt := 38) (by decide +kernel) (by decide) (fun hc => ?_) (fun hc => ?_)
    · replace h := h.1 hc
      refine mV_aload_n (k := 0) (by decide +kernel) rfl ?_
      refine mV_gfr (r := some 1) (by decide +kernel) fk_5_29 sh_7 (mm_rrs st_7_4) rfl ?_
      refine mV_gfr (r := some 5) (by decide +kernel) fk_5_91 sh_1 (mm_rrs st_1_3) rfl ?_
      refine mV_aload_n (k := 0) (by decide +kernel) rfl ?_
      refine mV_gfix (x := mg_i G 7 6) (by decide +kernel) fk_5_49 sh_7 rfl ?_
      refine mV_lalx (x := mg_l G 5 ((mg_i G 7 6).toNatClampNeg)) (by decide +kernel) sh_5 h.1 rfl ?_
      replace h := h.2
      refine mV_l2i (by decide +kernel) ?_
      refine mV_istore_n (k := 2) (ls' := [some (.ref 7), some (.int (nI 0)), some (.int ((mg_l G 5 ((mg_i G 7 6).toNatClampNeg)).toInt32))]) (by decide +kernel) (Nat.le_of_ble_eq_true rfl) rfl rfl ?_
      refine mV_aload_n (k := 0) (by decide +kernel) rfl ?_
      refine mV_iload_n (k := 1) (by decide +kernel) rfl ?_
      refine mV_if_eq (off := 8) (tgt := 62) (by decide +kernel) (by decide) (fun hc => ?_) (fun hc => ?_)
      · replace h := h.1 hc
        refine mV_iload_n (k := 2) (by decide +kernel) rfl ?_
        refine mV_pfi (by decide +kernel) fk_5_166 sh_7 ?_
        refine mV_aload_n (k := 0) (by decide +kernel) rfl ?_
        refine mV_iconst (n := 3) (v := nI 3) (by decide +kernel) (by decide) ?_
        refine mV_cV (as := [.int (nI 3)]) (rest := []) (mc1 := 0) (ms1 := 0) (mc := 0) (ms := 0) (by decide +kernel) md_X5_accept lk_5_88 sh_7 rfl rfl rfl (Nat.le_of_ble_eq_true rfl) (mC.mono (mm_contI (fun r1 G2 hK => ?_)) h)
        replace h := hK
        exact mV_zret (by decide +kernel) rfl h.1 h.2
      · replace h := h.2 hc
        refine mV_iload_n (k := 2) (by decide +kernel) rfl ?_
        refine mV_ineg (by decide +kernel) ?_
        refine mV_goto (off := 4) (tgt := 63) (by decide +kernel) (by decide) ?_
        refine mV_pfi (by decide +kernel) fk_5_166 sh_7 ?_
        refine mV_aload_n (k := 0) (by decide +kernel) rfl ?_
        refine mV_iconst (n := 3) (v := nI 3) (by decide +kernel) (by decide) ?_
        refine mV_cV (as := [.int (nI 3)]) (rest := []) (mc1 := 0) (ms1 := 0) (mc := 0) (ms := 0) (by decide +kernel) md_X5_accept lk_5_88 sh_7 rfl rfl rfl (Nat.le_of_ble_eq_true rfl) (mC.mono (mm_contI (fun r3 G4 hK => ?_)) h)
        replace h := hK
        exact mV_zret (by decide +kernel) rfl h.1 h.2
    · replace h := h.2 hc
      refine mV_aload_n (k := 0) (by decide +kernel) rfl ?_
      refine mV_bipush (n := 8) (v := nI 8) (by decide +kernel) (by decide) ?_
      refine mV_cV (as := [.int (nI 8)]) (rest := []) (mc1 := 0) (ms1 := 0) (mc := 0) (ms := 0) (by decide +kernel) md_X5_accept lk_5_88 sh_7 rfl rfl rfl (Nat.le_of_ble_eq_true rfl) (mC.mono (mm_contI (fun r5 G6 hK => ?_)) h)
      replace h := hK
      refine mV_if_ne (off := 5) (tgt := 38) (by decide +kernel) (by decide) (fun hc => ?_) (fun hc => ?_)
      · replace h := h.1 hc
        refine mV_aload_n (k := 0) (by decide +kernel) rfl ?_
        refine mV_gfr (r := some 1) (by decide +kernel) fk_5_29 sh_7 (mm_rrs st_7_4) rfl ?_
        refine mV_gfr (r := some 5) (by decide +kernel) fk_5_91 sh_1 (mm_rrs st_1_3) rfl ?_
        refine mV_aload_n (k := 0) (by decide +kernel) rfl ?_
        refine mV_gfix (x := mg_i G6 7 6) (by decide +kernel) fk_5_49 sh_7 rfl ?_
        refine mV_lalx (x := mg_l G6 5 ((mg_i G6 7 6).toNatClampNeg)) (by decide +kernel) sh_5 h.1 rfl ?_
        replace h := h.2
        refine mV_l2i (by decide +kernel) ?_
        refine mV_istore_n (k := 2) (ls' := [some (.ref 7), some (.int (nI 0)), some (.int ((mg_l G6 5 ((mg_i G6 7 6).toNatClampNeg)).toInt32))]) (by decide +kernel) (Nat.le_of_ble_eq_true rfl) rfl rfl ?_
        refine mV_aload_n (k := 0) (by decide +kernel) rfl ?_
        refine mV_iload_n (k := 1) (by decide +kernel) rfl ?_
        refine mV_if_eq (off := 8) (tgt := 62) (by decide +kernel) (by decide) (fun hc => ?_) (fun hc => ?_)
        · replace h := h.1 hc
          refine mV_iload_n (k := 2) (by decide +kernel) rfl ?_
          refine mV_pfi (by decide +kernel) fk_5_166 sh_7 ?_
          refine mV_aload_n (k := 0) (by decide +kernel) rfl ?_
          refine mV_iconst (n := 3) (v := nI 3) (by decide +kernel) (by decide) ?_
          refine mV_cV (as := [.int (nI 3)]) (rest := []) (mc1 := 0) (ms1 := 0) (mc := 0) (ms := 0) (by decide +kernel) md_X5_accept lk_5_88 sh_7 rfl rfl rfl (Nat.le_of_ble_eq_true rfl) (mC.mono (mm_contI (fun r7 G8 hK => ?_)) h)
          replace h := hK
          exact mV_zret (by decide +kernel) rfl h.1 h.2
        · replace h := h.2 hc
          refine mV_iload_n (k := 2) (by decide +kernel) rfl ?_
          refine mV_ineg (by decide +kernel) ?_
          refine mV_goto (off := 4) (tgt := 63) (by decide +kernel) (by decide) ?_
          refine mV_pfi (by decide +kernel) fk_5_166 sh_7 ?_
          refine mV_aload_n (k := 0) (by decide +kernel) rfl ?_
          refine mV_iconst (n := 3) (v := nI 3) (by decide +kernel) (by decide) ?_
          refine mV_cV (as := [.int (nI 3)]) (rest := []) (mc1 := 0) (ms1 := 0) (mc := 0) (ms := 0) (by decide +kernel) md_X5_accept lk_5_88 sh_7 rfl rfl rfl (Nat.le_of_ble_eq_true rfl) (mC.mono (mm_contI (fun r9 G10 hK => ?_)) h)
          replace h := hK
          exact mV_zret (by decide +kernel) rfl h.1 h.2
      · replace h := h.2 hc
        refine mV_iconst (n := 0) (v := nI 0) (by decide +kernel) (by decide) ?_
        exact mV_zret (by decide +kernel) rfl (by decide) h
  · replace h := h.2 hc
    refine mV_iconst (n := 1) (v := nI 1) (by decide +kernel) (by decide) ?_
    refine mV_goto (off := 4) (tgt := 22) (by decide +kernel) (by decide) ?_
    refine mV_istore_n (k := 1) (ls' := [some (.ref 7), some (.int (nI 1)), none]) (by decide +kernel) (Nat.le_of_ble_eq_true rfl) rfl rfl ?_
    refine mV_iload_n (k := 1) (by decide +kernel) rfl ?_
    refine mV_if_eq (off := 14) (tgt := 38) (by decide +kernel) (by decide) (fun hc => ?_) (fun hc => ?_)
    · replace h := h.1 hc
      refine mV_aload_n (k := 0) (by decide +kernel) rfl ?_
      refine mV_gfr (r := some 1) (by decide +kernel) fk_5_29 sh_7 (mm_rrs st_7_4) rfl ?_
      refine mV_gfr (r := some 5) (by decide +kernel) fk_5_91 sh_1 (mm_rrs st_1_3) rfl ?_
      refine mV_aload_n (k := 0) (by decide +kernel) rfl ?_
      refine mV_gfix (x := mg_i G 7 6) (by decide +kernel) fk_5_49 sh_7 rfl ?_
      refine mV_lalx (x := mg_l G 5 ((mg_i G 7 6).toNatClampNeg)) (by decide +kernel) sh_5 h.1 rfl ?_
      replace h := h.2
      refine mV_l2i (by decide +kernel) ?_
      refine mV_istore_n (k := 2) (ls' := [some (.ref 7), some (.int (nI 1)), some (.int ((mg_l G 5 ((mg_i G 7 6).toNatClampNeg)).toInt32))]) (by decide +kernel) (Nat.le_of_ble_eq_true rfl) rfl rfl ?_
      refine mV_aload_n (k := 0) (by decide +kernel) rfl ?_
      refine mV_iload_n (k := 1) (by decide +kernel) rfl ?_
      refine mV_if_eq (off := 8) (tgt := 62) (by decide +kernel) (by decide) (fun hc => ?_) (fun hc => ?_)
      · replace h := h.1 hc
        refine mV_iload_n (k := 2) (by decide +kernel) rfl ?_
        refine mV_pfi (by decide +kernel) fk_5_166 sh_7 ?_
        refine mV_aload_n (k := 0) (by decide +kernel) rfl ?_
        refine mV_iconst (n := 3) (v := nI 3) (by decide +kernel) (by decide) ?_
        refine mV_cV (as := [.int (nI 3)]) (rest := []) (mc1 := 0) (ms1 := 0) (mc := 0) (ms := 0) (by decide +kernel) md_X5_accept lk_5_88 sh_7 rfl rfl rfl (Nat.le_of_ble_eq_true rfl) (mC.mono (mm_contI (fun r11 G12 hK => ?_)) h)
        replace h := hK
        exact mV_zret (by decide +kernel) rfl h.1 h.2
      · replace h := h.2 hc
        refine mV_iload_n (k := 2) (by decide +kernel) rfl ?_
        refine mV_ineg (by decide +kernel) ?_
        refine mV_goto (off := 4) (tgt := 63) (by decide +kernel) (by decide) ?_
        refine mV_pfi (by decide +kernel) fk_5_166 sh_7 ?_
        refine mV_aload_n (k := 0) (by decide +kernel) rfl ?_
        refine mV_iconst (n := 3) (v := nI 3) (by decide +kernel) (by decide) ?_
        refine mV_cV (as := [.int (nI 3)]) (rest := []) (mc1 := 0) (ms1 := 0) (mc := 0) (ms := 0) (by decide +kernel) md_X5_accept lk_5_88 sh_7 rfl rfl rfl (Nat.le_of_ble_eq_true rfl) (mC.mono (mm_contI (fun r13 G14 hK => ?_)) h)
        replace h := hK
        exact mV_zret (by decide +kernel) rfl h.1 h.2
    · replace h := h.2 hc
      refine mV_aload_n (k := 0) (by decide +kernel) rfl ?_
      refine mV_bipush (n := 8) (v := nI 8) (by decide +kernel) (by decide) ?_
      refine mV_cV (as := [.int (nI 8)]) (rest := []) (mc1 := 0) (ms1 := 0) (mc := 0) (ms := 0) (by decide +kernel) md_X5_accept lk_5_88 sh_7 rfl rfl rfl (Nat.le_of_ble_eq_true rfl) (mC.mono (mm_contI (fun r15 G16 hK => ?_)) h)
      replace h := hK
      refine mV_if_ne (off := 5) (tgt := 38) (by decide +kernel) (by decide) (fun hc => ?_) (fun hc => ?_)
      · replace h := h.1 hc
        refine mV_aload_n (k := 0) (by decide +kernel) rfl ?_
        refine mV_gfr (r := some 1) (by decide +kernel) fk_5_29 sh_7 (mm_rrs st_7_4) rfl ?_
        refine mV_gfr (r := some 5) (by decide +kernel) fk_5_91 sh_1 (mm_rrs st_1_3) rfl ?_
        refine mV_aload_n (k := 0) (by decide +kernel) rfl ?_
        refine mV_gfix (x := mg_i G16 7 6) (by decide +kernel) fk_5_49 sh_7 rfl ?_
        refine mV_lalx (x := mg_l G16 5 ((mg_i G16 7 6).toNatClampNeg)) (by decide +kernel) sh_5 h.1 rfl ?_
        replace h := h.2
        refine mV_l2i (by decide +kernel) ?_
        refine mV_istore_n (k := 2) (ls' := [some (.ref 7), some (.int (nI 1)), some (.int ((mg_l G16 5 ((mg_i G16 7 6).toNatClampNeg)).toInt32))]) (by decide +kernel) (Nat.le_of_ble_eq_true rfl) rfl rfl ?_
        refine mV_aload_n (k := 0) (by decide +kernel) rfl ?_
        refine mV_iload_n (k := 1) (by decide +kernel) rfl ?_
        refine mV_if_eq (off := 8) (tgt := 62) (by decide +kernel) (by decide) (fun hc => ?_) (fun hc => ?_)
        · replace h := h.1 hc
          refine mV_iload_n (k := 2) (by decide +kernel) rfl ?_
          refine mV_pfi (by decide +kernel) fk_5_166 sh_7 ?_
          refine mV_aload_n (k := 0) (by decide +kernel) rfl ?_
          refine mV_iconst (n := 3) (v := nI 3) (by decide +kernel) (by decide) ?_
          refine mV_cV (as := [.int (nI 3)]) (rest := []) (mc1 := 0) (ms1 := 0) (mc := 0) (ms := 0) (by decide +kernel) md_X5_accept lk_5_88 sh_7 rfl rfl rfl (Nat.le_of_ble_eq_true rfl) (mC.mono (mm_contI (fun r17 G18 hK => ?_)) h)
          replace h := hK
          exact mV_zret (by decide +kernel) rfl h.1 h.2
        · replace h := h.2 hc
          refine mV_iload_n (k := 2) (by decide +kernel) rfl ?_
          refine mV_ineg (by decide +kernel) ?_
          refine mV_goto (off := 4) (tgt := 63) (by decide +kernel) (by decide) ?_
          refine mV_pfi (by decide +kernel) fk_5_166 sh_7 ?_
          refine mV_aload_n (k := 0) (by decide +kernel) rfl ?_
          refine mV_iconst (n := 3) (v := nI 3) (by decide +kernel) (by decide) ?_
          refine mV_cV (as := [.int (nI 3)]) (rest := []) (mc1 := 0) (ms1 := 0) (mc := 0) (ms := 0) (by decide +kernel) md_X5_accept lk_5_88 sh_7 rfl rfl rfl (Nat.le_of_ble_eq_true rfl) (mC.mono (mm_contI (fun r19 G20 hK => ?_)) h)
          replace h := hK
          exact mV_zret (by decide +kernel) rfl h.1 h.2
      · replace h := h.2 hc
        refine mV_iconst (n := 0) (v := nI 0) (by decide +kernel) (by decide) ?_
        exact mV_zret (by decide +kernel) rfl (by decide) h
set_option maxRecDepth 100000 in
set_option maxHeartbeats 4000000 in
theorem e_X5_testTold {l : Launch} {κ : mm_K} {d : Nat} {G : mm_G} {K : Int32 → mm_G → Prop} (a1 : Nat) (ha1 : LineAt a1) (h : vp_in (mg_i G 7 6) 401 ∧ ((((mg_i G 3 ((mg_i G 7 6).toNatClampNeg)) - (nI 10)) < 0 → mC l κ true d 0 0 m_X5_refuse [.ref 7, .int (nI 1)] G (rI (fun r1 G2 => (r1 = 0 ∨ r1 = 1) ∧ K r1 G2))) ∧ (¬ ((mg_i G 3 ((mg_i G 7 6).toNatClampNeg)) - (nI 10)) < 0 → ((((mg_i G 3 ((mg_i G 7 6).toNatClampNeg)) - (nI 10)) ≤ (nI 3) → mC l κ true d 0 0 m_X5_accept [.ref 7, .int ((nI 10) + ((mg_i G 3 ((mg_i G 7 6).toNatClampNeg)) - (nI 10)))] (ms_i G a1 8 ((mg_i G 3 ((mg_i G 7 6).toNatClampNeg)) - (nI 10))) (rI (fun r3 G4 => (r3 = 0 ∨ r3 = 1) ∧ K r3 G4))) ∧ (¬ ((mg_i G 3 ((mg_i G 7 6).toNatClampNeg)) - (nI 10)) ≤ (nI 3) → mC l κ true d 0 0 m_X5_refuse [.ref 7, .int (nI 1)] G (rI (fun r5 G6 => (r5 = 0 ∨ r5 = 1) ∧ K r5 G6))))))) : mC l κ true (d + 1) 0 0 m_X5_testTold [.ref 7, .ref a1] G (rI K) := by
  refine mC.of (by decide) (Nat.le_of_ble_eq_true rfl) [some (.ref 7), some (.ref a1), none] rfl ?_
  refine mV_aload_n (k := 0) (by decide +kernel) rfl ?_
  refine mV_gfr (r := some 1) (by decide +kernel) fk_5_29 sh_7 (mm_rrs st_7_4) rfl ?_
  refine mV_gfr (r := some 3) (by decide +kernel) fk_5_52 sh_1 (mm_rrs st_1_1) rfl ?_
  refine mV_aload_n (k := 0) (by decide +kernel) rfl ?_
  refine mV_gfix (x := mg_i G 7 6) (by decide +kernel) fk_5_49 sh_7 rfl ?_
  refine mV_ialx (x := mg_i G 3 ((mg_i G 7 6).toNatClampNeg)) (by decide +kernel) sh_3 h.1 rfl ?_
  replace h := h.2
  refine mV_bipush (n := 10) (v := nI 10) (by decide +kernel) (by decide) ?_
  refine mV_isub (by decide +kernel) ?_
  refine mV_istore_n (k := 2) (ls' := [some (.ref 7), some (.ref a1), some (.int ((mg_i G 3 ((mg_i G 7 6).toNatClampNeg)) - (nI 10)))]) (by decide +kernel) (Nat.le_of_ble_eq_true rfl) rfl rfl ?_
  refine mV_iload_n (k := 2) (by decide +kernel) rfl ?_
  refine mV_if_lt (off := 8) (tgt := 25) (by decide +kernel) (by decide) (fun hc => ?_) (fun hc => ?_)
  · replace h := h.1 hc
    refine mV_aload_n (k := 0) (by decide +kernel) rfl ?_
    refine mV_iconst (n := 1) (v := nI 1) (by decide +kernel) (by decide) ?_
    refine mV_cV (as := [.int (nI 1)]) (rest := []) (mc1 := 0) (ms1 := 0) (mc := 0) (ms := 0) (by decide +kernel) md_X5_refuse lk_5_77 sh_7 rfl rfl rfl (Nat.le_of_ble_eq_true rfl) (mC.mono (mm_contI (fun r1 G2 hK => ?_)) h)
    replace h := hK
    exact mV_zret (by decide +kernel) rfl h.1 h.2
  · replace h := h.2 hc
    refine mV_iload_n (k := 2) (by decide +kernel) rfl ?_
    refine mV_iconst (n := 3) (v := nI 3) (by decide +kernel) (by decide) ?_
    refine mV_icmp_le (off := 9) (tgt := 31) (by decide +kernel) (by decide) (fun hc => ?_) (fun hc => ?_)
    · replace h := h.1 hc
      refine mV_aload_n (k := 1) (by decide +kernel) rfl ?_
      refine mV_iload_n (k := 2) (by decide +kernel) rfl ?_
      refine mV_pfi (by decide +kernel) fk_5_184 ha1 ?_
      refine mV_aload_n (k := 0) (by decide +kernel) rfl ?_
      refine mV_bipush (n := 10) (v := nI 10) (by decide +kernel) (by decide) ?_
      refine mV_iload_n (k := 2) (by decide +kernel) rfl ?_
      refine mV_iadd (by decide +kernel) ?_
      refine mV_cV (as := [.int ((nI 10) + ((mg_i G 3 ((mg_i G 7 6).toNatClampNeg)) - (nI 10)))]) (rest := []) (mc1 := 0) (ms1 := 0) (mc := 0) (ms := 0) (by decide +kernel) md_X5_accept lk_5_88 sh_7 rfl rfl rfl (Nat.le_of_ble_eq_true rfl) (mC.mono (mm_contI (fun r3 G4 hK => ?_)) h)
      replace h := hK
      exact mV_zret (by decide +kernel) rfl h.1 h.2
    · replace h := h.2 hc
      refine mV_aload_n (k := 0) (by decide +kernel) rfl ?_
      refine mV_iconst (n := 1) (v := nI 1) (by decide +kernel) (by decide) ?_
      refine mV_cV (as := [.int (nI 1)]) (rest := []) (mc1 := 0) (ms1 := 0) (mc := 0) (ms := 0) (by decide +kernel) md_X5_refuse lk_5_77 sh_7 rfl rfl rfl (Nat.le_of_ble_eq_true rfl) (mC.mono (mm_contI (fun r5 G6 hK => ?_)) h)
      replace h := hK
      exact mV_zret (by decide +kernel) rfl h.1 h.2
set_option maxRecDepth 100000 in
set_option maxHeartbeats 4000000 in
theorem e_X5_labelTold {l : Launch} {κ : mm_K} {d : Nat} {G : mm_G} {K : Int32 → mm_G → Prop} (a1 : Nat) (ha1 : LineAt a1) (a2 : Int32) (h : vp_in (mg_i G 7 6) 401 ∧ ((a2 < 0 → mC l κ true d 0 0 m_X5_accept [.ref 7, .int (nI 2)] (ms_l G a1 9 (mg_l G 5 ((mg_i G 7 6).toNatClampNeg))) (rI (fun r1 G2 => (r1 = 0 ∨ r1 = 1) ∧ K r1 G2))) ∧ (¬ a2 < 0 → (((nI 16) ≤ a2 → mC l κ true d 0 0 m_X5_accept [.ref 7, .int (nI 2)] (ms_l G a1 9 (mg_l G 5 ((mg_i G 7 6).toNatClampNeg))) (rI (fun r3 G4 => (r3 = 0 ∨ r3 = 1) ∧ K r3 G4))) ∧ (¬ (nI 16) ≤ a2 → vp_in (mg_i G 7 6) 401 ∧ vp_in a2 16 ∧ mC l κ true d 0 0 m_X5_accept [.ref 7, .int (nI 2)] (ms_i (ms_l G a1 9 (mg_l G 5 ((mg_i G 7 6).toNatClampNeg))) 49 a2.toNatClampNeg (mg_i G 4 ((mg_i G 7 6).toNatClampNeg))) (rI (fun r5 G6 => (r5 = 0 ∨ r5 = 1) ∧ K r5 G6))))))) : mC l κ true (d + 1) 0 0 m_X5_labelTold [.ref 7, .ref a1, .int a2] G (rI K) := by
  refine mC.of (by decide) (Nat.le_of_ble_eq_true rfl) [some (.ref 7), some (.ref a1), some (.int a2)] rfl ?_
  refine mV_aload_n (k := 1) (by decide +kernel) rfl ?_
  refine mV_aload_n (k := 0) (by decide +kernel) rfl ?_
  refine mV_gfr (r := some 1) (by decide +kernel) fk_5_29 sh_7 (mm_rrs st_7_4) rfl ?_
  refine mV_gfr (r := some 5) (by decide +kernel) fk_5_91 sh_1 (mm_rrs st_1_3) rfl ?_
  refine mV_aload_n (k := 0) (by decide +kernel) rfl ?_
  refine mV_gfix (x := mg_i G 7 6) (by decide +kernel) fk_5_49 sh_7 rfl ?_
  refine mV_lalx (x := mg_l G 5 ((mg_i G 7 6).toNatClampNeg)) (by decide +kernel) sh_5 h.1 rfl ?_
  replace h := h.2
  refine mV_pfl (by decide +kernel) fk_5_124 ha1 ?_
  refine mV_iload_n (k := 2) (by decide +kernel) rfl ?_
  refine mV_if_lt (off := 27) (tgt := 44) (by decide +kernel) (by decide) (fun hc => ?_) (fun hc => ?_)
  · replace h := h.1 hc
    refine mV_aload_n (k := 0) (by decide +kernel) rfl ?_
    refine mV_iconst (n := 2) (v := nI 2) (by decide +kernel) (by decide) ?_
    refine mV_cV (as := [.int (nI 2)]) (rest := []) (mc1 := 0) (ms1 := 0) (mc := 0) (ms := 0) (by decide +kernel) md_X5_accept lk_5_88 sh_7 rfl rfl rfl (Nat.le_of_ble_eq_true rfl) (mC.mono (mm_contI (fun r1 G2 hK => ?_)) h)
    replace h := hK
    exact mV_zret (by decide +kernel) rfl h.1 h.2
  · replace h := h.2 hc
    refine mV_iload_n (k := 2) (by decide +kernel) rfl ?_
    refine mV_bipush (n := 16) (v := nI 16) (by decide +kernel) (by decide) ?_
    refine mV_icmp_ge (off := 21) (tgt := 44) (by decide +kernel) (by decide) (fun hc => ?_) (fun hc => ?_)
    · replace h := h.1 hc
      refine mV_aload_n (k := 0) (by decide +kernel) rfl ?_
      refine mV_iconst (n := 2) (v := nI 2) (by decide +kernel) (by decide) ?_
      refine mV_cV (as := [.int (nI 2)]) (rest := []) (mc1 := 0) (ms1 := 0) (mc := 0) (ms := 0) (by decide +kernel) md_X5_accept lk_5_88 sh_7 rfl rfl rfl (Nat.le_of_ble_eq_true rfl) (mC.mono (mm_contI (fun r3 G4 hK => ?_)) h)
      replace h := hK
      exact mV_zret (by decide +kernel) rfl h.1 h.2
    · replace h := h.2 hc
      refine mV_aload_n (k := 0) (by decide +kernel) rfl ?_
      refine mV_gfr (r := some 49) (by decide +kernel) fk_5_25 sh_7 (mm_rrs st_7_5) rfl ?_
      refine mV_iload_n (k := 2) (by decide +kernel) rfl ?_
      refine mV_aload_n (k := 0) (by decide +kernel) rfl ?_
      refine mV_gfr (r := some 1) (by decide +kernel) fk_5_29 sh_7 (mm_rrs st_7_4) rfl ?_
      refine mV_gfr (r := some 4) (by decide +kernel) fk_5_65 sh_1 (mm_rrs st_1_2) rfl ?_
      refine mV_aload_n (k := 0) (by decide +kernel) rfl ?_
      refine mV_gfix (x := mg_i G 7 6) (by decide +kernel) fk_5_49 sh_7 rfl ?_
      refine mV_ialx (x := mg_i G 4 ((mg_i G 7 6).toNatClampNeg)) (by decide +kernel) sh_4 h.1 rfl ?_
      replace h := h.2
      refine mV_ias (by decide +kernel) sh_49 h.1 ?_
      replace h := h.2
      refine mV_aload_n (k := 0) (by decide +kernel) rfl ?_
      refine mV_iconst (n := 2) (v := nI 2) (by decide +kernel) (by decide) ?_
      refine mV_cV (as := [.int (nI 2)]) (rest := []) (mc1 := 0) (ms1 := 0) (mc := 0) (ms := 0) (by decide +kernel) md_X5_accept lk_5_88 sh_7 rfl rfl rfl (Nat.le_of_ble_eq_true rfl) (mC.mono (mm_contI (fun r5 G6 hK => ?_)) h)
      replace h := hK
      exact mV_zret (by decide +kernel) rfl h.1 h.2
set_option maxRecDepth 100000 in
set_option maxHeartbeats 4000000 in
theorem e_X5_calledTold {l : Launch} {κ : mm_K} {d : Nat} {G : mm_G} {K : Int32 → mm_G → Prop} (a1 : Nat) (ha1 : LineAt a1) (h : vp_in (mg_i G 7 6) 401 ∧ vp_in (mg_i G 7 6) 401 ∧ mC l κ true d 0 0 m_X7_named [.ref 8, .long (mg_l G 5 ((mg_i G 7 6).toNatClampNeg))] G (rI (fun r1 G2 => mC l κ true d 0 0 m_X5_accept [.ref 7, .int (nI 2)] (ms_i G2 a1 10 r1) (rI (fun r3 G4 => ((¬ r3 = 0 → ((0 ≤ (mg_i G4 a1 10) → K (nI 1) G4) ∧ (¬ 0 ≤ (mg_i G4 a1 10) → mC l κ true d 0 0 m_X5_note [.ref 7, .int (nI 4), .int (mg_i G 4 ((mg_i G 7 6).toNatClampNeg))] G4 (rV (fun G6 => K (nI 1) G6))))) ∧ (r3 = 0 → K (nI 0) G4))))))) : mC l κ true (d + 1) 0 0 m_X5_calledTold [.ref 7, .ref a1] G (rI K) := by
  refine mC.of (by decide) (Nat.le_of_ble_eq_true rfl) [some (.ref 7), some (.ref a1), none] rfl ?_
  refine mV_aload_n (k := 0) (by decide +kernel) rfl ?_
  refine mV_gfr (r := some 1) (by decide +kernel) fk_5_29 sh_7 (mm_rrs st_7_4) rfl ?_
  refine mV_gfr (r := some 4) (by decide +kernel) fk_5_65 sh_1 (mm_rrs st_1_2) rfl ?_
  refine mV_aload_n (k := 0) (by decide +kernel) rfl ?_
  refine mV_gfix (x := mg_i G 7 6) (by decide +kernel) fk_5_49 sh_7 rfl ?_
  refine mV_ialx (x := mg_i G 4 ((mg_i G 7 6).toNatClampNeg)) (by decide +kernel) sh_4 h.1 rfl ?_
  replace h := h.2
  refine mV_istore_n (k := 2) (ls' := [some (.ref 7), some (.ref a1), some (.int (mg_i G 4 ((mg_i G 7 6).toNatClampNeg)))]) (by decide +kernel) (Nat.le_of_ble_eq_true rfl) rfl rfl ?_
  refine mV_aload_n (k := 1) (by decide +kernel) rfl ?_
  refine mV_aload_n (k := 0) (by decide +kernel) rfl ?_
  refine mV_gfr (r := some 8) (by decide +kernel) fk_5_12 sh_7 (mm_rrs st_7_0) rfl ?_
  refine mV_aload_n (k := 0) (by decide +kernel) rfl ?_
  refine mV_gfr (r := some 1) (by decide +kernel) fk_5_29 sh_7 (mm_rrs st_7_4) rfl ?_
  refine mV_gfr (r := some 5) (by decide +kernel) fk_5_91 sh_1 (mm_rrs st_1_3) rfl ?_
  refine mV_aload_n (k := 0) (by decide +kernel) rfl ?_
  refine mV_gfix (x := mg_i G 7 6) (by decide +kernel) fk_5_49 sh_7 rfl ?_
  refine mV_lalx (x := mg_l G 5 ((mg_i G 7 6).toNatClampNeg)) (by decide +kernel) sh_5 h.1 rfl ?_
  replace h := h.2
  refine mV_cV (as := [.long (mg_l G 5 ((mg_i G 7 6).toNatClampNeg))]) (rest := [.ref a1]) (mc1 := 0) (ms1 := 0) (mc := 0) (ms := 0) (by decide +kernel) md_X7_named lk_5_99 sh_8 rfl rfl rfl (Nat.le_of_ble_eq_true rfl) (mC.mono (mm_contI (fun r1 G2 hK => ?_)) h)
  replace h := hK
  refine mV_pfi (by decide +kernel) fk_5_187 ha1 ?_
  refine mV_aload_n (k := 0) (by decide +kernel) rfl ?_
  refine mV_iconst (n := 2) (v := nI 2) (by decide +kernel) (by decide) ?_
  refine mV_cV (as := [.int (nI 2)]) (rest := []) (mc1 := 0) (ms1 := 0) (mc := 0) (ms := 0) (by decide +kernel) md_X5_accept lk_5_88 sh_7 rfl rfl rfl (Nat.le_of_ble_eq_true rfl) (mC.mono (mm_contI (fun r3 G4 hK => ?_)) h)
  replace h := hK
  refine mV_if_ne (off := 5) (tgt := 46) (by decide +kernel) (by decide) (fun hc => ?_) (fun hc => ?_)
  · replace h := h.1 hc
    refine mV_aload_n (k := 1) (by decide +kernel) rfl ?_
    refine mV_gfix (x := mg_i G4 a1 10) (by decide +kernel) fk_5_187 ha1 rfl ?_
    refine mV_if_ge (off := 9) (tgt := 59) (by decide +kernel) (by decide) (fun hc => ?_) (fun hc => ?_)
    · replace h := h.1 hc
      refine mV_iconst (n := 1) (v := nI 1) (by decide +kernel) (by decide) ?_
      exact mV_zret (by decide +kernel) rfl (by decide) h
    · replace h := h.2 hc
      refine mV_aload_n (k := 0) (by decide +kernel) rfl ?_
      refine mV_iconst (n := 4) (v := nI 4) (by decide +kernel) (by decide) ?_
      refine mV_iload_n (k := 2) (by decide +kernel) rfl ?_
      refine mV_cV (as := [.int (nI 4), .int (mg_i G 4 ((mg_i G 7 6).toNatClampNeg))]) (rest := []) (mc1 := 0) (ms1 := 0) (mc := 0) (ms := 0) (by decide +kernel) md_X5_note lk_5_103 sh_7 rfl rfl rfl (Nat.le_of_ble_eq_true rfl) (mC.mono (mm_contV (fun G6 hK => ?_)) h)
      replace h := hK
      refine mV_iconst (n := 1) (v := nI 1) (by decide +kernel) (by decide) ?_
      exact mV_zret (by decide +kernel) rfl (by decide) h
  · replace h := h.2 hc
    refine mV_iconst (n := 0) (v := nI 0) (by decide +kernel) (by decide) ?_
    exact mV_zret (by decide +kernel) rfl (by decide) h
set_option maxRecDepth 100000 in
set_option maxHeartbeats 4000000 in
theorem e_X5_trialTold {l : Launch} {κ : mm_K} {d : Nat} {G : mm_G} {K : Int32 → mm_G → Prop}  (h : (((mg_i G 20 4) < (nI 8) → vp_in (mg_i G 20 4) 8 ∧ mC l κ true (d + 2) 0 0 m_X5_accept [.ref 7, .int (nI 37)] (ms_i G 32 ((mg_i G 20 4).toNatClampNeg) (vp_nar .boolean (nI 0))) (rI (fun r1 G2 => ((¬ r1 = 0 → vp_in (mg_i G 20 4) 8 ∧ mC l κ true (d + 2) 0 0 m_X5_numbersTold [.ref 7, .ref (22 + (mg_i G 20 4).toNatClampNeg)] G2 (rI (fun r4 G5 => vp_in (mg_i G 20 4) 8 ∧ ((¬ (mg_i G5 7 2) = 0 → ((¬ (mg_i G5 7 2) = 0 → K (nI 0) (ms_i (ms_i G5 30 ((mg_i G 20 4).toNatClampNeg) r4) 20 4 ((mg_i G5 20 4) + (nI 1)))) ∧ ((mg_i G5 7 2) = 0 → mC l κ true (d + 2) 0 0 m_X5_accept [.ref 7, .int (nI 4)] (ms_i (ms_i G5 30 ((mg_i G 20 4).toNatClampNeg) r4) 20 4 ((mg_i G5 20 4) + (nI 1))) (rI (fun r6 G7 => ((r6 = 0 → K (nI 0) G7) ∧ (¬ r6 = 0 → K (nI 1) G7))))))) ∧ ((mg_i G5 7 2) = 0 → vp_in (mg_i G5 7 6) 401 ∧ ((¬ (mg_i G5 3 ((mg_i G5 7 6).toNatClampNeg)) = (nI 38) → ((¬ (mg_i G5 7 2) = 0 → K (nI 0) (ms_i (ms_i G5 30 ((mg_i G 20 4).toNatClampNeg) r4) 20 4 ((mg_i G5 20 4) + (nI 1)))) ∧ ((mg_i G5 7 2) = 0 → mC l κ true (d + 2) 0 0 m_X5_accept [.ref 7, .int (nI 4)] (ms_i (ms_i G5 30 ((mg_i G 20 4).toNatClampNeg) r4) 20 4 ((mg_i G5 20 4) + (nI 1))) (rI (fun r8 G9 => ((r8 = 0 → K (nI 0) G9) ∧ (¬ r8 = 0 → K (nI 1) G9))))))) ∧ ((mg_i G5 3 ((mg_i G5 7 6).toNatClampNeg)) = (nI 38) → mC l κ true (d + 2) 0 0 m_X5_accept [.ref 7, .int (nI 38)] (ms_i G5 30 ((mg_i G 20 4).toNatClampNeg) r4) (rI (fun r10 G11 => ((r10 = 0 → ((¬ (mg_i G11 7 2) = 0 → K (nI 0) (ms_i G11 20 4 ((mg_i G11 20 4) + (nI 1)))) ∧ ((mg_i G11 7 2) = 0 → mC l κ true (d + 2) 0 0 m_X5_accept [.ref 7, .int (nI 4)] (ms_i G11 20 4 ((mg_i G11 20 4) + (nI 1))) (rI (fun r12 G13 => ((r12 = 0 → K (nI 0) G13) ∧ (¬ r12 = 0 → K (nI 1) G13))))))) ∧ (¬ r10 = 0 → vp_in (mg_i G 20 4) 8 ∧ vp_in (mg_i G 20 4) 8 ∧ mC l κ true (d + 2) 0 0 m_X0_begin [.ref (33 + 2 * (mg_i G 20 4).toNatClampNeg)] (ms_i G11 32 ((mg_i G 20 4).toNatClampNeg) (vp_nar .boolean (nI 1))) (rV (fun G16 => vp_in (mg_i G 20 4) 8 ∧ vp_in (mg_i G 20 4) 8 ∧ mC l κ true (d + 2) 0 0 m_X5_numbersTold [.ref 7, .ref ((33 + 2 * (mg_i G 20 4).toNatClampNeg) + 1)] G16 (rI (fun r19 G20 => ((¬ (mg_i (ms_i G20 (33 + 2 * (mg_i G 20 4).toNatClampNeg) 1 r19) 7 2) = 0 → K (nI 0) (ms_i (ms_i G20 (33 + 2 * (mg_i G 20 4).toNatClampNeg) 1 r19) 20 4 ((mg_i (ms_i G20 (33 + 2 * (mg_i G 20 4).toNatClampNeg) 1 r19) 20 4) + (nI 1)))) ∧ ((mg_i (ms_i G20 (33 + 2 * (mg_i G 20 4).toNatClampNeg) 1 r19) 7 2) = 0 → mC l κ true (d + 2) 0 0 m_X5_accept [.ref 7, .int (nI 4)] (ms_i (ms_i G20 (33 + 2 * (mg_i G 20 4).toNatClampNeg) 1 r19) 20 4 ((mg_i (ms_i G20 (33 + 2 * (mg_i G 20 4).toNatClampNeg) 1 r19) 20 4) + (nI 1))) (rI (fun r21 G22 => ((r21 = 0 → K (nI 0) G22) ∧ (¬ r21 = 0 → K (nI 1) G22))))))))))))))))))))) ∧ (r1 = 0 → K (nI 0) G2))))) ∧ (¬ (mg_i G 20 4) < (nI 8) → mC l κ true (d + 2) 0 0 m_X5_refuse [.ref 7, .int (nI 2)] G (rI (fun r23 G24 => (r23 = 0 ∨ r23 = 1) ∧ K r23 G24))))) : mC l κ true (d + 3) 0 0 m_X5_trialTold [.ref 7] G (rI K) := by
  refine mC.of (by decide) (Nat.le_of_ble_eq_true rfl) [some (.ref 7), none] rfl ?_
  refine mV_aload_n (k := 0) (by decide +kernel) rfl ?_
  refine mV_gfr (r := some 20) (by decide +kernel) fk_5_21 sh_7 (mm_rrs st_7_1) rfl ?_
  refine mV_gfix (x := mg_i G 20 4) (by decide +kernel) fk_5_190 sh_20 rfl ?_
  refine mV_bipush (n := 8) (v := nI 8) (by decide +kernel) (by decide) ?_
  refine mV_icmp_lt (off := 9) (tgt := 18) (by decide +kernel) (by decide) (fun hc => ?_) (fun hc => ?_)
  · replace h := h.1 hc
    refine mV_aload_n (k := 0) (by decide +kernel) rfl ?_
    refine mV_gfr (r := some 20) (by decide +kernel) fk_5_21 sh_7 (mm_rrs st_7_1) rfl ?_
    refine mV_gfix (x := mg_i G 20 4) (by decide +kernel) fk_5_190 sh_20 rfl ?_
    refine mV_istore_n (k := 1) (ls' := [some (.ref 7), some (.int (mg_i G 20 4))]) (by decide +kernel) (Nat.le_of_ble_eq_true rfl) rfl rfl ?_
    refine mV_aload_n (k := 0) (by decide +kernel) rfl ?_
    refine mV_gfr (r := some 20) (by decide +kernel) fk_5_21 sh_7 (mm_rrs st_7_1) rfl ?_
    refine mV_gfr (r := some 32) (by decide +kernel) fk_5_191 sh_20 (mm_rrs st_20_3) rfl ?_
    refine mV_iload_n (k := 1) (by decide +kernel) rfl ?_
    refine mV_iconst (n := 0) (v := nI 0) (by decide +kernel) (by decide) ?_
    refine mV_zas (by decide +kernel) sh_32 h.1 ?_
    replace h := h.2
    refine mV_aload_n (k := 0) (by decide +kernel) rfl ?_
    refine mV_bipush (n := 37) (v := nI 37) (by decide +kernel) (by decide) ?_
    refine mV_cV (as := [.int (nI 37)]) (rest := []) (mc1 := 0) (ms1 := 0) (mc := 0) (ms := 0) (by decide +kernel) md_X5_accept lk_5_88 sh_7 rfl rfl rfl (Nat.le_of_ble_eq_true rfl) (mC.mono (mm_contI (fun r1 G2 hK => ?_)) h)
    replace h := hK
    refine mV_if_ne (off := 5) (tgt := 47) (by decide +kernel) (by decide) (fun hc => ?_) (fun hc => ?_)
    · replace h := h.1 hc
      refine mV_aload_n (k := 0) (by decide +kernel) rfl ?_
      refine mV_gfr (r := some 20) (by decide +kernel) fk_5_21 sh_7 (mm_rrs st_7_1) rfl ?_
      refine mV_gfr (r := some 30) (by decide +kernel) fk_5_195 sh_20 (mm_rrs st_20_1) rfl ?_
      refine mV_iload_n (k := 1) (by decide +kernel) rfl ?_
      refine mV_aload_n (k := 0) (by decide +kernel) rfl ?_
      refine mV_aload_n (k := 0) (by decide +kernel) rfl ?_
      refine mV_gfr (r := some 20) (by decide +kernel) fk_5_21 sh_7 (mm_rrs st_7_1) rfl ?_
      refine mV_gfr (r := some 21) (by decide +kernel) fk_5_198 sh_20 (mm_rrs st_20_0) rfl ?_
      refine mV_iload_n (k := 1) (by decide +kernel) rfl ?_
      have hj3 := h.1
      replace h := h.2
      refine mV_aal (t := 8) (r := some (22 + (mg_i G 20 4).toNatClampNeg)) (by decide +kernel) sh_21 (by decide) hj3 (mm_rrs (mm_num0 _ (mm_ixlt hj3)).2) rfl ?_
      refine mV_cV (as := [.ref (22 + (mg_i G 20 4).toNatClampNeg)]) (rest := [.int (mg_i G 20 4), .ref 30]) (mc1 := 0) (ms1 := 0) (mc := 0) (ms := 0) (by decide +kernel) md_X5_numbersTold lk_5_202 sh_7 rfl rfl rfl (Nat.le_of_ble_eq_true rfl) (mC.mono (mm_contI (fun r4 G5 hK => ?_)) h)
      replace h := hK
      refine mV_ias (by decide +kernel) sh_30 h.1 ?_
      replace h := h.2
      refine mV_aload_n (k := 0) (by decide +kernel) rfl ?_
      refine mV_gfix (x := mg_i G5 7 2) (by decide +kernel) fk_5_42 sh_7 rfl ?_
      refine mV_if_ne (off := 79) (tgt := 152) (by decide +kernel) (by decide) (fun hc => ?_) (fun hc => ?_)
      · replace h := h.1 hc
        refine mV_aload_n (k := 0) (by decide +kernel) rfl ?_
        refine mV_gfr (r := some 20) (by decide +kernel) fk_5_21 sh_7 (mm_rrs st_7_1) rfl ?_
        refine mV_dup (by decide +kernel) rfl ?_
        refine mV_gfix (x := mg_i G5 20 4) (by decide +kernel) fk_5_190 sh_20 rfl ?_
        refine mV_iconst (n := 1) (v := nI 1) (by decide +kernel) (by decide) ?_
        refine mV_iadd (by decide +kernel) ?_
        refine mV_pfi (by decide +kernel) fk_5_190 sh_20 ?_
        refine mV_aload_n (k := 0) (by decide +kernel) rfl ?_
        refine mV_gfix (x := mg_i G5 7 2) (by decide +kernel) fk_5_42 sh_7 rfl ?_
        refine mV_if_ne (off := 15) (tgt := 184) (by decide +kernel) (by decide) (fun hc => ?_) (fun hc => ?_)
        · replace h := h.1 hc
          refine mV_iconst (n := 0) (v := nI 0) (by decide +kernel) (by decide) ?_
          exact mV_zret (by decide +kernel) rfl (by decide) h
        · replace h := h.2 hc
          refine mV_aload_n (k := 0) (by decide +kernel) rfl ?_
          refine mV_iconst (n := 4) (v := nI 4) (by decide +kernel) (by decide) ?_
          refine mV_cV (as := [.int (nI 4)]) (rest := []) (mc1 := 0) (ms1 := 0) (mc := 0) (ms := 0) (by decide +kernel) md_X5_accept lk_5_88 sh_7 rfl rfl rfl (Nat.le_of_ble_eq_true rfl) (mC.mono (mm_contI (fun r6 G7 hK => ?_)) h)
          replace h := hK
          refine mV_if_eq (off := 7) (tgt := 184) (by decide +kernel) (by decide) (fun hc => ?_) (fun hc => ?_)
          · replace h := h.1 hc
            refine mV_iconst (n := 0) (v := nI 0) (by decide +kernel) (by decide) ?_
            exact mV_zret (by decide +kernel) rfl (by decide) h
          · replace h := h.2 hc
            refine mV_iconst (n := 1) (v := nI 1) (by decide +kernel) (by decide) ?_
            refine mV_goto (off := 4) (tgt := 185) (by decide +kernel) (by decide) ?_
            exact mV_zret (by decide +kernel) rfl (by decide) h
      · replace h := h.2 hc
        refine mV_aload_n (k := 0) (by decide +kernel) rfl ?_
        refine mV_gfr (r := some 1) (by decide +kernel) fk_5_29 sh_7 (mm_rrs st_7_4) rfl ?_
        refine mV_gfr (r := some 3) (by decide +kernel) fk_5_52 sh_1 (mm_rrs st_1_1) rfl ?_
        refine mV_aload_n (k := 0) (by decide +kernel) rfl ?_
        refine mV_gfix (x := mg_i G5 7 6) (by decide +kernel) fk_5_49 sh_7 rfl ?_
        refine mV_ialx (x := mg_i G5 3 ((mg_i G5 7 6).toNatClampNeg)) (by decide +kernel) sh_3 h.1 rfl ?_
        replace h := h.2
        refine mV_bipush (n := 38) (v := nI 38) (by decide +kernel) (by decide) ?_
        refine mV_icmp_ne (off := 62) (tgt := 152) (by decide +kernel) (by decide) (fun hc => ?_) (fun hc => ?_)
        · replace h := h.1 hc
          refine mV_aload_n (k := 0) (by decide +kernel) rfl ?_
          refine mV_gfr (r := some 20) (by decide +kernel) fk_5_21 sh_7 (mm_rrs st_7_1) rfl ?_
          refine mV_dup (by decide +kernel) rfl ?_
          refine mV_gfix (x := mg_i G5 20 4) (by decide +kernel) fk_5_190 sh_20 rfl ?_
          refine mV_iconst (n := 1) (v := nI 1) (by decide +kernel) (by decide) ?_
          refine mV_iadd (by decide +kernel) ?_
          refine mV_pfi (by decide +kernel) fk_5_190 sh_20 ?_
          refine mV_aload_n (k := 0) (by decide +kernel) rfl ?_
          refine mV_gfix (x := mg_i G5 7 2) (by decide +kernel) fk_5_42 sh_7 rfl ?_
          refine mV_if_ne (off := 15) (tgt := 184) (by decide +kernel) (by decide) (fun hc => ?_) (fun hc => ?_)
          · replace h := h.1 hc
            refine mV_iconst (n := 0) (v := nI 0) (by decide +kernel) (by decide) ?_
            exact mV_zret (by decide +kernel) rfl (by decide) h
          · replace h := h.2 hc
            refine mV_aload_n (k := 0) (by decide +kernel) rfl ?_
            refine mV_iconst (n := 4) (v := nI 4) (by decide +kernel) (by decide) ?_
            refine mV_cV (as := [.int (nI 4)]) (rest := []) (mc1 := 0) (ms1 := 0) (mc := 0) (ms := 0) (by decide +kernel) md_X5_accept lk_5_88 sh_7 rfl rfl rfl (Nat.le_of_ble_eq_true rfl) (mC.mono (mm_contI (fun r8 G9 hK => ?_)) h)
            replace h := hK
            refine mV_if_eq (off := 7) (tgt := 184) (by decide +kernel) (by decide) (fun hc => ?_) (fun hc => ?_)
            · replace h := h.1 hc
              refine mV_iconst (n := 0) (v := nI 0) (by decide +kernel) (by decide) ?_
              exact mV_zret (by decide +kernel) rfl (by decide) h
            · replace h := h.2 hc
              refine mV_iconst (n := 1) (v := nI 1) (by decide +kernel) (by decide) ?_
              refine mV_goto (off := 4) (tgt := 185) (by decide +kernel) (by decide) ?_
              exact mV_zret (by decide +kernel) rfl (by decide) h
        · replace h := h.2 hc
          refine mV_aload_n (k := 0) (by decide +kernel) rfl ?_
          refine mV_bipush (n := 38) (v := nI 38) (by decide +kernel) (by decide) ?_
          refine mV_cV (as := [.int (nI 38)]) (rest := []) (mc1 := 0) (ms1 := 0) (mc := 0) (ms := 0) (by decide +kernel) md_X5_accept lk_5_88 sh_7 rfl rfl rfl (Nat.le_of_ble_eq_true rfl) (mC.mono (mm_contI (fun r10 G11 hK => ?_)) h)
          replace h := hK
          refine mV_if_eq (off := 53) (tgt := 152) (by decide +kernel) (by decide) (fun hc => ?_) (fun hc => ?_)
          · replace h := h.1 hc
            refine mV_aload_n (k := 0) (by decide +kernel) rfl ?_
            refine mV_gfr (r := some 20) (by decide +kernel) fk_5_21 sh_7 (mm_rrs st_7_1) rfl ?_
            refine mV_dup (by decide +kernel) rfl ?_
            refine mV_gfix (x := mg_i G11 20 4) (by decide +kernel) fk_5_190 sh_20 rfl ?_
            refine mV_iconst (n := 1) (v := nI 1) (by decide +kernel) (by decide) ?_
            refine mV_iadd (by decide +kernel) ?_
            refine mV_pfi (by decide +kernel) fk_5_190 sh_20 ?_
            refine mV_aload_n (k := 0) (by decide +kernel) rfl ?_
            refine mV_gfix (x := mg_i G11 7 2) (by decide +kernel) fk_5_42 sh_7 rfl ?_
            refine mV_if_ne (off := 15) (tgt := 184) (by decide +kernel) (by decide) (fun hc => ?_) (fun hc => ?_)
            · replace h := h.1 hc
              refine mV_iconst (n := 0) (v := nI 0) (by decide +kernel) (by decide) ?_
              exact mV_zret (by decide +kernel) rfl (by decide) h
            · replace h := h.2 hc
              refine mV_aload_n (k := 0) (by decide +kernel) rfl ?_
              refine mV_iconst (n := 4) (v := nI 4) (by decide +kernel) (by decide) ?_
              refine mV_cV (as := [.int (nI 4)]) (rest := []) (mc1 := 0) (ms1 := 0) (mc := 0) (ms := 0) (by decide +kernel) md_X5_accept lk_5_88 sh_7 rfl rfl rfl (Nat.le_of_ble_eq_true rfl) (mC.mono (mm_contI (fun r12 G13 hK => ?_)) h)
              replace h := hK
              refine mV_if_eq (off := 7) (tgt := 184) (by decide +kernel) (by decide) (fun hc => ?_) (fun hc => ?_)
              · replace h := h.1 hc
                refine mV_iconst (n := 0) (v := nI 0) (by decide +kernel) (by decide) ?_
                exact mV_zret (by decide +kernel) rfl (by decide) h
              · replace h := h.2 hc
                refine mV_iconst (n := 1) (v := nI 1) (by decide +kernel) (by decide) ?_
                refine mV_goto (off := 4) (tgt := 185) (by decide +kernel) (by decide) ?_
                exact mV_zret (by decide +kernel) rfl (by decide) h
          · replace h := h.2 hc
            refine mV_aload_n (k := 0) (by decide +kernel) rfl ?_
            refine mV_gfr (r := some 20) (by decide +kernel) fk_5_21 sh_7 (mm_rrs st_7_1) rfl ?_
            refine mV_gfr (r := some 32) (by decide +kernel) fk_5_191 sh_20 (mm_rrs st_20_3) rfl ?_
            refine mV_iload_n (k := 1) (by decide +kernel) rfl ?_
            refine mV_iconst (n := 1) (v := nI 1) (by decide +kernel) (by decide) ?_
            refine mV_zas (by decide +kernel) sh_32 h.1 ?_
            replace h := h.2
            refine mV_aload_n (k := 0) (by decide +kernel) rfl ?_
            refine mV_gfr (r := some 20) (by decide +kernel) fk_5_21 sh_7 (mm_rrs st_7_1) rfl ?_
            refine mV_gfr (r := some 31) (by decide +kernel) fk_5_206 sh_20 (mm_rrs st_20_2) rfl ?_
            refine mV_iload_n (k := 1) (by decide +kernel) rfl ?_
            have hj14 := h.1
            replace h := h.2
            refine mV_aal (t := 7) (r := some (33 + 2 * (mg_i G 20 4).toNatClampNeg)) (by decide +kernel) sh_31 (by decide) hj14 (mm_rrs (mm_deed0 _ (mm_ixlt hj14)).2) rfl ?_
            refine mV_cV (as := []) (rest := []) (mc1 := 0) (ms1 := 0) (mc := 0) (ms := 0) (by decide +kernel) md_X0_begin lk_5_210 (mm_deedP (mm_deed0 _ (mm_ixlt hj14)).1).1 rfl rfl rfl (Nat.le_of_ble_eq_true rfl) (mC.mono (mm_contV (fun G16 hK => ?_)) h)
            replace h := hK
            refine mV_aload_n (k := 0) (by decide +kernel) rfl ?_
            refine mV_gfr (r := some 20) (by decide +kernel) fk_5_21 sh_7 (mm_rrs st_7_1) rfl ?_
            refine mV_gfr (r := some 31) (by decide +kernel) fk_5_206 sh_20 (mm_rrs st_20_2) rfl ?_
            refine mV_iload_n (k := 1) (by decide +kernel) rfl ?_
            have hj17 := h.1
            replace h := h.2
            refine mV_aal (t := 7) (r := some (33 + 2 * (mg_i G 20 4).toNatClampNeg)) (by decide +kernel) sh_31 (by decide) hj17 (mm_rrs (mm_deed0 _ (mm_ixlt hj17)).2) rfl ?_
            refine mV_aload_n (k := 0) (by decide +kernel) rfl ?_
            refine mV_aload_n (k := 0) (by decide +kernel) rfl ?_
            refine mV_gfr (r := some 20) (by decide +kernel) fk_5_21 sh_7 (mm_rrs st_7_1) rfl ?_
            refine mV_gfr (r := some 31) (by decide +kernel) fk_5_206 sh_20 (mm_rrs st_20_2) rfl ?_
            refine mV_iload_n (k := 1) (by decide +kernel) rfl ?_
            have hj18 := h.1
            replace h := h.2
            refine mV_aal (t := 7) (r := some (33 + 2 * (mg_i G 20 4).toNatClampNeg)) (by decide +kernel) sh_31 (by decide) hj18 (mm_rrs (mm_deed0 _ (mm_ixlt hj18)).2) rfl ?_
            refine mV_gfr (r := some ((33 + 2 * (mg_i G 20 4).toNatClampNeg) + 1)) (by decide +kernel) fk_5_215 (mm_deedP (mm_deed0 _ (mm_ixlt hj18)).1).1 (mm_rrs (mm_deedP (mm_deed0 _ (mm_ixlt hj18)).1).2.2) rfl ?_
            refine mV_cV (as := [.ref ((33 + 2 * (mg_i G 20 4).toNatClampNeg) + 1)]) (rest := [.ref (33 + 2 * (mg_i G 20 4).toNatClampNeg)]) (mc1 := 0) (ms1 := 0) (mc := 0) (ms := 0) (by decide +kernel) md_X5_numbersTold lk_5_202 sh_7 rfl rfl rfl (Nat.le_of_ble_eq_true rfl) (mC.mono (mm_contI (fun r19 G20 hK => ?_)) h)
            replace h := hK
            refine mV_pfi (by decide +kernel) fk_5_217 (mm_deedP (mm_deed0 _ (mm_ixlt hj17)).1).1 ?_
            refine mV_aload_n (k := 0) (by decide +kernel) rfl ?_
            refine mV_gfr (r := some 20) (by decide +kernel) fk_5_21 sh_7 (mm_rrs st_7_1) rfl ?_
            refine mV_dup (by decide +kernel) rfl ?_
            refine mV_gfix (x := mg_i (ms_i G20 (33 + 2 * (mg_i G 20 4).toNatClampNeg) 1 r19) 20 4) (by decide +kernel) fk_5_190 sh_20 rfl ?_
            refine mV_iconst (n := 1) (v := nI 1) (by decide +kernel) (by decide) ?_
            refine mV_iadd (by decide +kernel) ?_
            refine mV_pfi (by decide +kernel) fk_5_190 sh_20 ?_
            refine mV_aload_n (k := 0) (by decide +kernel) rfl ?_
            refine mV_gfix (x := mg_i (ms_i G20 (33 + 2 * (mg_i G 20 4).toNatClampNeg) 1 r19) 7 2) (by decide +kernel) fk_5_42 sh_7 rfl ?_
            refine mV_if_ne (off := 15) (tgt := 184) (by decide +kernel) (by decide) (fun hc => ?_) (fun hc => ?_)
            · replace h := h.1 hc
              refine mV_iconst (n := 0) (v := nI 0) (by decide +kernel) (by decide) ?_
              exact mV_zret (by decide +kernel) rfl (by decide) h
            · replace h := h.2 hc
              refine mV_aload_n (k := 0) (by decide +kernel) rfl ?_
              refine mV_iconst (n := 4) (v := nI 4) (by decide +kernel) (by decide) ?_
              refine mV_cV (as := [.int (nI 4)]) (rest := []) (mc1 := 0) (ms1 := 0) (mc := 0) (ms := 0) (by decide +kernel) md_X5_accept lk_5_88 sh_7 rfl rfl rfl (Nat.le_of_ble_eq_true rfl) (mC.mono (mm_contI (fun r21 G22 hK => ?_)) h)
              replace h := hK
              refine mV_if_eq (off := 7) (tgt := 184) (by decide +kernel) (by decide) (fun hc => ?_) (fun hc => ?_)
              · replace h := h.1 hc
                refine mV_iconst (n := 0) (v := nI 0) (by decide +kernel) (by decide) ?_
                exact mV_zret (by decide +kernel) rfl (by decide) h
              · replace h := h.2 hc
                refine mV_iconst (n := 1) (v := nI 1) (by decide +kernel) (by decide) ?_
                refine mV_goto (off := 4) (tgt := 185) (by decide +kernel) (by decide) ?_
                exact mV_zret (by decide +kernel) rfl (by decide) h
    · replace h := h.2 hc
      refine mV_iconst (n := 0) (v := nI 0) (by decide +kernel) (by decide) ?_
      exact mV_zret (by decide +kernel) rfl (by decide) h
  · replace h := h.2 hc
    refine mV_aload_n (k := 0) (by decide +kernel) rfl ?_
    refine mV_iconst (n := 2) (v := nI 2) (by decide +kernel) (by decide) ?_
    refine mV_cV (as := [.int (nI 2)]) (rest := []) (mc1 := 0) (ms1 := 0) (mc := 0) (ms := 0) (by decide +kernel) md_X5_refuse lk_5_77 sh_7 rfl rfl rfl (Nat.le_of_ble_eq_true rfl) (mC.mono (mm_contI (fun r23 G24 hK => ?_)) h)
    replace h := hK
    exact mV_zret (by decide +kernel) rfl h.1 h.2
set_option maxRecDepth 100000 in
set_option maxHeartbeats 4000000 in
theorem e_X5_numbersTold {l : Launch} {κ : mm_K} {d : Nat} {G : mm_G} {K : Int32 → mm_G → Prop} (a1 na1 : Nat) (ha1 : mm_sh a1 = (1, 0, na1)) (h : mV l κ true (d + 2) 0 0 m_X5_numbersTold 4 [some (.ref 7), some (.ref a1), some (.int (nI 0)), some (.int (nI 0))] [] G (rI K)) : mC l κ true (d + 2) 0 0 m_X5_numbersTold [.ref 7, .ref a1] G (rI K) := by
  refine mC.of (by decide) (Nat.le_of_ble_eq_true rfl) [some (.ref 7), some (.ref a1), none, none] rfl ?_
  refine mV_iconst (n := 0) (v := nI 0) (by decide +kernel) (by decide) ?_
  refine mV_istore_n (k := 2) (ls' := [some (.ref 7), some (.ref a1), some (.int (nI 0)), none]) (by decide +kernel) (Nat.le_of_ble_eq_true rfl) rfl rfl ?_
  refine mV_iconst (n := 0) (v := nI 0) (by decide +kernel) (by decide) ?_
  refine mV_istore_n (k := 3) (ls' := [some (.ref 7), some (.ref a1), some (.int (nI 0)), some (.int (nI 0))]) (by decide +kernel) (Nat.le_of_ble_eq_true rfl) rfl rfl ?_
  exact h
set_option maxRecDepth 100000 in
set_option maxHeartbeats 4000000 in
theorem p_X5_numbersTold_4 {l : Launch} {κ : mm_K} {d : Nat} {G : mm_G} {K : Int32 → mm_G → Prop} (a1 na1 : Nat) (ha1 : mm_sh a1 = (1, 0, na1)) (v2 : Int32) (v3 : Int32) (h : (((nI na1) < v3 → K v2 G) ∧ (¬ (nI na1) < v3 → ((¬ (mg_i G 7 2) = 0 → K v2 G) ∧ ((mg_i G 7 2) = 0 → vp_in (mg_i G 7 6) 401 ∧ mC l κ true (d + 1) 0 0 m_X5_isNumber [.int (mg_i G 3 ((mg_i G 7 6).toNatClampNeg))] G (rI (fun r1 G2 => ((r1 = 0 → K v2 G2) ∧ (¬ r1 = 0 → ((v2 < (nI na1) → mC l κ true (d + 1) 0 0 m_X5_numberTold [.ref 7] G2 (rI (fun r3 G4 => ((r3 = 0 → mV l κ true (d + 2) 0 0 m_X5_numbersTold 4 [some (.ref 7), some (.ref a1), some (.int v2), some (.int (v3 + (nI 1)))] [] G4 (rI K)) ∧ (¬ r3 = 0 → vp_in v2 na1 ∧ mV l κ true (d + 2) 0 0 m_X5_numbersTold 4 [some (.ref 7), some (.ref a1), some (.int (v2 + (nI 1))), some (.int (v3 + (nI 1)))] [] (ms_i G4 a1 v2.toNatClampNeg (mg_i G4 7 7)) (rI K)))))) ∧ (¬ v2 < (nI na1) → mV l κ true (d + 2) 0 0 m_X5_numbersTold 4 [some (.ref 7), some (.ref a1), some (.int v2), some (.int (v3 + (nI 1)))] [] (ms_i G2 7 2 (nI 2)) (rI K)))))))))))) : mV l κ true (d + 2) 0 0 m_X5_numbersTold 4 [some (.ref 7), some (.ref a1), some (.int v2), some (.int v3)] [] G (rI K) := by
  refine mV_iload_n (k := 3) (by decide +kernel) rfl ?_
  refine mV_aload_n (k := 1) (by decide +kernel) rfl ?_
  refine mV_alen (v := nI na1) (by decide +kernel) ha1 (by decide) rfl ?_
  refine mV_icmp_gt (off := 65) (tgt := 72) (by decide +kernel) (by decide) (fun hc => ?_) (fun hc => ?_)
  · replace h := h.1 hc
    refine mV_iload_n (k := 2) (by decide +kernel) rfl ?_
    exact mV_iret (by decide +kernel) rfl h
  · replace h := h.2 hc
    refine mV_aload_n (k := 0) (by decide +kernel) rfl ?_
    refine mV_gfix (x := mg_i G 7 2) (by decide +kernel) fk_5_42 sh_7 rfl ?_
    refine mV_if_ne (off := 58) (tgt := 72) (by decide +kernel) (by decide) (fun hc => ?_) (fun hc => ?_)
    · replace h := h.1 hc
      refine mV_iload_n (k := 2) (by decide +kernel) rfl ?_
      exact mV_iret (by decide +kernel) rfl h
    · replace h := h.2 hc
      refine mV_aload_n (k := 0) (by decide +kernel) rfl ?_
      refine mV_gfr (r := some 1) (by decide +kernel) fk_5_29 sh_7 (mm_rrs st_7_4) rfl ?_
      refine mV_gfr (r := some 3) (by decide +kernel) fk_5_52 sh_1 (mm_rrs st_1_1) rfl ?_
      refine mV_aload_n (k := 0) (by decide +kernel) rfl ?_
      refine mV_gfix (x := mg_i G 7 6) (by decide +kernel) fk_5_49 sh_7 rfl ?_
      refine mV_ialx (x := mg_i G 3 ((mg_i G 7 6).toNatClampNeg)) (by decide +kernel) sh_3 h.1 rfl ?_
      replace h := h.2
      refine mV_cS (as := [.int (mg_i G 3 ((mg_i G 7 6).toNatClampNeg))]) (rest := []) (mc1 := 0) (ms1 := 0) (mc := 0) (ms := 0) (by decide +kernel) md_X5_isNumber lk_5_218 rfl rfl (Nat.le_of_ble_eq_true rfl) (mC.mono (mm_contI (fun r1 G2 hK => ?_)) h)
      replace h := hK
      refine mV_if_eq (off := 40) (tgt := 72) (by decide +kernel) (by decide) (fun hc => ?_) (fun hc => ?_)
      · replace h := h.1 hc
        refine mV_iload_n (k := 2) (by decide +kernel) rfl ?_
        exact mV_iret (by decide +kernel) rfl h
      · replace h := h.2 hc
        refine mV_iload_n (k := 2) (by decide +kernel) rfl ?_
        refine mV_aload_n (k := 1) (by decide +kernel) rfl ?_
        refine mV_alen (v := nI na1) (by decide +kernel) ha1 (by decide) rfl ?_
        refine mV_icmp_lt (off := 11) (tgt := 49) (by decide +kernel) (by decide) (fun hc => ?_) (fun hc => ?_)
        · replace h := h.1 hc
          refine mV_aload_n (k := 0) (by decide +kernel) rfl ?_
          refine mV_cV (as := []) (rest := []) (mc1 := 0) (ms1 := 0) (mc := 0) (ms := 0) (by decide +kernel) md_X5_numberTold lk_5_169 sh_7 rfl rfl rfl (Nat.le_of_ble_eq_true rfl) (mC.mono (mm_contI (fun r3 G4 hK => ?_)) h)
          replace h := hK
          refine mV_if_eq (off := 13) (tgt := 66) (by decide +kernel) (by decide) (fun hc => ?_) (fun hc => ?_)
          · replace h := h.1 hc
            refine mV_iincc (i := 3) (n := 1) (c := nI 1) (ls' := [some (.ref 7), some (.ref a1), some (.int v2), some (.int (v3 + (nI 1)))]) (by decide +kernel) (by decide) rfl (Nat.le_of_ble_eq_true rfl) rfl rfl ?_
            refine mV_goto (off := -65) (tgt := 4) (by decide +kernel) (by decide) ?_
            exact h
          · replace h := h.2 hc
            refine mV_aload_n (k := 1) (by decide +kernel) rfl ?_
            refine mV_iload_n (k := 2) (by decide +kernel) rfl ?_
            refine mV_aload_n (k := 0) (by decide +kernel) rfl ?_
            refine mV_gfix (x := mg_i G4 7 7) (by decide +kernel) fk_5_166 sh_7 rfl ?_
            refine mV_ias (by decide +kernel) ha1 h.1 ?_
            replace h := h.2
            refine mV_iincc (i := 2) (n := 1) (c := nI 1) (ls' := [some (.ref 7), some (.ref a1), some (.int (v2 + (nI 1))), some (.int v3)]) (by decide +kernel) (by decide) rfl (Nat.le_of_ble_eq_true rfl) rfl rfl ?_
            refine mV_iincc (i := 3) (n := 1) (c := nI 1) (ls' := [some (.ref 7), some (.ref a1), some (.int (v2 + (nI 1))), some (.int (v3 + (nI 1)))]) (by decide +kernel) (by decide) rfl (Nat.le_of_ble_eq_true rfl) rfl rfl ?_
            refine mV_goto (off := -65) (tgt := 4) (by decide +kernel) (by decide) ?_
            exact h
        · replace h := h.2 hc
          refine mV_aload_n (k := 0) (by decide +kernel) rfl ?_
          refine mV_iconst (n := 2) (v := nI 2) (by decide +kernel) (by decide) ?_
          refine mV_pfi (by decide +kernel) fk_5_42 sh_7 ?_
          refine mV_goto (off := 20) (tgt := 66) (by decide +kernel) (by decide) ?_
          refine mV_iincc (i := 3) (n := 1) (c := nI 1) (ls' := [some (.ref 7), some (.ref a1), some (.int v2), some (.int (v3 + (nI 1)))]) (by decide +kernel) (by decide) rfl (Nat.le_of_ble_eq_true rfl) rfl rfl ?_
          refine mV_goto (off := -65) (tgt := 4) (by decide +kernel) (by decide) ?_
          exact h
set_option maxRecDepth 100000 in
set_option maxHeartbeats 4000000 in
theorem e_X5_isNumber {l : Launch} {κ : mm_K} {d : Nat} {G : mm_G} {K : Int32 → mm_G → Prop} (a1 : Int32) (h : ((a1 = (nI 8) → K (nI 1) G) ∧ (¬ a1 = (nI 8) → ((¬ a1 = (nI 3) → K (nI 0) G) ∧ (a1 = (nI 3) → K (nI 1) G))))) : mC l κ true d 0 0 m_X5_isNumber [.int a1] G (rI K) := by
  refine mC.of (by decide) (Nat.le_of_ble_eq_true rfl) [some (.int a1)] rfl ?_
  refine mV_iload_n (k := 0) (by decide +kernel) rfl ?_
  refine mV_bipush (n := 8) (v := nI 8) (by decide +kernel) (by decide) ?_
  refine mV_icmp_eq (off := 8) (tgt := 11) (by decide +kernel) (by decide) (fun hc => ?_) (fun hc => ?_)
  · replace h := h.1 hc
    refine mV_iconst (n := 1) (v := nI 1) (by decide +kernel) (by decide) ?_
    refine mV_goto (off := 4) (tgt := 16) (by decide +kernel) (by decide) ?_
    exact mV_zret (by decide +kernel) rfl (by decide) h
  · replace h := h.2 hc
    refine mV_iload_n (k := 0) (by decide +kernel) rfl ?_
    refine mV_iconst (n := 3) (v := nI 3) (by decide +kernel) (by decide) ?_
    refine mV_icmp_ne (off := 7) (tgt := 15) (by decide +kernel) (by decide) (fun hc => ?_) (fun hc => ?_)
    · replace h := h.1 hc
      refine mV_iconst (n := 0) (v := nI 0) (by decide +kernel) (by decide) ?_
      exact mV_zret (by decide +kernel) rfl (by decide) h
    · replace h := h.2 hc
      refine mV_iconst (n := 1) (v := nI 1) (by decide +kernel) (by decide) ?_
      refine mV_goto (off := 4) (tgt := 16) (by decide +kernel) (by decide) ?_
      exact mV_zret (by decide +kernel) rfl (by decide) h
set_option maxRecDepth 100000 in
set_option maxHeartbeats 4000000 in
theorem e_X5_fuelTold {l : Launch} {κ : mm_K} {d : Nat} {G : mm_G} {K : Int32 → mm_G → Prop}  (h : mC l κ true d 0 0 m_X5_accept [.ref 7, .int (nI 39)] G (rI (fun r1 G2 => ((¬ r1 = 0 → vp_in (mg_i G2 7 6) 401 ∧ vp_in (mg_i G2 7 6) 401 ∧ mC l κ true d 0 0 m_X5_accept [.ref 7, .int (nI 3)] G2 (rI (fun r3 G4 => ((r3 = 0 → K (nI 0) G4) ∧ (¬ r3 = 0 → mC l κ true d 0 0 m_X5_accept [.ref 7, .int (nI 4)] G4 (rI (fun r5 G6 => ((¬ r5 = 0 → ((((mg_l G2 5 ((mg_i G2 7 6).toNatClampNeg)).toInt32) < (nI 1) → mC l κ true d 0 0 m_X5_note [.ref 7, .int (nI 5), .int (mg_i G2 4 ((mg_i G2 7 6).toNatClampNeg))] G6 (rV (fun G8 => K (nI 1) G8))) ∧ (¬ ((mg_l G2 5 ((mg_i G2 7 6).toNatClampNeg)).toInt32) < (nI 1) → ((((mg_l G2 5 ((mg_i G2 7 6).toNatClampNeg)).toInt32) ≤ (nI 300) → K (nI 1) (ms_i G6 20 5 ((mg_l G2 5 ((mg_i G2 7 6).toNatClampNeg)).toInt32))) ∧ (¬ ((mg_l G2 5 ((mg_i G2 7 6).toNatClampNeg)).toInt32) ≤ (nI 300) → mC l κ true d 0 0 m_X5_note [.ref 7, .int (nI 5), .int (mg_i G2 4 ((mg_i G2 7 6).toNatClampNeg))] G6 (rV (fun G10 => K (nI 1) G10))))))) ∧ (r5 = 0 → K (nI 0) G6))))))))) ∧ (r1 = 0 → K (nI 0) G2))))) : mC l κ true (d + 1) 0 0 m_X5_fuelTold [.ref 7] G (rI K) := by
  refine mC.of (by decide) (Nat.le_of_ble_eq_true rfl) [some (.ref 7), none, none] rfl ?_
  refine mV_aload_n (k := 0) (by decide +kernel) rfl ?_
  refine mV_bipush (n := 39) (v := nI 39) (by decide +kernel) (by decide) ?_
  refine mV_cV (as := [.int (nI 39)]) (rest := []) (mc1 := 0) (ms1 := 0) (mc := 0) (ms := 0) (by decide +kernel) md_X5_accept lk_5_88 sh_7 rfl rfl rfl (Nat.le_of_ble_eq_true rfl) (mC.mono (mm_contI (fun r1 G2 hK => ?_)) h)
  replace h := hK
  refine mV_if_ne (off := 5) (tgt := 11) (by decide +kernel) (by decide) (fun hc => ?_) (fun hc => ?_)
  · replace h := h.1 hc
    refine mV_aload_n (k := 0) (by decide +kernel) rfl ?_
    refine mV_gfr (r := some 1) (by decide +kernel) fk_5_29 sh_7 (mm_rrs st_7_4) rfl ?_
    refine mV_gfr (r := some 5) (by decide +kernel) fk_5_91 sh_1 (mm_rrs st_1_3) rfl ?_
    refine mV_aload_n (k := 0) (by decide +kernel) rfl ?_
    refine mV_gfix (x := mg_i G2 7 6) (by decide +kernel) fk_5_49 sh_7 rfl ?_
    refine mV_lalx (x := mg_l G2 5 ((mg_i G2 7 6).toNatClampNeg)) (by decide +kernel) sh_5 h.1 rfl ?_
    replace h := h.2
    refine mV_l2i (by decide +kernel) ?_
    refine mV_istore_n (k := 1) (ls' := [some (.ref 7), some (.int ((mg_l G2 5 ((mg_i G2 7 6).toNatClampNeg)).toInt32)), none]) (by decide +kernel) (Nat.le_of_ble_eq_true rfl) rfl rfl ?_
    refine mV_aload_n (k := 0) (by decide +kernel) rfl ?_
    refine mV_gfr (r := some 1) (by decide +kernel) fk_5_29 sh_7 (mm_rrs st_7_4) rfl ?_
    refine mV_gfr (r := some 4) (by decide +kernel) fk_5_65 sh_1 (mm_rrs st_1_2) rfl ?_
    refine mV_aload_n (k := 0) (by decide +kernel) rfl ?_
    refine mV_gfix (x := mg_i G2 7 6) (by decide +kernel) fk_5_49 sh_7 rfl ?_
    refine mV_ialx (x := mg_i G2 4 ((mg_i G2 7 6).toNatClampNeg)) (by decide +kernel) sh_4 h.1 rfl ?_
    replace h := h.2
    refine mV_istore_n (k := 2) (ls' := [some (.ref 7), some (.int ((mg_l G2 5 ((mg_i G2 7 6).toNatClampNeg)).toInt32)), some (.int (mg_i G2 4 ((mg_i G2 7 6).toNatClampNeg)))]) (by decide +kernel) (Nat.le_of_ble_eq_true rfl) rfl rfl ?_
    refine mV_aload_n (k := 0) (by decide +kernel) rfl ?_
    refine mV_iconst (n := 3) (v := nI 3) (by decide +kernel) (by decide) ?_
    refine mV_cV (as := [.int (nI 3)]) (rest := []) (mc1 := 0) (ms1 := 0) (mc := 0) (ms := 0) (by decide +kernel) md_X5_accept lk_5_88 sh_7 rfl rfl rfl (Nat.le_of_ble_eq_true rfl) (mC.mono (mm_contI (fun r3 G4 hK => ?_)) h)
    replace h := hK
    refine mV_if_eq (off := 11) (tgt := 54) (by decide +kernel) (by decide) (fun hc => ?_) (fun hc => ?_)
    · replace h := h.1 hc
      refine mV_iconst (n := 0) (v := nI 0) (by decide +kernel) (by decide) ?_
      exact mV_zret (by decide +kernel) rfl (by decide) h
    · replace h := h.2 hc
      refine mV_aload_n (k := 0) (by decide +kernel) rfl ?_
      refine mV_iconst (n := 4) (v := nI 4) (by decide +kernel) (by decide) ?_
      refine mV_cV (as := [.int (nI 4)]) (rest := []) (mc1 := 0) (ms1 := 0) (mc := 0) (ms := 0) (by decide +kernel) md_X5_accept lk_5_88 sh_7 rfl rfl rfl (Nat.le_of_ble_eq_true rfl) (mC.mono (mm_contI (fun r5 G6 hK => ?_)) h)
      replace h := hK
      refine mV_if_ne (off := 5) (tgt := 56) (by decide +kernel) (by decide) (fun hc => ?_) (fun hc => ?_)
      · replace h := h.1 hc
        refine mV_iload_n (k := 1) (by decide +kernel) rfl ?_
        refine mV_iconst (n := 1) (v := nI 1) (by decide +kernel) (by decide) ?_
        refine mV_icmp_lt (off := 10) (tgt := 68) (by decide +kernel) (by decide) (fun hc => ?_) (fun hc => ?_)
        · replace h := h.1 hc
          refine mV_aload_n (k := 0) (by decide +kernel) rfl ?_
          refine mV_iconst (n := 5) (v := nI 5) (by decide +kernel) (by decide) ?_
          refine mV_iload_n (k := 2) (by decide +kernel) rfl ?_
          refine mV_cV (as := [.int (nI 5), .int (mg_i G2 4 ((mg_i G2 7 6).toNatClampNeg))]) (rest := []) (mc1 := 0) (ms1 := 0) (mc := 0) (ms := 0) (by decide +kernel) md_X5_note lk_5_103 sh_7 rfl rfl rfl (Nat.le_of_ble_eq_true rfl) (mC.mono (mm_contV (fun G8 hK => ?_)) h)
          replace h := hK
          refine mV_goto (off := 11) (tgt := 85) (by decide +kernel) (by decide) ?_
          refine mV_iconst (n := 1) (v := nI 1) (by decide +kernel) (by decide) ?_
          exact mV_zret (by decide +kernel) rfl (by decide) h
        · replace h := h.2 hc
          refine mV_iload_n (k := 1) (by decide +kernel) rfl ?_
          refine mV_sipush (n := 300) (v := nI 300) (by decide +kernel) (by decide) ?_
          refine mV_icmp_le (off := 12) (tgt := 77) (by decide +kernel) (by decide) (fun hc => ?_) (fun hc => ?_)
          · replace h := h.1 hc
            refine mV_aload_n (k := 0) (by decide +kernel) rfl ?_
            refine mV_gfr (r := some 20) (by decide +kernel) fk_5_21 sh_7 (mm_rrs st_7_1) rfl ?_
            refine mV_iload_n (k := 1) (by decide +kernel) rfl ?_
            refine mV_pfi (by decide +kernel) fk_5_221 sh_20 ?_
            refine mV_iconst (n := 1) (v := nI 1) (by decide +kernel) (by decide) ?_
            exact mV_zret (by decide +kernel) rfl (by decide) h
          · replace h := h.2 hc
            refine mV_aload_n (k := 0) (by decide +kernel) rfl ?_
            refine mV_iconst (n := 5) (v := nI 5) (by decide +kernel) (by decide) ?_
            refine mV_iload_n (k := 2) (by decide +kernel) rfl ?_
            refine mV_cV (as := [.int (nI 5), .int (mg_i G2 4 ((mg_i G2 7 6).toNatClampNeg))]) (rest := []) (mc1 := 0) (ms1 := 0) (mc := 0) (ms := 0) (by decide +kernel) md_X5_note lk_5_103 sh_7 rfl rfl rfl (Nat.le_of_ble_eq_true rfl) (mC.mono (mm_contV (fun G10 hK => ?_)) h)
            replace h := hK
            refine mV_goto (off := 11) (tgt := 85) (by decide +kernel) (by decide) ?_
            refine mV_iconst (n := 1) (v := nI 1) (by decide +kernel) (by decide) ?_
            exact mV_zret (by decide +kernel) rfl (by decide) h
      · replace h := h.2 hc
        refine mV_iconst (n := 0) (v := nI 0) (by decide +kernel) (by decide) ?_
        exact mV_zret (by decide +kernel) rfl (by decide) h
  · replace h := h.2 hc
    refine mV_iconst (n := 0) (v := nI 0) (by decide +kernel) (by decide) ?_
    exact mV_zret (by decide +kernel) rfl (by decide) h
set_option maxRecDepth 100000 in
set_option maxHeartbeats 4000000 in
theorem e_X6_copy {l : Launch} {κ : mm_K} {d : Nat} {G : mm_G} {K : mm_G → Prop} (x : Nat) (hx : RowAt x) (a1 : Nat) (ha1 : RowAt a1) (h : mV l κ true d 0 0 m_X6_copy 26 [some (.ref x), some (.ref a1), some (.int (nI 0))] [] (ms_l (ms_i (ms_i G x 1 (mg_i G a1 1)) x 2 (mg_i (ms_i G x 1 (mg_i G a1 1)) a1 2)) x 3 (mg_l G a1 3)) (rV K)) : mC l κ true d 0 0 m_X6_copy [.ref x, .ref a1] G (rV K) := by
  refine mC.of (by decide) (Nat.le_of_ble_eq_true rfl) [some (.ref x), some (.ref a1), none] rfl ?_
  refine mV_aload_n (k := 0) (by decide +kernel) rfl ?_
  refine mV_aload_n (k := 1) (by decide +kernel) rfl ?_
  refine mV_gfix (x := mg_i G a1 1) (by decide +kernel) fk_6_17 ha1.1 rfl ?_
  refine mV_pfi (by decide +kernel) fk_6_17 hx.1 ?_
  refine mV_aload_n (k := 0) (by decide +kernel) rfl ?_
  refine mV_aload_n (k := 1) (by decide +kernel) rfl ?_
  refine mV_gfix (x := mg_i (ms_i G x 1 (mg_i G a1 1)) a1 2) (by decide +kernel) fk_6_21 ha1.1 rfl ?_
  refine mV_pfi (by decide +kernel) fk_6_21 hx.1 ?_
  refine mV_aload_n (k := 0) (by decide +kernel) rfl ?_
  refine mV_aload_n (k := 1) (by decide +kernel) rfl ?_
  refine mV_gflx (x := mg_l G a1 3) (by decide +kernel) fk_6_24 ha1.1 rfl ?_
  refine mV_pfl (by decide +kernel) fk_6_24 hx.1 ?_
  refine mV_iconst (n := 0) (v := nI 0) (by decide +kernel) (by decide) ?_
  refine mV_istore_n (k := 2) (ls' := [some (.ref x), some (.ref a1), some (.int (nI 0))]) (by decide +kernel) (Nat.le_of_ble_eq_true rfl) rfl rfl ?_
  exact h
set_option maxRecDepth 100000 in
set_option maxHeartbeats 4000000 in
theorem p_X6_copy_26 {l : Launch} {κ : mm_K} {d : Nat} {G : mm_G} {K : mm_G → Prop} (x : Nat) (hx : RowAt x) (a1 : Nat) (ha1 : RowAt a1) (v2 : Int32) (h : (((mg_i G x 1) ≤ v2 → K G) ∧ (¬ (mg_i G x 1) ≤ v2 → vp_in v2 16 ∧ ∃ t2, mg_r G (a1 + 1) v2.toNatClampNeg = some t2 ∧ LineAt t2 ∧ vp_in v2 16 ∧ mV l κ true d 0 0 m_X6_copy 26 [some (.ref x), some (.ref a1), some (.int (v2 + (nI 1)))] [] (ms_r G (x + 1) v2.toNatClampNeg (some t2)) (rV K)))) : mV l κ true d 0 0 m_X6_copy 26 [some (.ref x), some (.ref a1), some (.int v2)] [] G (rV K) := by
  refine mV_iload_n (k := 2) (by decide +kernel) rfl ?_
  refine mV_aload_n (k := 0) (by decide +kernel) rfl ?_
  refine mV_gfix (x := mg_i G x 1) (by decide +kernel) fk_6_17 hx.1 rfl ?_
  refine mV_icmp_ge (off := 21) (tgt := 52) (by decide +kernel) (by decide) (fun hc => ?_) (fun hc => ?_)
  · replace h := h.1 hc
    exact mV_vret (by decide +kernel) rfl h
  · replace h := h.2 hc
    refine mV_aload_n (k := 0) (by decide +kernel) rfl ?_
    refine mV_gfr (r := some (x + 1)) (by decide +kernel) fk_6_11 hx.1 (mm_rrs hx.2.2.1) rfl ?_
    refine mV_iload_n (k := 2) (by decide +kernel) rfl ?_
    refine mV_aload_n (k := 1) (by decide +kernel) rfl ?_
    refine mV_gfr (r := some (a1 + 1)) (by decide +kernel) fk_6_11 ha1.1 (mm_rrs ha1.2.2.1) rfl ?_
    refine mV_iload_n (k := 2) (by decide +kernel) rfl ?_
    have hj1 := h.1
    replace h := h.2
    obtain ⟨t2, hrt2, hat2, h⟩ := h
    refine mV_aal (t := 4) (r := some t2) (by decide +kernel) ha1.2.1 (by decide) hj1 ((mm_rrd (ha1.2.2.2 _ (mm_ixlt hj1))).trans hrt2) rfl ?_
    refine mV_aas (t := 4) (by decide +kernel) hx.2.1 (by decide) rfl hat2 rfl h.1 (hx.2.2.2 _ (mm_ixlt h.1)) ?_
    replace h := h.2
    refine mV_iincc (i := 2) (n := 1) (c := nI 1) (ls' := [some (.ref x), some (.ref a1), some (.int (v2 + (nI 1)))]) (by decide +kernel) (by decide) rfl (Nat.le_of_ble_eq_true rfl) rfl rfl ?_
    refine mV_goto (off := -23) (tgt := 26) (by decide +kernel) (by decide) ?_
    exact h
set_option maxRecDepth 100000 in
set_option maxHeartbeats 4000000 in
theorem e_X6_insert {l : Launch} {κ : mm_K} {d : Nat} {G : mm_G} {K : mm_G → Prop} (x : Nat) (hx : RowAt x) (a1 : Nat) (ha1 : LineAt a1) (a2 : Int32) (h : (((nI 16) ≤ (mg_i G x 1) → K G) ∧ (¬ (nI 16) ≤ (mg_i G x 1) → ((a2 < 0 → K G) ∧ (¬ a2 < 0 → ((a2 ≤ (mg_i G x 1) → mV l κ true d 0 0 m_X6_insert 27 [some (.ref x), some (.ref a1), some (.int a2), some (.int (mg_i G x 1))] [] G (rV K)) ∧ (¬ a2 ≤ (mg_i G x 1) → K G))))))) : mC l κ true d 0 0 m_X6_insert [.ref x, .ref a1, .int a2] G (rV K) := by
  refine mC.of (by decide) (Nat.le_of_ble_eq_true rfl) [some (.ref x), some (.ref a1), some (.int a2), none] rfl ?_
  refine mV_aload_n (k := 0) (by decide +kernel) rfl ?_
  refine mV_gfix (x := mg_i G x 1) (by decide +kernel) fk_6_17 hx.1 rfl ?_
  refine mV_bipush (n := 16) (v := nI 16) (by decide +kernel) (by decide) ?_
  refine mV_icmp_ge (off := 15) (tgt := 21) (by decide +kernel) (by decide) (fun hc => ?_) (fun hc => ?_)
  · replace h := h.1 hc
    exact mV_vret (by decide +kernel) rfl h
  · replace h := h.2 hc
    refine mV_iload_n (k := 2) (by decide +kernel) rfl ?_
    refine mV_if_lt (off := 11) (tgt := 21) (by decide +kernel) (by decide) (fun hc => ?_) (fun hc => ?_)
    · replace h := h.1 hc
      exact mV_vret (by decide +kernel) rfl h
    · replace h := h.2 hc
      refine mV_iload_n (k := 2) (by decide +kernel) rfl ?_
      refine mV_aload_n (k := 0) (by decide +kernel) rfl ?_
      refine mV_gfix (x := mg_i G x 1) (by decide +kernel) fk_6_17 hx.1 rfl ?_
      refine mV_icmp_le (off := 4) (tgt := 22) (by decide +kernel) (by decide) (fun hc => ?_) (fun hc => ?_)
      · replace h := h.1 hc
        refine mV_aload_n (k := 0) (by decide +kernel) rfl ?_
        refine mV_gfix (x := mg_i G x 1) (by decide +kernel) fk_6_17 hx.1 rfl ?_
        refine mV_istore_n (k := 3) (ls' := [some (.ref x), some (.ref a1), some (.int a2), some (.int (mg_i G x 1))]) (by decide +kernel) (Nat.le_of_ble_eq_true rfl) rfl rfl ?_
        exact h
      · replace h := h.2 hc
        exact mV_vret (by decide +kernel) rfl h
set_option maxRecDepth 100000 in
set_option maxHeartbeats 4000000 in
theorem p_X6_insert_27 {l : Launch} {κ : mm_K} {d : Nat} {G : mm_G} {K : mm_G → Prop} (x : Nat) (hx : RowAt x) (a1 : Nat) (ha1 : LineAt a1) (v2 : Int32) (v3 : Int32) (h : ((v3 ≤ v2 → vp_in v2 16 ∧ K (ms_i (ms_r G (x + 1) v2.toNatClampNeg (some a1)) x 1 ((mg_i G x 1) + (nI 1)))) ∧ (¬ v3 ≤ v2 → vp_in (v3 - (nI 1)) 16 ∧ ∃ t2, mg_r G (x + 1) ((v3 - (nI 1)).toNatClampNeg) = some t2 ∧ LineAt t2 ∧ vp_in v3 16 ∧ mV l κ true d 0 0 m_X6_insert 27 [some (.ref x), some (.ref a1), some (.int v2), some (.int (v3 + (-1)))] [] (ms_r G (x + 1) v3.toNatClampNeg (some t2)) (rV K)))) : mV l κ true d 0 0 m_X6_insert 27 [some (.ref x), some (.ref a1), some (.int v2), some (.int v3)] [] G (rV K) := by
  refine mV_iload_n (k := 3) (by decide +kernel) rfl ?_
  refine mV_iload_n (k := 2) (by decide +kernel) rfl ?_
  refine mV_icmp_le (off := 23) (tgt := 52) (by decide +kernel) (by decide) (fun hc => ?_) (fun hc => ?_)
  · replace h := h.1 hc
    refine mV_aload_n (k := 0) (by decide +kernel) rfl ?_
    refine mV_gfr (r := some (x + 1)) (by decide +kernel) fk_6_11 hx.1 (mm_rrs hx.2.2.1) rfl ?_
    refine mV_iload_n (k := 2) (by decide +kernel) rfl ?_
    refine mV_aload_n (k := 1) (by decide +kernel) rfl ?_
    refine mV_aas (t := 4) (by decide +kernel) hx.2.1 (by decide) rfl ha1 rfl h.1 (hx.2.2.2 _ (mm_ixlt h.1)) ?_
    replace h := h.2
    refine mV_aload_n (k := 0) (by decide +kernel) rfl ?_
    refine mV_dup (by decide +kernel) rfl ?_
    refine mV_gfix (x := mg_i G x 1) (by decide +kernel) fk_6_17 hx.1 rfl ?_
    refine mV_iconst (n := 1) (v := nI 1) (by decide +kernel) (by decide) ?_
    refine mV_iadd (by decide +kernel) ?_
    refine mV_pfi (by decide +kernel) fk_6_17 hx.1 ?_
    exact mV_vret (by decide +kernel) rfl h
  · replace h := h.2 hc
    refine mV_aload_n (k := 0) (by decide +kernel) rfl ?_
    refine mV_gfr (r := some (x + 1)) (by decide +kernel) fk_6_11 hx.1 (mm_rrs hx.2.2.1) rfl ?_
    refine mV_iload_n (k := 3) (by decide +kernel) rfl ?_
    refine mV_aload_n (k := 0) (by decide +kernel) rfl ?_
    refine mV_gfr (r := some (x + 1)) (by decide +kernel) fk_6_11 hx.1 (mm_rrs hx.2.2.1) rfl ?_
    refine mV_iload_n (k := 3) (by decide +kernel) rfl ?_
    refine mV_iconst (n := 1) (v := nI 1) (by decide +kernel) (by decide) ?_
    refine mV_isub (by decide +kernel) ?_
    have hj1 := h.1
    replace h := h.2
    obtain ⟨t2, hrt2, hat2, h⟩ := h
    refine mV_aal (t := 4) (r := some t2) (by decide +kernel) hx.2.1 (by decide) hj1 ((mm_rrd (hx.2.2.2 _ (mm_ixlt hj1))).trans hrt2) rfl ?_
    refine mV_aas (t := 4) (by decide +kernel) hx.2.1 (by decide) rfl hat2 rfl h.1 (hx.2.2.2 _ (mm_ixlt h.1)) ?_
    replace h := h.2
    refine mV_iincc (i := 3) (n := -1) (c := (-1)) (ls' := [some (.ref x), some (.ref a1), some (.int v2), some (.int (v3 + (-1)))]) (by decide +kernel) (by decide) rfl (Nat.le_of_ble_eq_true rfl) rfl rfl ?_
    refine mV_goto (off := -22) (tgt := 27) (by decide +kernel) (by decide) ?_
    exact h
set_option maxRecDepth 100000 in
set_option maxHeartbeats 4000000 in
theorem e_X6_remove {l : Launch} {κ : mm_K} {d : Nat} {G : mm_G} {K : mm_G → Prop} (x : Nat) (hx : RowAt x) (a1 : Int32) (h : ((a1 < 0 → K G) ∧ (¬ a1 < 0 → ((a1 < (mg_i G x 1) → mV l κ true d 0 0 m_X6_remove 25 [some (.ref x), some (.int a1), some (.int a1)] [] (ms_i G x 1 ((mg_i G x 1) - (nI 1))) (rV K)) ∧ (¬ a1 < (mg_i G x 1) → K G))))) : mC l κ true d 0 0 m_X6_remove [.ref x, .int a1] G (rV K) := by
  refine mC.of (by decide) (Nat.le_of_ble_eq_true rfl) [some (.ref x), some (.int a1), none] rfl ?_
  refine mV_iload_n (k := 1) (by decide +kernel) rfl ?_
  refine mV_if_lt (off := 11) (tgt := 12) (by decide +kernel) (by decide) (fun hc => ?_) (fun hc => ?_)
  · replace h := h.1 hc
    exact mV_vret (by decide +kernel) rfl h
  · replace h := h.2 hc
    refine mV_iload_n (k := 1) (by decide +kernel) rfl ?_
    refine mV_aload_n (k := 0) (by decide +kernel) rfl ?_
    refine mV_gfix (x := mg_i G x 1) (by decide +kernel) fk_6_17 hx.1 rfl ?_
    refine mV_icmp_lt (off := 4) (tgt := 13) (by decide +kernel) (by decide) (fun hc => ?_) (fun hc => ?_)
    · replace h := h.1 hc
      refine mV_aload_n (k := 0) (by decide +kernel) rfl ?_
      refine mV_dup (by decide +kernel) rfl ?_
      refine mV_gfix (x := mg_i G x 1) (by decide +kernel) fk_6_17 hx.1 rfl ?_
      refine mV_iconst (n := 1) (v := nI 1) (by decide +kernel) (by decide) ?_
      refine mV_isub (by decide +kernel) ?_
      refine mV_pfi (by decide +kernel) fk_6_17 hx.1 ?_
      refine mV_iload_n (k := 1) (by decide +kernel) rfl ?_
      refine mV_istore_n (k := 2) (ls' := [some (.ref x), some (.int a1), some (.int a1)]) (by decide +kernel) (Nat.le_of_ble_eq_true rfl) rfl rfl ?_
      exact h
    · replace h := h.2 hc
      exact mV_vret (by decide +kernel) rfl h
set_option maxRecDepth 100000 in
set_option maxHeartbeats 4000000 in
theorem p_X6_remove_25 {l : Launch} {κ : mm_K} {d : Nat} {G : mm_G} {K : mm_G → Prop} (x : Nat) (hx : RowAt x) (v1 : Int32) (v2 : Int32) (h : (((mg_i G x 1) ≤ v2 → K G) ∧ (¬ (mg_i G x 1) ≤ v2 → vp_in (v2 + (nI 1)) 16 ∧ ∃ t2, mg_r G (x + 1) ((v2 + (nI 1)).toNatClampNeg) = some t2 ∧ LineAt t2 ∧ vp_in v2 16 ∧ mV l κ true d 0 0 m_X6_remove 25 [some (.ref x), some (.int v1), some (.int (v2 + (nI 1)))] [] (ms_r G (x + 1) v2.toNatClampNeg (some t2)) (rV K)))) : mV l κ true d 0 0 m_X6_remove 25 [some (.ref x), some (.int v1), some (.int v2)] [] G (rV K) := by
  refine mV_iload_n (k := 2) (by decide +kernel) rfl ?_
  refine mV_aload_n (k := 0) (by decide +kernel) rfl ?_
  refine mV_gfix (x := mg_i G x 1) (by decide +kernel) fk_6_17 hx.1 rfl ?_
  refine mV_icmp_ge (off := 23) (tgt := 53) (by decide +kernel) (by decide) (fun hc => ?_) (fun hc => ?_)
  · replace h := h.1 hc
    exact mV_vret (by decide +kernel) rfl h
  · replace h := h.2 hc
    refine mV_aload_n (k := 0) (by decide +kernel) rfl ?_
    refine mV_gfr (r := some (x + 1)) (by decide +kernel) fk_6_11 hx.1 (mm_rrs hx.2.2.1) rfl ?_
    refine mV_iload_n (k := 2) (by decide +kernel) rfl ?_
    refine mV_aload_n (k := 0) (by decide +kernel) rfl ?_
    refine mV_gfr (r := some (x + 1)) (by decide +kernel) fk_6_11 hx.1 (mm_rrs hx.2.2.1) rfl ?_
    refine mV_iload_n (k := 2) (by decide +kernel) rfl ?_
    refine mV_iconst (n := 1) (v := nI 1) (by decide +kernel) (by decide) ?_
    refine mV_iadd (by decide +kernel) ?_
    have hj1 := h.1
    replace h := h.2
    obtain ⟨t2, hrt2, hat2, h⟩ := h
    refine mV_aal (t := 4) (r := some t2) (by decide +kernel) hx.2.1 (by decide) hj1 ((mm_rrd (hx.2.2.2 _ (mm_ixlt hj1))).trans hrt2) rfl ?_
    refine mV_aas (t := 4) (by decide +kernel) hx.2.1 (by decide) rfl hat2 rfl h.1 (hx.2.2.2 _ (mm_ixlt h.1)) ?_
    replace h := h.2
    refine mV_iincc (i := 2) (n := 1) (c := nI 1) (ls' := [some (.ref x), some (.int v1), some (.int (v2 + (nI 1)))]) (by decide +kernel) (by decide) rfl (Nat.le_of_ble_eq_true rfl) rfl rfl ?_
    refine mV_goto (off := -25) (tgt := 25) (by decide +kernel) (by decide) ?_
    exact h
set_option maxRecDepth 100000 in
set_option maxHeartbeats 4000000 in
theorem e_X6_where {l : Launch} {κ : mm_K} {d : Nat} {G : mm_G} {K : Int32 → mm_G → Prop} (x : Nat) (hx : RowAt x) (a1 : Int64) (a2 : Int32) (h : mV l κ true d 0 0 m_X6_where 3 [some (.ref x), some (.long a1), none, some (.int a2), some (.int (nI 0))] [] G (rI K)) : mC l κ true d 0 0 m_X6_where [.ref x, .long a1, .int a2] G (rI K) := by
  refine mC.of (by decide) (Nat.le_of_ble_eq_true rfl) [some (.ref x), some (.long a1), none, some (.int a2), none] rfl ?_
  refine mV_iconst (n := 0) (v := nI 0) (by decide +kernel) (by decide) ?_
  refine mV_istore (i := 4) (ls' := [some (.ref x), some (.long a1), none, some (.int a2), some (.int (nI 0))]) (by decide +kernel) (Nat.le_of_ble_eq_true rfl) rfl rfl ?_
  exact h
set_option maxRecDepth 100000 in
set_option maxHeartbeats 4000000 in
theorem p_X6_where_3 {l : Launch} {κ : mm_K} {d : Nat} {G : mm_G} {K : Int32 → mm_G → Prop} (x : Nat) (hx : RowAt x) (v1 : Int64) (v3 : Int32) (v4 : Int32) (h : (((mg_i G x 1) ≤ v4 → K (-1) G) ∧ (¬ (mg_i G x 1) ≤ v4 → vp_in v4 16 ∧ ∃ t2, mg_r G (x + 1) v4.toNatClampNeg = some t2 ∧ LineAt t2 ∧ ((¬ (lg_cmp (mg_l G t2 0) v1) = 0 → mV l κ true d 0 0 m_X6_where 3 [some (.ref x), some (.long v1), none, some (.int v3), some (.int (v4 + (nI 1)))] [] G (rI K)) ∧ ((lg_cmp (mg_l G t2 0) v1) = 0 → ((¬ (((v3.toUInt32 >>> (v4.toUInt32 &&& Int32.toUInt32 31)).toInt32) &&& (nI 1)) = 0 → mV l κ true d 0 0 m_X6_where 3 [some (.ref x), some (.long v1), none, some (.int v3), some (.int (v4 + (nI 1)))] [] G (rI K)) ∧ ((((v3.toUInt32 >>> (v4.toUInt32 &&& Int32.toUInt32 31)).toInt32) &&& (nI 1)) = 0 → K v4 G))))))) : mV l κ true d 0 0 m_X6_where 3 [some (.ref x), some (.long v1), none, some (.int v3), some (.int v4)] [] G (rI K) := by
  refine mV_iload (i := 4) (by decide +kernel) rfl ?_
  refine mV_aload_n (k := 0) (by decide +kernel) rfl ?_
  refine mV_gfix (x := mg_i G x 1) (by decide +kernel) fk_6_17 hx.1 rfl ?_
  refine mV_icmp_ge (off := 36) (tgt := 45) (by decide +kernel) (by decide) (fun hc => ?_) (fun hc => ?_)
  · replace h := h.1 hc
    refine mV_iconst (n := -1) (v := (-1)) (by decide +kernel) (by decide) ?_
    exact mV_iret (by decide +kernel) rfl h
  · replace h := h.2 hc
    refine mV_aload_n (k := 0) (by decide +kernel) rfl ?_
    refine mV_gfr (r := some (x + 1)) (by decide +kernel) fk_6_11 hx.1 (mm_rrs hx.2.2.1) rfl ?_
    refine mV_iload (i := 4) (by decide +kernel) rfl ?_
    have hj1 := h.1
    replace h := h.2
    obtain ⟨t2, hrt2, hat2, h⟩ := h
    refine mV_aal (t := 4) (r := some t2) (by decide +kernel) hx.2.1 (by decide) hj1 ((mm_rrd (hx.2.2.2 _ (mm_ixlt hj1))).trans hrt2) rfl ?_
    refine mV_gflx (x := mg_l G t2 0) (by decide +kernel) fk_6_28 hat2 rfl ?_
    refine mV_lload_n (k := 1) (by decide +kernel) rfl ?_
    refine mV_lcmp (by decide +kernel) ?_
    refine mV_if_ne (off := 15) (tgt := 39) (by decide +kernel) (by decide) (fun hc => ?_) (fun hc => ?_)
    · replace h := h.1 hc
      refine mV_iincc (i := 4) (n := 1) (c := nI 1) (ls' := [some (.ref x), some (.long v1), none, some (.int v3), some (.int (v4 + (nI 1)))]) (by decide +kernel) (by decide) rfl (Nat.le_of_ble_eq_true rfl) rfl rfl ?_
      refine mV_goto (off := -39) (tgt := 3) (by decide +kernel) (by decide) ?_
      exact h
    · replace h := h.2 hc
      refine mV_iload_n (k := 3) (by decide +kernel) rfl ?_
      refine mV_iload (i := 4) (by decide +kernel) rfl ?_
      refine mV_iushr (by decide +kernel) ?_
      refine mV_iconst (n := 1) (v := nI 1) (by decide +kernel) (by decide) ?_
      refine mV_iand (by decide +kernel) ?_
      refine mV_if_ne (off := 6) (tgt := 39) (by decide +kernel) (by decide) (fun hc => ?_) (fun hc => ?_)
      · replace h := h.1 hc
        refine mV_iincc (i := 4) (n := 1) (c := nI 1) (ls' := [some (.ref x), some (.long v1), none, some (.int v3), some (.int (v4 + (nI 1)))]) (by decide +kernel) (by decide) rfl (Nat.le_of_ble_eq_true rfl) rfl rfl ?_
        refine mV_goto (off := -39) (tgt := 3) (by decide +kernel) (by decide) ?_
        exact h
      · replace h := h.2 hc
        refine mV_iload (i := 4) (by decide +kernel) rfl ?_
        exact mV_iret (by decide +kernel) rfl h
set_option maxRecDepth 100000 in
set_option maxHeartbeats 4000000 in
theorem e_X7_clear {l : Launch} {κ : mm_K} {d : Nat} {G : mm_G} {K : mm_G → Prop}  (h : K (ms_i (ms_i G 8 1 (nI 0)) 8 4 (nI 0))) : mC l κ true d 0 0 m_X7_clear [.ref 8] G (rV K) := by
  refine mC.of (by decide) (Nat.le_of_ble_eq_true rfl) [some (.ref 8)] rfl ?_
  refine mV_aload_n (k := 0) (by decide +kernel) rfl ?_
  refine mV_iconst (n := 0) (v := nI 0) (by decide +kernel) (by decide) ?_
  refine mV_pfi (by decide +kernel) fk_7_29 sh_8 ?_
  refine mV_aload_n (k := 0) (by decide +kernel) rfl ?_
  refine mV_iconst (n := 0) (v := nI 0) (by decide +kernel) (by decide) ?_
  refine mV_pfi (by decide +kernel) fk_7_32 sh_8 ?_
  exact mV_vret (by decide +kernel) rfl h
set_option maxRecDepth 100000 in
set_option maxHeartbeats 4000000 in
theorem e_X7_copy {l : Launch} {κ : mm_K} {d : Nat} {G : mm_G} {K : mm_G → Prop} (x : Nat) (hx : RowsAt x) (a1 : Nat) (ha1 : RowsAt a1) (h : mV l κ true (d + 1) 0 0 m_X7_copy 10 [some (.ref x), some (.ref a1), some (.int (nI 0))] [] (ms_i G x 1 (mg_i G a1 1)) (rV K)) : mC l κ true (d + 1) 0 0 m_X7_copy [.ref x, .ref a1] G (rV K) := by
  refine mC.of (by decide) (Nat.le_of_ble_eq_true rfl) [some (.ref x), some (.ref a1), none] rfl ?_
  refine mV_aload_n (k := 0) (by decide +kernel) rfl ?_
  refine mV_aload_n (k := 1) (by decide +kernel) rfl ?_
  refine mV_gfix (x := mg_i G a1 1) (by decide +kernel) fk_7_29 ha1.1 rfl ?_
  refine mV_pfi (by decide +kernel) fk_7_29 hx.1 ?_
  refine mV_iconst (n := 0) (v := nI 0) (by decide +kernel) (by decide) ?_
  refine mV_istore_n (k := 2) (ls' := [some (.ref x), some (.ref a1), some (.int (nI 0))]) (by decide +kernel) (Nat.le_of_ble_eq_true rfl) rfl rfl ?_
  exact h
set_option maxRecDepth 100000 in
set_option maxHeartbeats 4000000 in
theorem p_X7_copy_10 {l : Launch} {κ : mm_K} {d : Nat} {G : mm_G} {K : mm_G → Prop} (x : Nat) (hx : RowsAt x) (a1 : Nat) (ha1 : RowsAt a1) (v2 : Int32) (h : (((mg_i G x 1) ≤ v2 → mV l κ true (d + 1) 0 0 m_X7_copy 57 [some (.ref x), some (.ref a1), some (.int (nI 0))] [] (ms_i (ms_i G x 4 (mg_i G a1 4)) x 5 (mg_i (ms_i G x 4 (mg_i G a1 4)) a1 5)) (rV K)) ∧ (¬ (mg_i G x 1) ≤ v2 → vp_in v2 4 ∧ vp_in v2 4 ∧ mC l κ true d 0 0 m_X6_copy [.ref (x + 4 + 2 * v2.toNatClampNeg), .ref (a1 + 4 + 2 * v2.toNatClampNeg)] G (rV (fun G4 => mV l κ true (d + 1) 0 0 m_X7_copy 10 [some (.ref x), some (.ref a1), some (.int (v2 + (nI 1)))] [] G4 (rV K)))))) : mV l κ true (d + 1) 0 0 m_X7_copy 10 [some (.ref x), some (.ref a1), some (.int v2)] [] G (rV K) := by
  refine mV_iload_n (k := 2) (by decide +kernel) rfl ?_
  refine mV_aload_n (k := 0) (by decide +kernel) rfl ?_
  refine mV_gfix (x := mg_i G x 1) (by decide +kernel) fk_7_29 hx.1 rfl ?_
  refine mV_icmp_ge (off := 24) (tgt := 39) (by decide +kernel) (by decide) (fun hc => ?_) (fun hc => ?_)
  · replace h := h.1 hc
    refine mV_aload_n (k := 0) (by decide +kernel) rfl ?_
    refine mV_aload_n (k := 1) (by decide +kernel) rfl ?_
    refine mV_gfix (x := mg_i G a1 4) (by decide +kernel) fk_7_32 ha1.1 rfl ?_
    refine mV_pfi (by decide +kernel) fk_7_32 hx.1 ?_
    refine mV_aload_n (k := 0) (by decide +kernel) rfl ?_
    refine mV_aload_n (k := 1) (by decide +kernel) rfl ?_
    refine mV_gfix (x := mg_i (ms_i G x 4 (mg_i G a1 4)) a1 5) (by decide +kernel) fk_7_39 ha1.1 rfl ?_
    refine mV_pfi (by decide +kernel) fk_7_39 hx.1 ?_
    refine mV_iconst (n := 0) (v := nI 0) (by decide +kernel) (by decide) ?_
    refine mV_istore_n (k := 2) (ls' := [some (.ref x), some (.ref a1), some (.int (nI 0))]) (by decide +kernel) (Nat.le_of_ble_eq_true rfl) rfl rfl ?_
    exact h
  · replace h := h.2 hc
    refine mV_aload_n (k := 0) (by decide +kernel) rfl ?_
    refine mV_gfr (r := some (x + 1)) (by decide +kernel) fk_7_11 hx.1 (mm_rrs hx.2.2.2.2.1) rfl ?_
    refine mV_iload_n (k := 2) (by decide +kernel) rfl ?_
    have hj1 := h.1
    replace h := h.2
    refine mV_aal (t := 5) (r := some (x + 4 + 2 * v2.toNatClampNeg)) (by decide +kernel) hx.2.1 (by decide) hj1 (mm_rrs (hx.2.2.2.2.2.2.2.1 _ (mm_ixlt hj1))) rfl ?_
    refine mV_aload_n (k := 1) (by decide +kernel) rfl ?_
    refine mV_gfr (r := some (a1 + 1)) (by decide +kernel) fk_7_11 ha1.1 (mm_rrs ha1.2.2.2.2.1) rfl ?_
    refine mV_iload_n (k := 2) (by decide +kernel) rfl ?_
    have hj2 := h.1
    replace h := h.2
    refine mV_aal (t := 5) (r := some (a1 + 4 + 2 * v2.toNatClampNeg)) (by decide +kernel) ha1.2.1 (by decide) hj2 (mm_rrs (ha1.2.2.2.2.2.2.2.1 _ (mm_ixlt hj2))) rfl ?_
    refine mV_cV (as := [.ref (a1 + 4 + 2 * v2.toNatClampNeg)]) (rest := []) (mc1 := 0) (ms1 := 0) (mc := 0) (ms := 0) (by decide +kernel) md_X6_copy lk_7_35 (hx.2.2.2.2.2.2.2.2 _ (mm_ixlt hj1)).1 rfl rfl rfl (Nat.le_of_ble_eq_true rfl) (mC.mono (mm_contV (fun G4 hK => ?_)) h)
    replace h := hK
    refine mV_iincc (i := 2) (n := 1) (c := nI 1) (ls' := [some (.ref x), some (.ref a1), some (.int (v2 + (nI 1)))]) (by decide +kernel) (by decide) rfl (Nat.le_of_ble_eq_true rfl) rfl rfl ?_
    refine mV_goto (off := -26) (tgt := 10) (by decide +kernel) (by decide) ?_
    exact h
set_option maxRecDepth 100000 in
set_option maxHeartbeats 4000000 in
theorem p_X7_copy_57 {l : Launch} {κ : mm_K} {d : Nat} {G : mm_G} {K : mm_G → Prop} (x : Nat) (hx : RowsAt x) (a1 : Nat) (ha1 : RowsAt a1) (v2 : Int32) (h : (((mg_i G x 4) ≤ v2 → K G) ∧ (¬ (mg_i G x 4) ≤ v2 → vp_in v2 20 ∧ vp_in v2 20 ∧ vp_in v2 20 ∧ vp_in v2 20 ∧ mV l κ true (d + 1) 0 0 m_X7_copy 57 [some (.ref x), some (.ref a1), some (.int (v2 + (nI 1)))] [] (ms_i (ms_i G (x + 2) v2.toNatClampNeg (mg_i G (a1 + 2) v2.toNatClampNeg)) (x + 3) v2.toNatClampNeg (mg_i (ms_i G (x + 2) v2.toNatClampNeg (mg_i G (a1 + 2) v2.toNatClampNeg)) (a1 + 3) v2.toNatClampNeg)) (rV K)))) : mV l κ true (d + 1) 0 0 m_X7_copy 57 [some (.ref x), some (.ref a1), some (.int v2)] [] G (rV K) := by
  refine mV_iload_n (k := 2) (by decide +kernel) rfl ?_
  refine mV_aload_n (k := 0) (by decide +kernel) rfl ?_
  refine mV_gfix (x := mg_i G x 4) (by decide +kernel) fk_7_32 hx.1 rfl ?_
  refine mV_icmp_ge (off := 33) (tgt := 95) (by decide +kernel) (by decide) (fun hc => ?_) (fun hc => ?_)
  · replace h := h.1 hc
    exact mV_vret (by decide +kernel) rfl h
  · replace h := h.2 hc
    refine mV_aload_n (k := 0) (by decide +kernel) rfl ?_
    refine mV_gfr (r := some (x + 2)) (by decide +kernel) fk_7_17 hx.1 (mm_rrs hx.2.2.2.2.2.1) rfl ?_
    refine mV_iload_n (k := 2) (by decide +kernel) rfl ?_
    refine mV_aload_n (k := 1) (by decide +kernel) rfl ?_
    refine mV_gfr (r := some (a1 + 2)) (by decide +kernel) fk_7_17 ha1.1 (mm_rrs ha1.2.2.2.2.2.1) rfl ?_
    refine mV_iload_n (k := 2) (by decide +kernel) rfl ?_
    refine mV_ialx (x := mg_i G (a1 + 2) v2.toNatClampNeg) (by decide +kernel) ha1.2.2.1 h.1 rfl ?_
    replace h := h.2
    refine mV_ias (by decide +kernel) hx.2.2.1 h.1 ?_
    replace h := h.2
    refine mV_aload_n (k := 0) (by decide +kernel) rfl ?_
    refine mV_gfr (r := some (x + 3)) (by decide +kernel) fk_7_21 hx.1 (mm_rrs hx.2.2.2.2.2.2.1) rfl ?_
    refine mV_iload_n (k := 2) (by decide +kernel) rfl ?_
    refine mV_aload_n (k := 1) (by decide +kernel) rfl ?_
    refine mV_gfr (r := some (a1 + 3)) (by decide +kernel) fk_7_21 ha1.1 (mm_rrs ha1.2.2.2.2.2.2.1) rfl ?_
    refine mV_iload_n (k := 2) (by decide +kernel) rfl ?_
    refine mV_ialx (x := mg_i (ms_i G (x + 2) v2.toNatClampNeg (mg_i G (a1 + 2) v2.toNatClampNeg)) (a1 + 3) v2.toNatClampNeg) (by decide +kernel) ha1.2.2.2.1 h.1 rfl ?_
    replace h := h.2
    refine mV_ias (by decide +kernel) hx.2.2.2.1 h.1 ?_
    replace h := h.2
    refine mV_iincc (i := 2) (n := 1) (c := nI 1) (ls' := [some (.ref x), some (.ref a1), some (.int (v2 + (nI 1)))]) (by decide +kernel) (by decide) rfl (Nat.le_of_ble_eq_true rfl) rfl rfl ?_
    refine mV_goto (off := -35) (tgt := 57) (by decide +kernel) (by decide) ?_
    exact h
set_option maxRecDepth 100000 in
set_option maxHeartbeats 4000000 in
theorem e_X7_named {l : Launch} {κ : mm_K} {d : Nat} {G : mm_G} {K : Int32 → mm_G → Prop} (a1 : Int64) (h : mV l κ true d 0 0 m_X7_named 2 [some (.ref 8), some (.long a1), none, some (.int (nI 0))] [] G (rI K)) : mC l κ true d 0 0 m_X7_named [.ref 8, .long a1] G (rI K) := by
  refine mC.of (by decide) (Nat.le_of_ble_eq_true rfl) [some (.ref 8), some (.long a1), none, none] rfl ?_
  refine mV_iconst (n := 0) (v := nI 0) (by decide +kernel) (by decide) ?_
  refine mV_istore_n (k := 3) (ls' := [some (.ref 8), some (.long a1), none, some (.int (nI 0))]) (by decide +kernel) (Nat.le_of_ble_eq_true rfl) rfl rfl ?_
  exact h
set_option maxRecDepth 100000 in
set_option maxHeartbeats 4000000 in
theorem p_X7_named_2 {l : Launch} {κ : mm_K} {d : Nat} {G : mm_G} {K : Int32 → mm_G → Prop} (v1 : Int64) (v3 : Int32) (h : (((mg_i G 8 1) ≤ v3 → K (-1) G) ∧ (¬ (mg_i G 8 1) ≤ v3 → vp_in v3 4 ∧ ((¬ (lg_cmp (mg_l G (12 + 2 * v3.toNatClampNeg) 3) v1) = 0 → mV l κ true d 0 0 m_X7_named 2 [some (.ref 8), some (.long v1), none, some (.int (v3 + (nI 1)))] [] G (rI K)) ∧ ((lg_cmp (mg_l G (12 + 2 * v3.toNatClampNeg) 3) v1) = 0 → K v3 G))))) : mV l κ true d 0 0 m_X7_named 2 [some (.ref 8), some (.long v1), none, some (.int v3)] [] G (rI K) := by
  refine mV_iload_n (k := 3) (by decide +kernel) rfl ?_
  refine mV_aload_n (k := 0) (by decide +kernel) rfl ?_
  refine mV_gfix (x := mg_i G 8 1) (by decide +kernel) fk_7_29 sh_8 rfl ?_
  refine mV_icmp_ge (off := 25) (tgt := 32) (by decide +kernel) (by decide) (fun hc => ?_) (fun hc => ?_)
  · replace h := h.1 hc
    refine mV_iconst (n := -1) (v := (-1)) (by decide +kernel) (by decide) ?_
    exact mV_iret (by decide +kernel) rfl h
  · replace h := h.2 hc
    refine mV_aload_n (k := 0) (by decide +kernel) rfl ?_
    refine mV_gfr (r := some 9) (by decide +kernel) fk_7_11 sh_8 (mm_rrs st_8_0) rfl ?_
    refine mV_iload_n (k := 3) (by decide +kernel) rfl ?_
    have hj1 := h.1
    replace h := h.2
    refine mV_aal (t := 5) (r := some (12 + 2 * v3.toNatClampNeg)) (by decide +kernel) sh_9 (by decide) hj1 (mm_rrs (mm_rs8.2.2.2.2.2.2.2.1 _ (mm_ixlt hj1))) rfl ?_
    refine mV_gflx (x := mg_l G (12 + 2 * v3.toNatClampNeg) 3) (by decide +kernel) fk_7_42 (mm_rs8.2.2.2.2.2.2.2.2 _ (mm_ixlt hj1)).1 rfl ?_
    refine mV_lload_n (k := 1) (by decide +kernel) rfl ?_
    refine mV_lcmp (by decide +kernel) ?_
    refine mV_if_ne (off := 5) (tgt := 26) (by decide +kernel) (by decide) (fun hc => ?_) (fun hc => ?_)
    · replace h := h.1 hc
      refine mV_iincc (i := 3) (n := 1) (c := nI 1) (ls' := [some (.ref 8), some (.long v1), none, some (.int (v3 + (nI 1)))]) (by decide +kernel) (by decide) rfl (Nat.le_of_ble_eq_true rfl) rfl rfl ?_
      refine mV_goto (off := -27) (tgt := 2) (by decide +kernel) (by decide) ?_
      exact h
    · replace h := h.2 hc
      refine mV_iload_n (k := 3) (by decide +kernel) rfl ?_
      exact mV_iret (by decide +kernel) rfl h
set_option maxRecDepth 100000 in
set_option maxHeartbeats 4000000 in
theorem e_X8_clear {l : Launch} {κ : mm_K} {d : Nat} {G : mm_G} {K : mm_G → Prop}  (h : K (ms_i G 171 5 (-1))) : mC l κ true d 0 0 m_X8_clear [.ref 171] G (rV K) := by
  refine mC.of (by decide) (Nat.le_of_ble_eq_true rfl) [some (.ref 171)] rfl ?_
  refine mV_aload_n (k := 0) (by decide +kernel) rfl ?_
  refine mV_iconst (n := -1) (v := (-1)) (by decide +kernel) (by decide) ?_
  refine mV_pfi (by decide +kernel) fk_8_22 sh_171 ?_
  exact mV_vret (by decide +kernel) rfl h
set_option maxRecDepth 100000 in
set_option maxHeartbeats 4000000 in
theorem e_X8_doesTable {l : Launch} {κ : mm_K} {d : Nat} {G : mm_G} {K : Int32 → mm_G → Prop} (a1 : Nat) (ha1 : RowAt a1) (a2 : Int32) (h : mV l κ true (d + 3) 0 0 m_X8_doesTable 2 [some (.ref 171), some (.ref a1), some (.int a2), some (.int (nI 0))] [] G (rI K)) : mC l κ true (d + 3) 0 0 m_X8_doesTable [.ref 171, .ref a1, .int a2] G (rI K) := by
  refine mC.of (by decide) (Nat.le_of_ble_eq_true rfl) [some (.ref 171), some (.ref a1), some (.int a2), none] rfl ?_
  refine mV_iconst (n := 0) (v := nI 0) (by decide +kernel) (by decide) ?_
  refine mV_istore_n (k := 3) (ls' := [some (.ref 171), some (.ref a1), some (.int a2), some (.int (nI 0))]) (by decide +kernel) (Nat.le_of_ble_eq_true rfl) rfl rfl ?_
  exact h
set_option maxRecDepth 100000 in
set_option maxHeartbeats 4000000 in
theorem p_X8_doesTable_2 {l : Launch} {κ : mm_K} {d : Nat} {G : mm_G} {K : Int32 → mm_G → Prop} (a1 : Nat) (ha1 : RowAt a1) (v2 : Int32) (v3 : Int32) (h : (((mg_i G 62 4) ≤ v3 → K (nI 1) G) ∧ (¬ (mg_i G 62 4) ≤ v3 → vp_in v3 8 ∧ (((mg_i G 74 v3.toNatClampNeg) = 0 → mV l κ true (d + 3) 0 0 m_X8_doesTable 2 [some (.ref 171), some (.ref a1), some (.int v2), some (.int (v3 + (nI 1)))] [] G (rI K)) ∧ (¬ (mg_i G 74 v3.toNatClampNeg) = 0 → vp_in v3 8 ∧ mC l κ true (d + 2) 0 0 m_X3_runs [.ref 91, .ref a1, .int v2, .int v3, .ref (75 + 2 * v3.toNatClampNeg)] G (rV (fun G3 => vp_in v3 8 ∧ mC l κ true (d + 2) 0 0 m_X0_isLike [.ref 92, .ref (75 + 2 * v3.toNatClampNeg)] G3 (rI (fun r5 G6 => ((¬ r5 = 0 → mV l κ true (d + 3) 0 0 m_X8_doesTable 2 [some (.ref 171), some (.ref a1), some (.int v2), some (.int (v3 + (nI 1)))] [] G6 (rI K)) ∧ (r5 = 0 → K (nI 0) G6))))))))))) : mV l κ true (d + 3) 0 0 m_X8_doesTable 2 [some (.ref 171), some (.ref a1), some (.int v2), some (.int v3)] [] G (rI K) := by
  refine mV_iload_n (k := 3) (by decide +kernel) rfl ?_
  refine mV_aload_n (k := 0) (by decide +kernel) rfl ?_
  refine mV_gfr (r := some 62) (by decide +kernel) fk_8_30 sh_171 (mm_rrs st_171_2) rfl ?_
  refine mV_gfix (x := mg_i G 62 4) (by decide +kernel) fk_8_38 sh_62 rfl ?_
  refine mV_icmp_ge (off := 64) (tgt := 74) (by decide +kernel) (by decide) (fun hc => ?_) (fun hc => ?_)
  · replace h := h.1 hc
    refine mV_iconst (n := 1) (v := nI 1) (by decide +kernel) (by decide) ?_
    exact mV_zret (by decide +kernel) rfl (by decide) h
  · replace h := h.2 hc
    refine mV_aload_n (k := 0) (by decide +kernel) rfl ?_
    refine mV_gfr (r := some 62) (by decide +kernel) fk_8_30 sh_171 (mm_rrs st_171_2) rfl ?_
    refine mV_gfr (r := some 74) (by decide +kernel) fk_8_43 sh_62 (mm_rrs st_62_3) rfl ?_
    refine mV_iload_n (k := 3) (by decide +kernel) rfl ?_
    refine mV_zalx (x := mg_i G 74 v3.toNatClampNeg) (by decide +kernel) sh_74 h.1 rfl ?_
    replace h := h.2
    refine mV_if_eq (off := 46) (tgt := 68) (by decide +kernel) (by decide) (fun hc => ?_) (fun hc => ?_)
    · replace h := h.1 hc
      refine mV_iincc (i := 3) (n := 1) (c := nI 1) (ls' := [some (.ref 171), some (.ref a1), some (.int v2), some (.int (v3 + (nI 1)))]) (by decide +kernel) (by decide) rfl (Nat.le_of_ble_eq_true rfl) rfl rfl ?_
      refine mV_goto (off := -69) (tgt := 2) (by decide +kernel) (by decide) ?_
      exact h
    · replace h := h.2 hc
      refine mV_aload_n (k := 0) (by decide +kernel) rfl ?_
      refine mV_gfr (r := some 91) (by decide +kernel) fk_8_34 sh_171 (mm_rrs st_171_3) rfl ?_
      refine mV_aload_n (k := 1) (by decide +kernel) rfl ?_
      refine mV_iload_n (k := 2) (by decide +kernel) rfl ?_
      refine mV_iload_n (k := 3) (by decide +kernel) rfl ?_
      refine mV_aload_n (k := 0) (by decide +kernel) rfl ?_
      refine mV_gfr (r := some 62) (by decide +kernel) fk_8_30 sh_171 (mm_rrs st_171_2) rfl ?_
      refine mV_gfr (r := some 73) (by decide +kernel) fk_8_47 sh_62 (mm_rrs st_62_2) rfl ?_
      refine mV_iload_n (k := 3) (by decide +kernel) rfl ?_
      have hj1 := h.1
      replace h := h.2
      refine mV_aal (t := 7) (r := some (75 + 2 * v3.toNatClampNeg)) (by decide +kernel) sh_73 (by decide) hj1 (mm_rrs (mm_deed1 _ (mm_ixlt hj1)).2) rfl ?_
      refine mV_cV (as := [.ref a1, .int v2, .int v3, .ref (75 + 2 * v3.toNatClampNeg)]) (rest := []) (mc1 := 0) (ms1 := 0) (mc := 0) (ms := 0) (by decide +kernel) md_X3_runs lk_8_51 sh_91 rfl rfl rfl (Nat.le_of_ble_eq_true rfl) (mC.mono (mm_contV (fun G3 hK => ?_)) h)
      replace h := hK
      refine mV_aload_n (k := 0) (by decide +kernel) rfl ?_
      refine mV_gfr (r := some 91) (by decide +kernel) fk_8_34 sh_171 (mm_rrs st_171_3) rfl ?_
      refine mV_gfr (r := some 92) (by decide +kernel) fk_8_57 sh_91 (mm_rrs st_91_0) rfl ?_
      refine mV_aload_n (k := 0) (by decide +kernel) rfl ?_
      refine mV_gfr (r := some 62) (by decide +kernel) fk_8_30 sh_171 (mm_rrs st_171_2) rfl ?_
      refine mV_gfr (r := some 73) (by decide +kernel) fk_8_47 sh_62 (mm_rrs st_62_2) rfl ?_
      refine mV_iload_n (k := 3) (by decide +kernel) rfl ?_
      have hj4 := h.1
      replace h := h.2
      refine mV_aal (t := 7) (r := some (75 + 2 * v3.toNatClampNeg)) (by decide +kernel) sh_73 (by decide) hj4 (mm_rrs (mm_deed1 _ (mm_ixlt hj4)).2) rfl ?_
      refine mV_cV (as := [.ref (75 + 2 * v3.toNatClampNeg)]) (rest := []) (mc1 := 0) (ms1 := 0) (mc := 0) (ms := 0) (by decide +kernel) md_X0_isLike lk_8_61 sh_92 rfl rfl rfl (Nat.le_of_ble_eq_true rfl) (mC.mono (mm_contI (fun r5 G6 hK => ?_)) h)
      replace h := hK
      refine mV_if_ne (off := 5) (tgt := 68) (by decide +kernel) (by decide) (fun hc => ?_) (fun hc => ?_)
      · replace h := h.1 hc
        refine mV_iincc (i := 3) (n := 1) (c := nI 1) (ls' := [some (.ref 171), some (.ref a1), some (.int v2), some (.int (v3 + (nI 1)))]) (by decide +kernel) (by decide) rfl (Nat.le_of_ble_eq_true rfl) rfl rfl ?_
        refine mV_goto (off := -69) (tgt := 2) (by decide +kernel) (by decide) ?_
        exact h
      · replace h := h.2 hc
        refine mV_iconst (n := 0) (v := nI 0) (by decide +kernel) (by decide) ?_
        exact mV_zret (by decide +kernel) rfl (by decide) h
set_option maxRecDepth 100000 in
set_option maxHeartbeats 4000000 in
theorem e_X8_seek {l : Launch} {κ : mm_K} {d : Nat} {G : mm_G} {K : Int32 → mm_G → Prop} (a1 : Int32) (a2 : Int32) (a3 : Int32) (h : ((¬ (mg_i G 171 5) = a1 → mV l κ true (d + 6) 0 0 m_X8_seek 56 [some (.ref 171), some (.int a1), some (.int a2), some (.int a3), some (.int (nI 1)), some (.int (nI 0))] [] (ms_i (ms_i (ms_i (ms_i G 171 5 a1) 171 6 a2) 171 7 a3) 171 8 (-2)) (rI K)) ∧ ((mg_i G 171 5) = a1 → ((¬ (mg_i G 171 6) = a2 → mV l κ true (d + 6) 0 0 m_X8_seek 56 [some (.ref 171), some (.int a1), some (.int a2), some (.int a3), some (.int (nI 1)), some (.int (nI 0))] [] (ms_i (ms_i (ms_i (ms_i G 171 5 a1) 171 6 a2) 171 7 a3) 171 8 (-2)) (rI K)) ∧ ((mg_i G 171 6) = a2 → ((¬ (mg_i G 171 7) = a3 → mV l κ true (d + 6) 0 0 m_X8_seek 56 [some (.ref 171), some (.int a1), some (.int a2), some (.int a3), some (.int (nI 1)), some (.int (nI 0))] [] (ms_i (ms_i (ms_i (ms_i G 171 5 a1) 171 6 a2) 171 7 a3) 171 8 (-2)) (rI K)) ∧ ((mg_i G 171 7) = a3 → K (mg_i G 171 8) G))))))) : mC l κ true (d + 6) 0 0 m_X8_seek [.ref 171, .int a1, .int a2, .int a3] G (rI K) := by
  refine mC.of (by decide) (Nat.le_of_ble_eq_true rfl) [some (.ref 171), some (.int a1), some (.int a2), some (.int a3), none, none] rfl ?_
  refine mV_aload_n (k := 0) (by decide +kernel) rfl ?_
  refine mV_gfix (x := mg_i G 171 5) (by decide +kernel) fk_8_22 sh_171 rfl ?_
  refine mV_iload_n (k := 1) (by decide +kernel) rfl ?_
  refine mV_icmp_ne (off := 24) (tgt := 29) (by decide +kernel) (by decide) (fun hc => ?_) (fun hc => ?_)
  · replace h := h.1 hc
    refine mV_aload_n (k := 0) (by decide +kernel) rfl ?_
    refine mV_iload_n (k := 1) (by decide +kernel) rfl ?_
    refine mV_pfi (by decide +kernel) fk_8_22 sh_171 ?_
    refine mV_aload_n (k := 0) (by decide +kernel) rfl ?_
    refine mV_iload_n (k := 2) (by decide +kernel) rfl ?_
    refine mV_pfi (by decide +kernel) fk_8_67 sh_171 ?_
    refine mV_aload_n (k := 0) (by decide +kernel) rfl ?_
    refine mV_iload_n (k := 3) (by decide +kernel) rfl ?_
    refine mV_pfi (by decide +kernel) fk_8_70 sh_171 ?_
    refine mV_aload_n (k := 0) (by decide +kernel) rfl ?_
    refine mV_bipush (n := -2) (v := (-2)) (by decide +kernel) (by decide) ?_
    refine mV_pfi (by decide +kernel) fk_8_73 sh_171 ?_
    refine mV_iconst (n := 1) (v := nI 1) (by decide +kernel) (by decide) ?_
    refine mV_istore (i := 4) (ls' := [some (.ref 171), some (.int a1), some (.int a2), some (.int a3), some (.int (nI 1)), none]) (by decide +kernel) (Nat.le_of_ble_eq_true rfl) rfl rfl ?_
    refine mV_iconst (n := 0) (v := nI 0) (by decide +kernel) (by decide) ?_
    refine mV_istore (i := 5) (ls' := [some (.ref 171), some (.int a1), some (.int a2), some (.int a3), some (.int (nI 1)), some (.int (nI 0))]) (by decide +kernel) (Nat.le_of_ble_eq_true rfl) rfl rfl ?_
    exact h
  · replace h := h.2 hc
    refine mV_aload_n (k := 0) (by decide +kernel) rfl ?_
    refine mV_gfix (x := mg_i G 171 6) (by decide +kernel) fk_8_67 sh_171 rfl ?_
    refine mV_iload_n (k := 2) (by decide +kernel) rfl ?_
    refine mV_icmp_ne (off := 16) (tgt := 29) (by decide +kernel) (by decide) (fun hc => ?_) (fun hc => ?_)
    · replace h := h.1 hc
      refine mV_aload_n (k := 0) (by decide +kernel) rfl ?_
      refine mV_iload_n (k := 1) (by decide +kernel) rfl ?_
      refine mV_pfi (by decide +kernel) fk_8_22 sh_171 ?_
      refine mV_aload_n (k := 0) (by decide +kernel) rfl ?_
      refine mV_iload_n (k := 2) (by decide +kernel) rfl ?_
      refine mV_pfi (by decide +kernel) fk_8_67 sh_171 ?_
      refine mV_aload_n (k := 0) (by decide +kernel) rfl ?_
      refine mV_iload_n (k := 3) (by decide +kernel) rfl ?_
      refine mV_pfi (by decide +kernel) fk_8_70 sh_171 ?_
      refine mV_aload_n (k := 0) (by decide +kernel) rfl ?_
      refine mV_bipush (n := -2) (v := (-2)) (by decide +kernel) (by decide) ?_
      refine mV_pfi (by decide +kernel) fk_8_73 sh_171 ?_
      refine mV_iconst (n := 1) (v := nI 1) (by decide +kernel) (by decide) ?_
      refine mV_istore (i := 4) (ls' := [some (.ref 171), some (.int a1), some (.int a2), some (.int a3), some (.int (nI 1)), none]) (by decide +kernel) (Nat.le_of_ble_eq_true rfl) rfl rfl ?_
      refine mV_iconst (n := 0) (v := nI 0) (by decide +kernel) (by decide) ?_
      refine mV_istore (i := 5) (ls' := [some (.ref 171), some (.int a1), some (.int a2), some (.int a3), some (.int (nI 1)), some (.int (nI 0))]) (by decide +kernel) (Nat.le_of_ble_eq_true rfl) rfl rfl ?_
      exact h
    · replace h := h.2 hc
      refine mV_aload_n (k := 0) (by decide +kernel) rfl ?_
      refine mV_gfix (x := mg_i G 171 7) (by decide +kernel) fk_8_70 sh_171 rfl ?_
      refine mV_iload_n (k := 3) (by decide +kernel) rfl ?_
      refine mV_icmp_ne (off := 8) (tgt := 29) (by decide +kernel) (by decide) (fun hc => ?_) (fun hc => ?_)
      · replace h := h.1 hc
        refine mV_aload_n (k := 0) (by decide +kernel) rfl ?_
        refine mV_iload_n (k := 1) (by decide +kernel) rfl ?_
        refine mV_pfi (by decide +kernel) fk_8_22 sh_171 ?_
        refine mV_aload_n (k := 0) (by decide +kernel) rfl ?_
        refine mV_iload_n (k := 2) (by decide +kernel) rfl ?_
        refine mV_pfi (by decide +kernel) fk_8_67 sh_171 ?_
        refine mV_aload_n (k := 0) (by decide +kernel) rfl ?_
        refine mV_iload_n (k := 3) (by decide +kernel) rfl ?_
        refine mV_pfi (by decide +kernel) fk_8_70 sh_171 ?_
        refine mV_aload_n (k := 0) (by decide +kernel) rfl ?_
        refine mV_bipush (n := -2) (v := (-2)) (by decide +kernel) (by decide) ?_
        refine mV_pfi (by decide +kernel) fk_8_73 sh_171 ?_
        refine mV_iconst (n := 1) (v := nI 1) (by decide +kernel) (by decide) ?_
        refine mV_istore (i := 4) (ls' := [some (.ref 171), some (.int a1), some (.int a2), some (.int a3), some (.int (nI 1)), none]) (by decide +kernel) (Nat.le_of_ble_eq_true rfl) rfl rfl ?_
        refine mV_iconst (n := 0) (v := nI 0) (by decide +kernel) (by decide) ?_
        refine mV_istore (i := 5) (ls' := [some (.ref 171), some (.int a1), some (.int a2), some (.int a3), some (.int (nI 1)), some (.int (nI 0))]) (by decide +kernel) (Nat.le_of_ble_eq_true rfl) rfl rfl ?_
        exact h
      · replace h := h.2 hc
        refine mV_aload_n (k := 0) (by decide +kernel) rfl ?_
        refine mV_gfix (x := mg_i G 171 8) (by decide +kernel) fk_8_73 sh_171 rfl ?_
        exact mV_iret (by decide +kernel) rfl h
set_option maxRecDepth 100000 in
set_option maxHeartbeats 4000000 in
theorem p_X8_seek_56 {l : Launch} {κ : mm_K} {d : Nat} {G : mm_G} {K : Int32 → mm_G → Prop} (v1 : Int32) (v2 : Int32) (v3 : Int32) (v4 : Int32) (v5 : Int32) (h : ((v2 < v5 → K (mg_i G 171 8) G) ∧ (¬ v2 < v5 → ((v4 ≤ 0 → K (mg_i G 171 8) G) ∧ (¬ v4 ≤ 0 → ((¬ (mg_i G 171 8) = (-2) → K (mg_i G 171 8) G) ∧ ((mg_i G 171 8) = (-2) → ((v4 ≤ (nI 30000) → vp_in v1 4 ∧ mC l κ true (d + 5) 0 0 m_X8_findOfSize [.ref 171, .ref (54 + 2 * v1.toNatClampNeg), .int v5, .int v3] G (rI (fun r2 G3 => ((r2 = 0 → vp_in v1 4 ∧ mV l κ true (d + 6) 0 0 m_X8_seek 56 [some (.ref 171), some (.int v1), some (.int v2), some (.int v3), some (.int (v4 * (mg_i G3 (54 + 2 * v1.toNatClampNeg) 1))), some (.int (v5 + (nI 1)))] [] G3 (rI K)) ∧ (¬ r2 = 0 → vp_in v1 4 ∧ mV l κ true (d + 6) 0 0 m_X8_seek 56 [some (.ref 171), some (.int v1), some (.int v2), some (.int v3), some (.int (v4 * (mg_i (ms_i G3 171 8 v5) (54 + 2 * v1.toNatClampNeg) 1))), some (.int (v5 + (nI 1)))] [] (ms_i G3 171 8 v5) (rI K)))))) ∧ (¬ v4 ≤ (nI 30000) → vp_in v1 4 ∧ mV l κ true (d + 6) 0 0 m_X8_seek 56 [some (.ref 171), some (.int v1), some (.int v2), some (.int v3), some (.int (v4 * (mg_i (ms_i G 171 8 (-3)) (54 + 2 * v1.toNatClampNeg) 1))), some (.int (v5 + (nI 1)))] [] (ms_i G 171 8 (-3)) (rI K)))))))))) : mV l κ true (d + 6) 0 0 m_X8_seek 56 [some (.ref 171), some (.int v1), some (.int v2), some (.int v3), some (.int v4), some (.int v5)] [] G (rI K) := by
  refine mV_iload (i := 5) (by decide +kernel) rfl ?_
  refine mV_iload_n (k := 2) (by decide +kernel) rfl ?_
  refine mV_icmp_gt (off := 82) (tgt := 141) (by decide +kernel) (by decide) (fun hc => ?_) (fun hc => ?_)
  · replace h := h.1 hc
    refine mV_aload_n (k := 0) (by decide +kernel) rfl ?_
    refine mV_gfix (x := mg_i G 171 8) (by decide +kernel) fk_8_73 sh_171 rfl ?_
    exact mV_iret (by decide +kernel) rfl h
  · replace h := h.2 hc
    refine mV_iload (i := 4) (by decide +kernel) rfl ?_
    refine mV_if_le (off := 77) (tgt := 141) (by decide +kernel) (by decide) (fun hc => ?_) (fun hc => ?_)
    · replace h := h.1 hc
      refine mV_aload_n (k := 0) (by decide +kernel) rfl ?_
      refine mV_gfix (x := mg_i G 171 8) (by decide +kernel) fk_8_73 sh_171 rfl ?_
      exact mV_iret (by decide +kernel) rfl h
    · replace h := h.2 hc
      refine mV_aload_n (k := 0) (by decide +kernel) rfl ?_
      refine mV_gfix (x := mg_i G 171 8) (by decide +kernel) fk_8_73 sh_171 rfl ?_
      refine mV_bipush (n := -2) (v := (-2)) (by decide +kernel) (by decide) ?_
      refine mV_icmp_ne (off := 68) (tgt := 141) (by decide +kernel) (by decide) (fun hc => ?_) (fun hc => ?_)
      · replace h := h.1 hc
        refine mV_aload_n (k := 0) (by decide +kernel) rfl ?_
        refine mV_gfix (x := mg_i G 171 8) (by decide +kernel) fk_8_73 sh_171 rfl ?_
        exact mV_iret (by decide +kernel) rfl h
      · replace h := h.2 hc
        refine mV_iload (i := 4) (by decide +kernel) rfl ?_
        refine mV_sipush (n := 30000) (v := nI 30000) (by decide +kernel) (by decide) ?_
        refine mV_icmp_le (off := 12) (tgt := 93) (by decide +kernel) (by decide) (fun hc => ?_) (fun hc => ?_)
        · replace h := h.1 hc
          refine mV_aload_n (k := 0) (by decide +kernel) rfl ?_
          refine mV_aload_n (k := 0) (by decide +kernel) rfl ?_
          refine mV_gfr (r := some 50) (by decide +kernel) fk_8_26 sh_171 (mm_rrs st_171_1) rfl ?_
          refine mV_gfr (r := some 51) (by decide +kernel) fk_8_76 sh_50 (mm_rrs st_50_0) rfl ?_
          refine mV_iload_n (k := 1) (by decide +kernel) rfl ?_
          have hj1 := h.1
          replace h := h.2
          refine mV_aal (t := 5) (r := some (54 + 2 * v1.toNatClampNeg)) (by decide +kernel) sh_51 (by decide) hj1 (mm_rrs (mm_rs50.2.2.2.2.2.2.2.1 _ (mm_ixlt hj1))) rfl ?_
          refine mV_iload (i := 5) (by decide +kernel) rfl ?_
          refine mV_iload_n (k := 3) (by decide +kernel) rfl ?_
          refine mV_cV (as := [.ref (54 + 2 * v1.toNatClampNeg), .int v5, .int v3]) (rest := []) (mc1 := 0) (ms1 := 0) (mc := 0) (ms := 0) (by decide +kernel) md_X8_findOfSize lk_8_82 sh_171 rfl rfl rfl (Nat.le_of_ble_eq_true rfl) (mC.mono (mm_contI (fun r2 G3 hK => ?_)) h)
          replace h := hK
          refine mV_if_eq (off := 9) (tgt := 118) (by decide +kernel) (by decide) (fun hc => ?_) (fun hc => ?_)
          · replace h := h.1 hc
            refine mV_iload (i := 4) (by decide +kernel) rfl ?_
            refine mV_aload_n (k := 0) (by decide +kernel) rfl ?_
            refine mV_gfr (r := some 50) (by decide +kernel) fk_8_26 sh_171 (mm_rrs st_171_1) rfl ?_
            refine mV_gfr (r := some 51) (by decide +kernel) fk_8_76 sh_50 (mm_rrs st_50_0) rfl ?_
            refine mV_iload_n (k := 1) (by decide +kernel) rfl ?_
            have hj4 := h.1
            replace h := h.2
            refine mV_aal (t := 5) (r := some (54 + 2 * v1.toNatClampNeg)) (by decide +kernel) sh_51 (by decide) hj4 (mm_rrs (mm_rs50.2.2.2.2.2.2.2.1 _ (mm_ixlt hj4))) rfl ?_
            refine mV_gfix (x := mg_i G3 (54 + 2 * v1.toNatClampNeg) 1) (by decide +kernel) fk_8_86 (mm_rs50.2.2.2.2.2.2.2.2 _ (mm_ixlt hj4)).1 rfl ?_
            refine mV_imul (by decide +kernel) ?_
            refine mV_istore (i := 4) (ls' := [some (.ref 171), some (.int v1), some (.int v2), some (.int v3), some (.int (v4 * (mg_i G3 (54 + 2 * v1.toNatClampNeg) 1))), some (.int v5)]) (by decide +kernel) (Nat.le_of_ble_eq_true rfl) rfl rfl ?_
            refine mV_iincc (i := 5) (n := 1) (c := nI 1) (ls' := [some (.ref 171), some (.int v1), some (.int v2), some (.int v3), some (.int (v4 * (mg_i G3 (54 + 2 * v1.toNatClampNeg) 1))), some (.int (v5 + (nI 1)))]) (by decide +kernel) (by decide) rfl (Nat.le_of_ble_eq_true rfl) rfl rfl ?_
            refine mV_goto (off := -82) (tgt := 56) (by decide +kernel) (by decide) ?_
            exact h
          · replace h := h.2 hc
            refine mV_aload_n (k := 0) (by decide +kernel) rfl ?_
            refine mV_iload (i := 5) (by decide +kernel) rfl ?_
            refine mV_pfi (by decide +kernel) fk_8_73 sh_171 ?_
            refine mV_iload (i := 4) (by decide +kernel) rfl ?_
            refine mV_aload_n (k := 0) (by decide +kernel) rfl ?_
            refine mV_gfr (r := some 50) (by decide +kernel) fk_8_26 sh_171 (mm_rrs st_171_1) rfl ?_
            refine mV_gfr (r := some 51) (by decide +kernel) fk_8_76 sh_50 (mm_rrs st_50_0) rfl ?_
            refine mV_iload_n (k := 1) (by decide +kernel) rfl ?_
            have hj5 := h.1
            replace h := h.2
            refine mV_aal (t := 5) (r := some (54 + 2 * v1.toNatClampNeg)) (by decide +kernel) sh_51 (by decide) hj5 (mm_rrs (mm_rs50.2.2.2.2.2.2.2.1 _ (mm_ixlt hj5))) rfl ?_
            refine mV_gfix (x := mg_i (ms_i G3 171 8 v5) (54 + 2 * v1.toNatClampNeg) 1) (by decide +kernel) fk_8_86 (mm_rs50.2.2.2.2.2.2.2.2 _ (mm_ixlt hj5)).1 rfl ?_
            refine mV_imul (by decide +kernel) ?_
            refine mV_istore (i := 4) (ls' := [some (.ref 171), some (.int v1), some (.int v2), some (.int v3), some (.int (v4 * (mg_i (ms_i G3 171 8 v5) (54 + 2 * v1.toNatClampNeg) 1))), some (.int v5)]) (by decide +kernel) (Nat.le_of_ble_eq_true rfl) rfl rfl ?_
            refine mV_iincc (i := 5) (n := 1) (c := nI 1) (ls' := [some (.ref 171), some (.int v1), some (.int v2), some (.int v3), some (.int (v4 * (mg_i (ms_i G3 171 8 v5) (54 + 2 * v1.toNatClampNeg) 1))), some (.int (v5 + (nI 1)))]) (by decide +kernel) (by decide) rfl (Nat.le_of_ble_eq_true rfl) rfl rfl ?_
            refine mV_goto (off := -82) (tgt := 56) (by decide +kernel) (by decide) ?_
            exact h
        · replace h := h.2 hc
          refine mV_aload_n (k := 0) (by decide +kernel) rfl ?_
          refine mV_bipush (n := -3) (v := (-3)) (by decide +kernel) (by decide) ?_
          refine mV_pfi (by decide +kernel) fk_8_73 sh_171 ?_
          refine mV_goto (off := 28) (tgt := 118) (by decide +kernel) (by decide) ?_
          refine mV_iload (i := 4) (by decide +kernel) rfl ?_
          refine mV_aload_n (k := 0) (by decide +kernel) rfl ?_
          refine mV_gfr (r := some 50) (by decide +kernel) fk_8_26 sh_171 (mm_rrs st_171_1) rfl ?_
          refine mV_gfr (r := some 51) (by decide +kernel) fk_8_76 sh_50 (mm_rrs st_50_0) rfl ?_
          refine mV_iload_n (k := 1) (by decide +kernel) rfl ?_
          have hj6 := h.1
          replace h := h.2
          refine mV_aal (t := 5) (r := some (54 + 2 * v1.toNatClampNeg)) (by decide +kernel) sh_51 (by decide) hj6 (mm_rrs (mm_rs50.2.2.2.2.2.2.2.1 _ (mm_ixlt hj6))) rfl ?_
          refine mV_gfix (x := mg_i (ms_i G 171 8 (-3)) (54 + 2 * v1.toNatClampNeg) 1) (by decide +kernel) fk_8_86 (mm_rs50.2.2.2.2.2.2.2.2 _ (mm_ixlt hj6)).1 rfl ?_
          refine mV_imul (by decide +kernel) ?_
          refine mV_istore (i := 4) (ls' := [some (.ref 171), some (.int v1), some (.int v2), some (.int v3), some (.int (v4 * (mg_i (ms_i G 171 8 (-3)) (54 + 2 * v1.toNatClampNeg) 1))), some (.int v5)]) (by decide +kernel) (Nat.le_of_ble_eq_true rfl) rfl rfl ?_
          refine mV_iincc (i := 5) (n := 1) (c := nI 1) (ls' := [some (.ref 171), some (.int v1), some (.int v2), some (.int v3), some (.int (v4 * (mg_i (ms_i G 171 8 (-3)) (54 + 2 * v1.toNatClampNeg) 1))), some (.int (v5 + (nI 1)))]) (by decide +kernel) (by decide) rfl (Nat.le_of_ble_eq_true rfl) rfl rfl ?_
          refine mV_goto (off := -82) (tgt := 56) (by decide +kernel) (by decide) ?_
          exact h
set_option maxRecDepth 100000 in
set_option maxHeartbeats 4000000 in
theorem e_X8_findOfSize {l : Launch} {κ : mm_K} {d : Nat} {G : mm_G} {K : Int32 → mm_G → Prop} (a1 : Nat) (ha1 : RowAt a1) (a2 : Int32) (a3 : Int32) (h : mV l κ true (d + 5) 0 0 m_X8_findOfSize 22 [some (.ref 171), some (.ref a1), some (.int a2), some (.int a3), some (.int (nI 0))] [] (ms_i (ms_i G 173 2 (mg_i G a1 2)) 173 1 a2) (rI K)) : mC l κ true (d + 5) 0 0 m_X8_findOfSize [.ref 171, .ref a1, .int a2, .int a3] G (rI K) := by
  refine mC.of (by decide) (Nat.le_of_ble_eq_true rfl) [some (.ref 171), some (.ref a1), some (.int a2), some (.int a3), none] rfl ?_
  refine mV_aload_n (k := 0) (by decide +kernel) rfl ?_
  refine mV_gfr (r := some 173) (by decide +kernel) fk_8_18 sh_171 (mm_rrs st_171_4) rfl ?_
  refine mV_aload_n (k := 1) (by decide +kernel) rfl ?_
  refine mV_gfix (x := mg_i G a1 2) (by decide +kernel) fk_8_87 ha1.1 rfl ?_
  refine mV_pfi (by decide +kernel) fk_8_87 sh_173 ?_
  refine mV_aload_n (k := 0) (by decide +kernel) rfl ?_
  refine mV_gfr (r := some 173) (by decide +kernel) fk_8_18 sh_171 (mm_rrs st_171_4) rfl ?_
  refine mV_iload_n (k := 2) (by decide +kernel) rfl ?_
  refine mV_pfi (by decide +kernel) fk_8_86 sh_173 ?_
  refine mV_iconst (n := 0) (v := nI 0) (by decide +kernel) (by decide) ?_
  refine mV_istore (i := 4) (ls' := [some (.ref 171), some (.ref a1), some (.int a2), some (.int a3), some (.int (nI 0))]) (by decide +kernel) (Nat.le_of_ble_eq_true rfl) rfl rfl ?_
  exact h
set_option maxRecDepth 100000 in
set_option maxHeartbeats 4000000 in
theorem p_X8_findOfSize_22 {l : Launch} {κ : mm_K} {d : Nat} {G : mm_G} {K : Int32 → mm_G → Prop} (a1 : Nat) (ha1 : RowAt a1) (v2 : Int32) (v3 : Int32) (v4 : Int32) (h : ((v2 ≤ v4 → mV l κ true (d + 5) 0 0 m_X8_findOfSize 61 [some (.ref 171), some (.ref a1), some (.int v2), some (.int v3), some (.int (nI 0))] [] G (rI K)) ∧ (¬ v2 ≤ v4 → vp_in v4 5 ∧ vp_in (nI 0) 16 ∧ ∃ t2, mg_r G (a1 + 1) ((nI 0).toNatClampNeg) = some t2 ∧ LineAt t2 ∧ vp_in v4 16 ∧ mV l κ true (d + 5) 0 0 m_X8_findOfSize 22 [some (.ref 171), some (.ref a1), some (.int v2), some (.int v3), some (.int (v4 + (nI 1)))] [] (ms_r (ms_i G 172 v4.toNatClampNeg (nI 0)) 174 v4.toNatClampNeg (some t2)) (rI K)))) : mV l κ true (d + 5) 0 0 m_X8_findOfSize 22 [some (.ref 171), some (.ref a1), some (.int v2), some (.int v3), some (.int v4)] [] G (rI K) := by
  refine mV_iload (i := 4) (by decide +kernel) rfl ?_
  refine mV_iload_n (k := 2) (by decide +kernel) rfl ?_
  refine mV_icmp_ge (off := 33) (tgt := 58) (by decide +kernel) (by decide) (fun hc => ?_) (fun hc => ?_)
  · replace h := h.1 hc
    refine mV_iconst (n := 0) (v := nI 0) (by decide +kernel) (by decide) ?_
    refine mV_istore (i := 4) (ls' := [some (.ref 171), some (.ref a1), some (.int v2), some (.int v3), some (.int (nI 0))]) (by decide +kernel) (Nat.le_of_ble_eq_true rfl) rfl rfl ?_
    exact h
  · replace h := h.2 hc
    refine mV_aload_n (k := 0) (by decide +kernel) rfl ?_
    refine mV_gfr (r := some 172) (by decide +kernel) fk_8_9 sh_171 (mm_rrs st_171_0) rfl ?_
    refine mV_iload (i := 4) (by decide +kernel) rfl ?_
    refine mV_iconst (n := 0) (v := nI 0) (by decide +kernel) (by decide) ?_
    refine mV_ias (by decide +kernel) sh_172 h.1 ?_
    replace h := h.2
    refine mV_aload_n (k := 0) (by decide +kernel) rfl ?_
    refine mV_gfr (r := some 173) (by decide +kernel) fk_8_18 sh_171 (mm_rrs st_171_4) rfl ?_
    refine mV_gfr (r := some 174) (by decide +kernel) fk_8_90 sh_173 (mm_rrs st_173_0) rfl ?_
    refine mV_iload (i := 4) (by decide +kernel) rfl ?_
    refine mV_aload_n (k := 1) (by decide +kernel) rfl ?_
    refine mV_gfr (r := some (a1 + 1)) (by decide +kernel) fk_8_90 ha1.1 (mm_rrs ha1.2.2.1) rfl ?_
    refine mV_iconst (n := 0) (v := nI 0) (by decide +kernel) (by decide) ?_
    have hj1 := h.1
    replace h := h.2
    obtain ⟨t2, hrt2, hat2, h⟩ := h
    refine mV_aal (t := 4) (r := some t2) (by decide +kernel) ha1.2.1 (by decide) hj1 ((mm_rrd (ha1.2.2.2 _ (mm_ixlt hj1))).trans hrt2) rfl ?_
    refine mV_aas (t := 4) (by decide +kernel) sh_174 (by decide) rfl hat2 rfl h.1 ((mm_rowP (by decide +kernel : mm_rowB 173 = true)).2.2.2 _ (mm_ixlt h.1)) ?_
    replace h := h.2
    refine mV_iincc (i := 4) (n := 1) (c := nI 1) (ls' := [some (.ref 171), some (.ref a1), some (.int v2), some (.int v3), some (.int (v4 + (nI 1)))]) (by decide +kernel) (by decide) rfl (Nat.le_of_ble_eq_true rfl) rfl rfl ?_
    refine mV_goto (off := -33) (tgt := 22) (by decide +kernel) (by decide) ?_
    exact h
set_option maxRecDepth 100000 in
set_option maxHeartbeats 4000000 in
theorem p_X8_findOfSize_61 {l : Launch} {κ : mm_K} {d : Nat} {G : mm_G} {K : Int32 → mm_G → Prop} (a1 : Nat) (ha1 : RowAt a1) (v2 : Int32) (v3 : Int32) (v4 : Int32) (h : (((nI 30000) ≤ v4 → K (nI 0) G) ∧ (¬ (nI 30000) ≤ v4 → mC l κ true (d + 4) 0 0 m_X8_suffices [.ref 171, .int v3] G (rI (fun r1 G2 => ((r1 = 0 → mC l κ true (d + 4) 0 0 m_X8_passOn [.ref 171, .ref a1, .int (mg_i G2 91 5)] G2 (rI (fun r3 G4 => ((¬ r3 = 0 → mV l κ true (d + 5) 0 0 m_X8_findOfSize 61 [some (.ref 171), some (.ref a1), some (.int v2), some (.int v3), some (.int (v4 + (nI 1)))] [] G4 (rI K)) ∧ (r3 = 0 → K (nI 0) G4))))) ∧ (¬ r1 = 0 → K (nI 1) G2))))))) : mV l κ true (d + 5) 0 0 m_X8_findOfSize 61 [some (.ref 171), some (.ref a1), some (.int v2), some (.int v3), some (.int v4)] [] G (rI K) := by
  refine mV_iload (i := 4) (by decide +kernel) rfl ?_
  refine mV_sipush (n := 30000) (v := nI 30000) (by decide +kernel) (by decide) ?_
  refine mV_icmp_ge (off := 36) (tgt := 102) (by decide +kernel) (by decide) (fun hc => ?_) (fun hc => ?_)
  · replace h := h.1 hc
    refine mV_iconst (n := 0) (v := nI 0) (by decide +kernel) (by decide) ?_
    exact mV_zret (by decide +kernel) rfl (by decide) h
  · replace h := h.2 hc
    refine mV_aload_n (k := 0) (by decide +kernel) rfl ?_
    refine mV_iload_n (k := 3) (by decide +kernel) rfl ?_
    refine mV_cV (as := [.int v3]) (rest := []) (mc1 := 0) (ms1 := 0) (mc := 0) (ms := 0) (by decide +kernel) md_X8_suffices lk_8_94 sh_171 rfl rfl rfl (Nat.le_of_ble_eq_true rfl) (mC.mono (mm_contI (fun r1 G2 hK => ?_)) h)
    replace h := hK
    refine mV_if_eq (off := 5) (tgt := 79) (by decide +kernel) (by decide) (fun hc => ?_) (fun hc => ?_)
    · replace h := h.1 hc
      refine mV_aload_n (k := 0) (by decide +kernel) rfl ?_
      refine mV_aload_n (k := 1) (by decide +kernel) rfl ?_
      refine mV_aload_n (k := 0) (by decide +kernel) rfl ?_
      refine mV_gfr (r := some 91) (by decide +kernel) fk_8_34 sh_171 (mm_rrs st_171_3) rfl ?_
      refine mV_gfix (x := mg_i G2 91 5) (by decide +kernel) fk_8_98 sh_91 rfl ?_
      refine mV_cV (as := [.ref a1, .int (mg_i G2 91 5)]) (rest := []) (mc1 := 0) (ms1 := 0) (mc := 0) (ms := 0) (by decide +kernel) md_X8_passOn lk_8_101 sh_171 rfl rfl rfl (Nat.le_of_ble_eq_true rfl) (mC.mono (mm_contI (fun r3 G4 hK => ?_)) h)
      replace h := hK
      refine mV_if_ne (off := 5) (tgt := 96) (by decide +kernel) (by decide) (fun hc => ?_) (fun hc => ?_)
      · replace h := h.1 hc
        refine mV_iincc (i := 4) (n := 1) (c := nI 1) (ls' := [some (.ref 171), some (.ref a1), some (.int v2), some (.int v3), some (.int (v4 + (nI 1)))]) (by decide +kernel) (by decide) rfl (Nat.le_of_ble_eq_true rfl) rfl rfl ?_
        refine mV_goto (off := -38) (tgt := 61) (by decide +kernel) (by decide) ?_
        exact h
      · replace h := h.2 hc
        refine mV_iconst (n := 0) (v := nI 0) (by decide +kernel) (by decide) ?_
        exact mV_zret (by decide +kernel) rfl (by decide) h
    · replace h := h.2 hc
      refine mV_iconst (n := 1) (v := nI 1) (by decide +kernel) (by decide) ?_
      exact mV_zret (by decide +kernel) rfl (by decide) h
set_option maxRecDepth 100000 in
set_option maxHeartbeats 4000000 in
theorem e_X8_suffices {l : Launch} {κ : mm_K} {d : Nat} {G : mm_G} {K : Int32 → mm_G → Prop} (a1 : Int32) (h : mC l κ true (d + 3) 0 0 m_X8_doesTable [.ref 171, .ref 173, .int (nI 0)] G (rI (fun r1 G2 => ((¬ r1 = 0 → mV l κ true (d + 4) 0 0 m_X8_suffices 16 [some (.ref 171), some (.int a1), some (.int (nI 0))] [] G2 (rI K)) ∧ (r1 = 0 → K (nI 0) G2))))) : mC l κ true (d + 4) 0 0 m_X8_suffices [.ref 171, .int a1] G (rI K) := by
  refine mC.of (by decide) (Nat.le_of_ble_eq_true rfl) [some (.ref 171), some (.int a1), none] rfl ?_
  refine mV_aload_n (k := 0) (by decide +kernel) rfl ?_
  refine mV_aload_n (k := 0) (by decide +kernel) rfl ?_
  refine mV_gfr (r := some 173) (by decide +kernel) fk_8_18 sh_171 (mm_rrs st_171_4) rfl ?_
  refine mV_iconst (n := 0) (v := nI 0) (by decide +kernel) (by decide) ?_
  refine mV_cV (as := [.ref 173, .int (nI 0)]) (rest := []) (mc1 := 0) (ms1 := 0) (mc := 0) (ms := 0) (by decide +kernel) md_X8_doesTable lk_8_105 sh_171 rfl rfl rfl (Nat.le_of_ble_eq_true rfl) (mC.mono (mm_contI (fun r1 G2 hK => ?_)) h)
  replace h := hK
  refine mV_if_ne (off := 5) (tgt := 14) (by decide +kernel) (by decide) (fun hc => ?_) (fun hc => ?_)
  · replace h := h.1 hc
    refine mV_iconst (n := 0) (v := nI 0) (by decide +kernel) (by decide) ?_
    refine mV_istore_n (k := 2) (ls' := [some (.ref 171), some (.int a1), some (.int (nI 0))]) (by decide +kernel) (Nat.le_of_ble_eq_true rfl) rfl rfl ?_
    exact h
  · replace h := h.2 hc
    refine mV_iconst (n := 0) (v := nI 0) (by decide +kernel) (by decide) ?_
    exact mV_zret (by decide +kernel) rfl (by decide) h
set_option maxRecDepth 100000 in
set_option maxHeartbeats 4000000 in
theorem p_X8_suffices_16 {l : Launch} {κ : mm_K} {d : Nat} {G : mm_G} {K : Int32 → mm_G → Prop} (v1 : Int32) (v2 : Int32) (h : (((mg_i G 173 1) ≤ v2 → K (nI 1) G) ∧ (¬ (mg_i G 173 1) ≤ v2 → ((v1 ≤ 0 → K (nI 1) G) ∧ (¬ v1 ≤ 0 → mC l κ true (d + 3) 0 0 m_X8_doesTable [.ref 171, .ref 173, .int ((nI 1) <<< (v2 &&& 31))] G (rI (fun r1 G2 => ((¬ r1 = 0 → mV l κ true (d + 4) 0 0 m_X8_suffices 16 [some (.ref 171), some (.int v1), some (.int (v2 + (nI 1)))] [] G2 (rI K)) ∧ (r1 = 0 → K (nI 0) G2))))))))) : mV l κ true (d + 4) 0 0 m_X8_suffices 16 [some (.ref 171), some (.int v1), some (.int v2)] [] G (rI K) := by
  refine mV_iload_n (k := 2) (by decide +kernel) rfl ?_
  refine mV_aload_n (k := 0) (by decide +kernel) rfl ?_
  refine mV_gfr (r := some 173) (by decide +kernel) fk_8_18 sh_171 (mm_rrs st_171_4) rfl ?_
  refine mV_gfix (x := mg_i G 173 1) (by decide +kernel) fk_8_86 sh_173 rfl ?_
  refine mV_icmp_ge (off := 29) (tgt := 53) (by decide +kernel) (by decide) (fun hc => ?_) (fun hc => ?_)
  · replace h := h.1 hc
    refine mV_iconst (n := 1) (v := nI 1) (by decide +kernel) (by decide) ?_
    exact mV_zret (by decide +kernel) rfl (by decide) h
  · replace h := h.2 hc
    refine mV_iload_n (k := 1) (by decide +kernel) rfl ?_
    refine mV_if_le (off := 25) (tgt := 53) (by decide +kernel) (by decide) (fun hc => ?_) (fun hc => ?_)
    · replace h := h.1 hc
      refine mV_iconst (n := 1) (v := nI 1) (by decide +kernel) (by decide) ?_
      exact mV_zret (by decide +kernel) rfl (by decide) h
    · replace h := h.2 hc
      refine mV_aload_n (k := 0) (by decide +kernel) rfl ?_
      refine mV_aload_n (k := 0) (by decide +kernel) rfl ?_
      refine mV_gfr (r := some 173) (by decide +kernel) fk_8_18 sh_171 (mm_rrs st_171_4) rfl ?_
      refine mV_iconst (n := 1) (v := nI 1) (by decide +kernel) (by decide) ?_
      refine mV_iload_n (k := 2) (by decide +kernel) rfl ?_
      refine mV_ishl (by decide +kernel) ?_
      refine mV_cV (as := [.ref 173, .int ((nI 1) <<< (v2 &&& 31))]) (rest := []) (mc1 := 0) (ms1 := 0) (mc := 0) (ms := 0) (by decide +kernel) md_X8_doesTable lk_8_105 sh_171 rfl rfl rfl (Nat.le_of_ble_eq_true rfl) (mC.mono (mm_contI (fun r1 G2 hK => ?_)) h)
      replace h := hK
      refine mV_if_ne (off := 5) (tgt := 47) (by decide +kernel) (by decide) (fun hc => ?_) (fun hc => ?_)
      · replace h := h.1 hc
        refine mV_iincc (i := 2) (n := 1) (c := nI 1) (ls' := [some (.ref 171), some (.int v1), some (.int (v2 + (nI 1)))]) (by decide +kernel) (by decide) rfl (Nat.le_of_ble_eq_true rfl) rfl rfl ?_
        refine mV_goto (off := -34) (tgt := 16) (by decide +kernel) (by decide) ?_
        exact h
      · replace h := h.2 hc
        refine mV_iconst (n := 0) (v := nI 0) (by decide +kernel) (by decide) ?_
        exact mV_zret (by decide +kernel) rfl (by decide) h
set_option maxRecDepth 100000 in
set_option maxHeartbeats 4000000 in
theorem e_X8_passOn {l : Launch} {κ : mm_K} {d : Nat} {G : mm_G} {K : Int32 → mm_G → Prop} (a1 : Nat) (ha1 : RowAt a1) (a2 : Int32) (h : mV l κ true d 0 0 m_X8_passOn 10 [some (.ref 171), some (.ref a1), some (.int a2), some (.int ((mg_i G 173 1) - (nI 1))), none] [] G (rI K)) : mC l κ true d 0 0 m_X8_passOn [.ref 171, .ref a1, .int a2] G (rI K) := by
  refine mC.of (by decide) (Nat.le_of_ble_eq_true rfl) [some (.ref 171), some (.ref a1), some (.int a2), none, none] rfl ?_
  refine mV_aload_n (k := 0) (by decide +kernel) rfl ?_
  refine mV_gfr (r := some 173) (by decide +kernel) fk_8_18 sh_171 (mm_rrs st_171_4) rfl ?_
  refine mV_gfix (x := mg_i G 173 1) (by decide +kernel) fk_8_86 sh_173 rfl ?_
  refine mV_iconst (n := 1) (v := nI 1) (by decide +kernel) (by decide) ?_
  refine mV_isub (by decide +kernel) ?_
  refine mV_istore_n (k := 3) (ls' := [some (.ref 171), some (.ref a1), some (.int a2), some (.int ((mg_i G 173 1) - (nI 1))), none]) (by decide +kernel) (Nat.le_of_ble_eq_true rfl) rfl rfl ?_
  exact h
set_option maxRecDepth 100000 in
set_option maxHeartbeats 4000000 in
theorem p_X8_passOn_10 {l : Launch} {κ : mm_K} {d : Nat} {G : mm_G} {K : Int32 → mm_G → Prop} (a1 : Nat) (ha1 : RowAt a1) (v2 : Int32) (v3 : Int32) (h : ((v3 < 0 → K (nI 0) G) ∧ (¬ v3 < 0 → ((v2 < v3 → (((nI 0) = 0 → vp_in v3 5 ∧ vp_in v3 5 ∧ vp_in (mg_i (ms_i G 172 v3.toNatClampNeg (nI 0)) 172 v3.toNatClampNeg) 16 ∧ ∃ t2, mg_r G (a1 + 1) ((mg_i (ms_i G 172 v3.toNatClampNeg (nI 0)) 172 v3.toNatClampNeg).toNatClampNeg) = some t2 ∧ LineAt t2 ∧ vp_in v3 16 ∧ (((nI 0) = 0 → mV l κ true d 0 0 m_X8_passOn 10 [some (.ref 171), some (.ref a1), some (.int v2), some (.int (v3 + (-1))), none] [] (ms_r (ms_i G 172 v3.toNatClampNeg (nI 0)) 174 v3.toNatClampNeg (some t2)) (rI K)) ∧ (¬ (nI 0) = 0 → K (nI 1) (ms_r (ms_i G 172 v3.toNatClampNeg (nI 0)) 174 v3.toNatClampNeg (some t2))))) ∧ (¬ (nI 0) = 0 → vp_in v3 5 ∧ vp_in v3 5 ∧ vp_in v3 5 ∧ vp_in (mg_i (ms_i G 172 v3.toNatClampNeg ((mg_i G 172 v3.toNatClampNeg) + (nI 1))) 172 v3.toNatClampNeg) 16 ∧ ∃ t4, mg_r G (a1 + 1) ((mg_i (ms_i G 172 v3.toNatClampNeg ((mg_i G 172 v3.toNatClampNeg) + (nI 1))) 172 v3.toNatClampNeg).toNatClampNeg) = some t4 ∧ LineAt t4 ∧ vp_in v3 16 ∧ (((nI 0) = 0 → mV l κ true d 0 0 m_X8_passOn 10 [some (.ref 171), some (.ref a1), some (.int v2), some (.int (v3 + (-1))), none] [] (ms_r (ms_i G 172 v3.toNatClampNeg ((mg_i G 172 v3.toNatClampNeg) + (nI 1))) 174 v3.toNatClampNeg (some t4)) (rI K)) ∧ (¬ (nI 0) = 0 → K (nI 1) (ms_r (ms_i G 172 v3.toNatClampNeg ((mg_i G 172 v3.toNatClampNeg) + (nI 1))) 174 v3.toNatClampNeg (some t4))))))) ∧ (¬ v2 < v3 → vp_in v3 5 ∧ (((mg_i G a1 1) ≤ ((mg_i G 172 v3.toNatClampNeg) + (nI 1)) → (((nI 0) = 0 → vp_in v3 5 ∧ vp_in v3 5 ∧ vp_in (mg_i (ms_i G 172 v3.toNatClampNeg (nI 0)) 172 v3.toNatClampNeg) 16 ∧ ∃ t6, mg_r G (a1 + 1) ((mg_i (ms_i G 172 v3.toNatClampNeg (nI 0)) 172 v3.toNatClampNeg).toNatClampNeg) = some t6 ∧ LineAt t6 ∧ vp_in v3 16 ∧ (((nI 0) = 0 → mV l κ true d 0 0 m_X8_passOn 10 [some (.ref 171), some (.ref a1), some (.int v2), some (.int (v3 + (-1))), none] [] (ms_r (ms_i G 172 v3.toNatClampNeg (nI 0)) 174 v3.toNatClampNeg (some t6)) (rI K)) ∧ (¬ (nI 0) = 0 → K (nI 1) (ms_r (ms_i G 172 v3.toNatClampNeg (nI 0)) 174 v3.toNatClampNeg (some t6))))) ∧ (¬ (nI 0) = 0 → vp_in v3 5 ∧ vp_in v3 5 ∧ vp_in v3 5 ∧ vp_in (mg_i (ms_i G 172 v3.toNatClampNeg ((mg_i G 172 v3.toNatClampNeg) + (nI 1))) 172 v3.toNatClampNeg) 16 ∧ ∃ t8, mg_r G (a1 + 1) ((mg_i (ms_i G 172 v3.toNatClampNeg ((mg_i G 172 v3.toNatClampNeg) + (nI 1))) 172 v3.toNatClampNeg).toNatClampNeg) = some t8 ∧ LineAt t8 ∧ vp_in v3 16 ∧ (((nI 0) = 0 → mV l κ true d 0 0 m_X8_passOn 10 [some (.ref 171), some (.ref a1), some (.int v2), some (.int (v3 + (-1))), none] [] (ms_r (ms_i G 172 v3.toNatClampNeg ((mg_i G 172 v3.toNatClampNeg) + (nI 1))) 174 v3.toNatClampNeg (some t8)) (rI K)) ∧ (¬ (nI 0) = 0 → K (nI 1) (ms_r (ms_i G 172 v3.toNatClampNeg ((mg_i G 172 v3.toNatClampNeg) + (nI 1))) 174 v3.toNatClampNeg (some t8))))))) ∧ (¬ (mg_i G a1 1) ≤ ((mg_i G 172 v3.toNatClampNeg) + (nI 1)) → (((nI 1) = 0 → vp_in v3 5 ∧ vp_in v3 5 ∧ vp_in (mg_i (ms_i G 172 v3.toNatClampNeg (nI 0)) 172 v3.toNatClampNeg) 16 ∧ ∃ t10, mg_r G (a1 + 1) ((mg_i (ms_i G 172 v3.toNatClampNeg (nI 0)) 172 v3.toNatClampNeg).toNatClampNeg) = some t10 ∧ LineAt t10 ∧ vp_in v3 16 ∧ (((nI 1) = 0 → mV l κ true d 0 0 m_X8_passOn 10 [some (.ref 171), some (.ref a1), some (.int v2), some (.int (v3 + (-1))), none] [] (ms_r (ms_i G 172 v3.toNatClampNeg (nI 0)) 174 v3.toNatClampNeg (some t10)) (rI K)) ∧ (¬ (nI 1) = 0 → K (nI 1) (ms_r (ms_i G 172 v3.toNatClampNeg (nI 0)) 174 v3.toNatClampNeg (some t10))))) ∧ (¬ (nI 1) = 0 → vp_in v3 5 ∧ vp_in v3 5 ∧ vp_in v3 5 ∧ vp_in (mg_i (ms_i G 172 v3.toNatClampNeg ((mg_i G 172 v3.toNatClampNeg) + (nI 1))) 172 v3.toNatClampNeg) 16 ∧ ∃ t12, mg_r G (a1 + 1) ((mg_i (ms_i G 172 v3.toNatClampNeg ((mg_i G 172 v3.toNatClampNeg) + (nI 1))) 172 v3.toNatClampNeg).toNatClampNeg) = some t12 ∧ LineAt t12 ∧ vp_in v3 16 ∧ (((nI 1) = 0 → mV l κ true d 0 0 m_X8_passOn 10 [some (.ref 171), some (.ref a1), some (.int v2), some (.int (v3 + (-1))), none] [] (ms_r (ms_i G 172 v3.toNatClampNeg ((mg_i G 172 v3.toNatClampNeg) + (nI 1))) 174 v3.toNatClampNeg (some t12)) (rI K)) ∧ (¬ (nI 1) = 0 → K (nI 1) (ms_r (ms_i G 172 v3.toNatClampNeg ((mg_i G 172 v3.toNatClampNeg) + (nI 1))) 174 v3.toNatClampNeg (some t12))))))))))))) : mV l κ true d 0 0 m_X8_passOn 10 [some (.ref 171), some (.ref a1), some (.int v2), some (.int v3), none] [] G (rI K) := by
  refine mV_iload_n (k := 3) (by decide +kernel) rfl ?_
  refine mV_if_lt (off := 86) (tgt := 97) (by decide +kernel) (by decide) (fun hc => ?_) (fun hc => ?_)
  · replace h := h.1 hc
    refine mV_iconst (n := 0) (v := nI 0) (by decide +kernel) (by decide) ?_
    exact mV_zret (by decide +kernel) rfl (by decide) h
  · replace h := h.2 hc
    refine mV_iload_n (k := 3) (by decide +kernel) rfl ?_
    refine mV_iload_n (k := 2) (by decide +kernel) rfl ?_
    refine mV_icmp_gt (off := 22) (tgt := 38) (by decide +kernel) (by decide) (fun hc => ?_) (fun hc => ?_)
    · replace h := h.1 hc
      refine mV_iconst (n := 0) (v := nI 0) (by decide +kernel) (by decide) ?_
      refine mV_istore (i := 4) (ls' := [some (.ref 171), some (.ref a1), some (.int v2), some (.int v3), some (.int (nI 0))]) (by decide +kernel) (Nat.le_of_ble_eq_true rfl) rfl rfl ?_
      refine mV_aload_n (k := 0) (by decide +kernel) rfl ?_
      refine mV_gfr (r := some 172) (by decide +kernel) fk_8_9 sh_171 (mm_rrs st_171_0) rfl ?_
      refine mV_iload_n (k := 3) (by decide +kernel) rfl ?_
      refine mV_iload (i := 4) (by decide +kernel) rfl ?_
      refine mV_if_eq (off := 14) (tgt := 62) (by decide +kernel) (by decide) (fun hc => ?_) (fun hc => ?_)
      · replace h := h.1 hc
        refine mV_iconst (n := 0) (v := nI 0) (by decide +kernel) (by decide) ?_
        refine mV_ias (by decide +kernel) sh_172 h.1 ?_
        replace h := h.2
        refine mV_aload_n (k := 0) (by decide +kernel) rfl ?_
        refine mV_gfr (r := some 173) (by decide +kernel) fk_8_18 sh_171 (mm_rrs st_171_4) rfl ?_
        refine mV_gfr (r := some 174) (by decide +kernel) fk_8_90 sh_173 (mm_rrs st_173_0) rfl ?_
        refine mV_iload_n (k := 3) (by decide +kernel) rfl ?_
        refine mV_aload_n (k := 1) (by decide +kernel) rfl ?_
        refine mV_gfr (r := some (a1 + 1)) (by decide +kernel) fk_8_90 ha1.1 (mm_rrs ha1.2.2.1) rfl ?_
        refine mV_aload_n (k := 0) (by decide +kernel) rfl ?_
        refine mV_gfr (r := some 172) (by decide +kernel) fk_8_9 sh_171 (mm_rrs st_171_0) rfl ?_
        refine mV_iload_n (k := 3) (by decide +kernel) rfl ?_
        refine mV_ialx (x := mg_i (ms_i G 172 v3.toNatClampNeg (nI 0)) 172 v3.toNatClampNeg) (by decide +kernel) sh_172 h.1 rfl ?_
        replace h := h.2
        have hj1 := h.1
        replace h := h.2
        obtain ⟨t2, hrt2, hat2, h⟩ := h
        refine mV_aal (t := 4) (r := some t2) (by decide +kernel) ha1.2.1 (by decide) hj1 ((mm_rrd (ha1.2.2.2 _ (mm_ixlt hj1))).trans hrt2) rfl ?_
        refine mV_aas (t := 4) (by decide +kernel) sh_174 (by decide) rfl hat2 rfl h.1 ((mm_rowP (by decide +kernel : mm_rowB 173 = true)).2.2.2 _ (mm_ixlt h.1)) ?_
        replace h := h.2
        refine mV_iload (i := 4) (by decide +kernel) rfl ?_
        refine mV_if_eq (off := 5) (tgt := 91) (by decide +kernel) (by decide) (fun hc => ?_) (fun hc => ?_)
        · replace h := h.1 hc
          refine mV_iincc (i := 3) (n := -1) (c := (-1)) (ls' := [some (.ref 171), some (.ref a1), some (.int v2), some (.int (v3 + (-1))), some (.int (nI 0))]) (by decide +kernel) (by decide) rfl (Nat.le_of_ble_eq_true rfl) rfl rfl ?_
          refine mV_goto (off := -84) (tgt := 10) (by decide +kernel) (by decide) ?_
          refine mV_fg [4] (ls' := [some (.ref 171), some (.ref a1), some (.int v2), some (.int (v3 + (-1))), none]) rfl ?_
          exact h
        · replace h := h.2 hc
          refine mV_iconst (n := 1) (v := nI 1) (by decide +kernel) (by decide) ?_
          exact mV_zret (by decide +kernel) rfl (by decide) h
      · replace h := h.2 hc
        refine mV_aload_n (k := 0) (by decide +kernel) rfl ?_
        refine mV_gfr (r := some 172) (by decide +kernel) fk_8_9 sh_171 (mm_rrs st_171_0) rfl ?_
        refine mV_iload_n (k := 3) (by decide +kernel) rfl ?_
        refine mV_ialx (x := mg_i G 172 v3.toNatClampNeg) (by decide +kernel) sh_172 h.1 rfl ?_
        replace h := h.2
        refine mV_iconst (n := 1) (v := nI 1) (by decide +kernel) (by decide) ?_
        refine mV_iadd (by decide +kernel) ?_
        refine mV_goto (off := 4) (tgt := 63) (by decide +kernel) (by decide) ?_
        refine mV_ias (by decide +kernel) sh_172 h.1 ?_
        replace h := h.2
        refine mV_aload_n (k := 0) (by decide +kernel) rfl ?_
        refine mV_gfr (r := some 173) (by decide +kernel) fk_8_18 sh_171 (mm_rrs st_171_4) rfl ?_
        refine mV_gfr (r := some 174) (by decide +kernel) fk_8_90 sh_173 (mm_rrs st_173_0) rfl ?_
        refine mV_iload_n (k := 3) (by decide +kernel) rfl ?_
        refine mV_aload_n (k := 1) (by decide +kernel) rfl ?_
        refine mV_gfr (r := some (a1 + 1)) (by decide +kernel) fk_8_90 ha1.1 (mm_rrs ha1.2.2.1) rfl ?_
        refine mV_aload_n (k := 0) (by decide +kernel) rfl ?_
        refine mV_gfr (r := some 172) (by decide +kernel) fk_8_9 sh_171 (mm_rrs st_171_0) rfl ?_
        refine mV_iload_n (k := 3) (by decide +kernel) rfl ?_
        refine mV_ialx (x := mg_i (ms_i G 172 v3.toNatClampNeg ((mg_i G 172 v3.toNatClampNeg) + (nI 1))) 172 v3.toNatClampNeg) (by decide +kernel) sh_172 h.1 rfl ?_
        replace h := h.2
        have hj3 := h.1
        replace h := h.2
        obtain ⟨t4, hrt4, hat4, h⟩ := h
        refine mV_aal (t := 4) (r := some t4) (by decide +kernel) ha1.2.1 (by decide) hj3 ((mm_rrd (ha1.2.2.2 _ (mm_ixlt hj3))).trans hrt4) rfl ?_
        refine mV_aas (t := 4) (by decide +kernel) sh_174 (by decide) rfl hat4 rfl h.1 ((mm_rowP (by decide +kernel : mm_rowB 173 = true)).2.2.2 _ (mm_ixlt h.1)) ?_
        replace h := h.2
        refine mV_iload (i := 4) (by decide +kernel) rfl ?_
        refine mV_if_eq (off := 5) (tgt := 91) (by decide +kernel) (by decide) (fun hc => ?_) (fun hc => ?_)
        · replace h := h.1 hc
          refine mV_iincc (i := 3) (n := -1) (c := (-1)) (ls' := [some (.ref 171), some (.ref a1), some (.int v2), some (.int (v3 + (-1))), some (.int (nI 0))]) (by decide +kernel) (by decide) rfl (Nat.le_of_ble_eq_true rfl) rfl rfl ?_
          refine mV_goto (off := -84) (tgt := 10) (by decide +kernel) (by decide) ?_
          refine mV_fg [4] (ls' := [some (.ref 171), some (.ref a1), some (.int v2), some (.int (v3 + (-1))), none]) rfl ?_
          exact h
        · replace h := h.2 hc
          refine mV_iconst (n := 1) (v := nI 1) (by decide +kernel) (by decide) ?_
          exact mV_zret (by decide +kernel) rfl (by decide) h
    · replace h := h.2 hc
      refine mV_aload_n (k := 0) (by decide +kernel) rfl ?_
      refine mV_gfr (r := some 172) (by decide +kernel) fk_8_9 sh_171 (mm_rrs st_171_0) rfl ?_
      refine mV_iload_n (k := 3) (by decide +kernel) rfl ?_
      refine mV_ialx (x := mg_i G 172 v3.toNatClampNeg) (by decide +kernel) sh_172 h.1 rfl ?_
      replace h := h.2
      refine mV_iconst (n := 1) (v := nI 1) (by decide +kernel) (by decide) ?_
      refine mV_iadd (by decide +kernel) ?_
      refine mV_aload_n (k := 1) (by decide +kernel) rfl ?_
      refine mV_gfix (x := mg_i G a1 1) (by decide +kernel) fk_8_86 ha1.1 rfl ?_
      refine mV_icmp_ge (off := 7) (tgt := 38) (by decide +kernel) (by decide) (fun hc => ?_) (fun hc => ?_)
      · replace h := h.1 hc
        refine mV_iconst (n := 0) (v := nI 0) (by decide +kernel) (by decide) ?_
        refine mV_istore (i := 4) (ls' := [some (.ref 171), some (.ref a1), some (.int v2), some (.int v3), some (.int (nI 0))]) (by decide +kernel) (Nat.le_of_ble_eq_true rfl) rfl rfl ?_
        refine mV_aload_n (k := 0) (by decide +kernel) rfl ?_
        refine mV_gfr (r := some 172) (by decide +kernel) fk_8_9 sh_171 (mm_rrs st_171_0) rfl ?_
        refine mV_iload_n (k := 3) (by decide +kernel) rfl ?_
        refine mV_iload (i := 4) (by decide +kernel) rfl ?_
        refine mV_if_eq (off := 14) (tgt := 62) (by decide +kernel) (by decide) (fun hc => ?_) (fun hc => ?_)
        · replace h := h.1 hc
          refine mV_iconst (n := 0) (v := nI 0) (by decide +kernel) (by decide) ?_
          refine mV_ias (by decide +kernel) sh_172 h.1 ?_
          replace h := h.2
          refine mV_aload_n (k := 0) (by decide +kernel) rfl ?_
          refine mV_gfr (r := some 173) (by decide +kernel) fk_8_18 sh_171 (mm_rrs st_171_4) rfl ?_
          refine mV_gfr (r := some 174) (by decide +kernel) fk_8_90 sh_173 (mm_rrs st_173_0) rfl ?_
          refine mV_iload_n (k := 3) (by decide +kernel) rfl ?_
          refine mV_aload_n (k := 1) (by decide +kernel) rfl ?_
          refine mV_gfr (r := some (a1 + 1)) (by decide +kernel) fk_8_90 ha1.1 (mm_rrs ha1.2.2.1) rfl ?_
          refine mV_aload_n (k := 0) (by decide +kernel) rfl ?_
          refine mV_gfr (r := some 172) (by decide +kernel) fk_8_9 sh_171 (mm_rrs st_171_0) rfl ?_
          refine mV_iload_n (k := 3) (by decide +kernel) rfl ?_
          refine mV_ialx (x := mg_i (ms_i G 172 v3.toNatClampNeg (nI 0)) 172 v3.toNatClampNeg) (by decide +kernel) sh_172 h.1 rfl ?_
          replace h := h.2
          have hj5 := h.1
          replace h := h.2
          obtain ⟨t6, hrt6, hat6, h⟩ := h
          refine mV_aal (t := 4) (r := some t6) (by decide +kernel) ha1.2.1 (by decide) hj5 ((mm_rrd (ha1.2.2.2 _ (mm_ixlt hj5))).trans hrt6) rfl ?_
          refine mV_aas (t := 4) (by decide +kernel) sh_174 (by decide) rfl hat6 rfl h.1 ((mm_rowP (by decide +kernel : mm_rowB 173 = true)).2.2.2 _ (mm_ixlt h.1)) ?_
          replace h := h.2
          refine mV_iload (i := 4) (by decide +kernel) rfl ?_
          refine mV_if_eq (off := 5) (tgt := 91) (by decide +kernel) (by decide) (fun hc => ?_) (fun hc => ?_)
          · replace h := h.1 hc
            refine mV_iincc (i := 3) (n := -1) (c := (-1)) (ls' := [some (.ref 171), some (.ref a1), some (.int v2), some (.int (v3 + (-1))), some (.int (nI 0))]) (by decide +kernel) (by decide) rfl (Nat.le_of_ble_eq_true rfl) rfl rfl ?_
            refine mV_goto (off := -84) (tgt := 10) (by decide +kernel) (by decide) ?_
            refine mV_fg [4] (ls' := [some (.ref 171), some (.ref a1), some (.int v2), some (.int (v3 + (-1))), none]) rfl ?_
            exact h
          · replace h := h.2 hc
            refine mV_iconst (n := 1) (v := nI 1) (by decide +kernel) (by decide) ?_
            exact mV_zret (by decide +kernel) rfl (by decide) h
        · replace h := h.2 hc
          refine mV_aload_n (k := 0) (by decide +kernel) rfl ?_
          refine mV_gfr (r := some 172) (by decide +kernel) fk_8_9 sh_171 (mm_rrs st_171_0) rfl ?_
          refine mV_iload_n (k := 3) (by decide +kernel) rfl ?_
          refine mV_ialx (x := mg_i G 172 v3.toNatClampNeg) (by decide +kernel) sh_172 h.1 rfl ?_
          replace h := h.2
          refine mV_iconst (n := 1) (v := nI 1) (by decide +kernel) (by decide) ?_
          refine mV_iadd (by decide +kernel) ?_
          refine mV_goto (off := 4) (tgt := 63) (by decide +kernel) (by decide) ?_
          refine mV_ias (by decide +kernel) sh_172 h.1 ?_
          replace h := h.2
          refine mV_aload_n (k := 0) (by decide +kernel) rfl ?_
          refine mV_gfr (r := some 173) (by decide +kernel) fk_8_18 sh_171 (mm_rrs st_171_4) rfl ?_
          refine mV_gfr (r := some 174) (by decide +kernel) fk_8_90 sh_173 (mm_rrs st_173_0) rfl ?_
          refine mV_iload_n (k := 3) (by decide +kernel) rfl ?_
          refine mV_aload_n (k := 1) (by decide +kernel) rfl ?_
          refine mV_gfr (r := some (a1 + 1)) (by decide +kernel) fk_8_90 ha1.1 (mm_rrs ha1.2.2.1) rfl ?_
          refine mV_aload_n (k := 0) (by decide +kernel) rfl ?_
          refine mV_gfr (r := some 172) (by decide +kernel) fk_8_9 sh_171 (mm_rrs st_171_0) rfl ?_
          refine mV_iload_n (k := 3) (by decide +kernel) rfl ?_
          refine mV_ialx (x := mg_i (ms_i G 172 v3.toNatClampNeg ((mg_i G 172 v3.toNatClampNeg) + (nI 1))) 172 v3.toNatClampNeg) (by decide +kernel) sh_172 h.1 rfl ?_
          replace h := h.2
          have hj7 := h.1
          replace h := h.2
          obtain ⟨t8, hrt8, hat8, h⟩ := h
          refine mV_aal (t := 4) (r := some t8) (by decide +kernel) ha1.2.1 (by decide) hj7 ((mm_rrd (ha1.2.2.2 _ (mm_ixlt hj7))).trans hrt8) rfl ?_
          refine mV_aas (t := 4) (by decide +kernel) sh_174 (by decide) rfl hat8 rfl h.1 ((mm_rowP (by decide +kernel : mm_rowB 173 = true)).2.2.2 _ (mm_ixlt h.1)) ?_
          replace h := h.2
          refine mV_iload (i := 4) (by decide +kernel) rfl ?_
          refine mV_if_eq (off := 5) (tgt := 91) (by decide +kernel) (by decide) (fun hc => ?_) (fun hc => ?_)
          · replace h := h.1 hc
            refine mV_iincc (i := 3) (n := -1) (c := (-1)) (ls' := [some (.ref 171), some (.ref a1), some (.int v2), some (.int (v3 + (-1))), some (.int (nI 0))]) (by decide +kernel) (by decide) rfl (Nat.le_of_ble_eq_true rfl) rfl rfl ?_
            refine mV_goto (off := -84) (tgt := 10) (by decide +kernel) (by decide) ?_
            refine mV_fg [4] (ls' := [some (.ref 171), some (.ref a1), some (.int v2), some (.int (v3 + (-1))), none]) rfl ?_
            exact h
          · replace h := h.2 hc
            refine mV_iconst (n := 1) (v := nI 1) (by decide +kernel) (by decide) ?_
            exact mV_zret (by decide +kernel) rfl (by decide) h
      · replace h := h.2 hc
        refine mV_iconst (n := 1) (v := nI 1) (by decide +kernel) (by decide) ?_
        refine mV_goto (off := 4) (tgt := 39) (by decide +kernel) (by decide) ?_
        refine mV_istore (i := 4) (ls' := [some (.ref 171), some (.ref a1), some (.int v2), some (.int v3), some (.int (nI 1))]) (by decide +kernel) (Nat.le_of_ble_eq_true rfl) rfl rfl ?_
        refine mV_aload_n (k := 0) (by decide +kernel) rfl ?_
        refine mV_gfr (r := some 172) (by decide +kernel) fk_8_9 sh_171 (mm_rrs st_171_0) rfl ?_
        refine mV_iload_n (k := 3) (by decide +kernel) rfl ?_
        refine mV_iload (i := 4) (by decide +kernel) rfl ?_
        refine mV_if_eq (off := 14) (tgt := 62) (by decide +kernel) (by decide) (fun hc => ?_) (fun hc => ?_)
        · replace h := h.1 hc
          refine mV_iconst (n := 0) (v := nI 0) (by decide +kernel) (by decide) ?_
          refine mV_ias (by decide +kernel) sh_172 h.1 ?_
          replace h := h.2
          refine mV_aload_n (k := 0) (by decide +kernel) rfl ?_
          refine mV_gfr (r := some 173) (by decide +kernel) fk_8_18 sh_171 (mm_rrs st_171_4) rfl ?_
          refine mV_gfr (r := some 174) (by decide +kernel) fk_8_90 sh_173 (mm_rrs st_173_0) rfl ?_
          refine mV_iload_n (k := 3) (by decide +kernel) rfl ?_
          refine mV_aload_n (k := 1) (by decide +kernel) rfl ?_
          refine mV_gfr (r := some (a1 + 1)) (by decide +kernel) fk_8_90 ha1.1 (mm_rrs ha1.2.2.1) rfl ?_
          refine mV_aload_n (k := 0) (by decide +kernel) rfl ?_
          refine mV_gfr (r := some 172) (by decide +kernel) fk_8_9 sh_171 (mm_rrs st_171_0) rfl ?_
          refine mV_iload_n (k := 3) (by decide +kernel) rfl ?_
          refine mV_ialx (x := mg_i (ms_i G 172 v3.toNatClampNeg (nI 0)) 172 v3.toNatClampNeg) (by decide +kernel) sh_172 h.1 rfl ?_
          replace h := h.2
          have hj9 := h.1
          replace h := h.2
          obtain ⟨t10, hrt10, hat10, h⟩ := h
          refine mV_aal (t := 4) (r := some t10) (by decide +kernel) ha1.2.1 (by decide) hj9 ((mm_rrd (ha1.2.2.2 _ (mm_ixlt hj9))).trans hrt10) rfl ?_
          refine mV_aas (t := 4) (by decide +kernel) sh_174 (by decide) rfl hat10 rfl h.1 ((mm_rowP (by decide +kernel : mm_rowB 173 = true)).2.2.2 _ (mm_ixlt h.1)) ?_
          replace h := h.2
          refine mV_iload (i := 4) (by decide +kernel) rfl ?_
          refine mV_if_eq (off := 5) (tgt := 91) (by decide +kernel) (by decide) (fun hc => ?_) (fun hc => ?_)
          · replace h := h.1 hc
            refine mV_iincc (i := 3) (n := -1) (c := (-1)) (ls' := [some (.ref 171), some (.ref a1), some (.int v2), some (.int (v3 + (-1))), some (.int (nI 1))]) (by decide +kernel) (by decide) rfl (Nat.le_of_ble_eq_true rfl) rfl rfl ?_
            refine mV_goto (off := -84) (tgt := 10) (by decide +kernel) (by decide) ?_
            refine mV_fg [4] (ls' := [some (.ref 171), some (.ref a1), some (.int v2), some (.int (v3 + (-1))), none]) rfl ?_
            exact h
          · replace h := h.2 hc
            refine mV_iconst (n := 1) (v := nI 1) (by decide +kernel) (by decide) ?_
            exact mV_zret (by decide +kernel) rfl (by decide) h
        · replace h := h.2 hc
          refine mV_aload_n (k := 0) (by decide +kernel) rfl ?_
          refine mV_gfr (r := some 172) (by decide +kernel) fk_8_9 sh_171 (mm_rrs st_171_0) rfl ?_
          refine mV_iload_n (k := 3) (by decide +kernel) rfl ?_
          refine mV_ialx (x := mg_i G 172 v3.toNatClampNeg) (by decide +kernel) sh_172 h.1 rfl ?_
          replace h := h.2
          refine mV_iconst (n := 1) (v := nI 1) (by decide +kernel) (by decide) ?_
          refine mV_iadd (by decide +kernel) ?_
          refine mV_goto (off := 4) (tgt := 63) (by decide +kernel) (by decide) ?_
          refine mV_ias (by decide +kernel) sh_172 h.1 ?_
          replace h := h.2
          refine mV_aload_n (k := 0) (by decide +kernel) rfl ?_
          refine mV_gfr (r := some 173) (by decide +kernel) fk_8_18 sh_171 (mm_rrs st_171_4) rfl ?_
          refine mV_gfr (r := some 174) (by decide +kernel) fk_8_90 sh_173 (mm_rrs st_173_0) rfl ?_
          refine mV_iload_n (k := 3) (by decide +kernel) rfl ?_
          refine mV_aload_n (k := 1) (by decide +kernel) rfl ?_
          refine mV_gfr (r := some (a1 + 1)) (by decide +kernel) fk_8_90 ha1.1 (mm_rrs ha1.2.2.1) rfl ?_
          refine mV_aload_n (k := 0) (by decide +kernel) rfl ?_
          refine mV_gfr (r := some 172) (by decide +kernel) fk_8_9 sh_171 (mm_rrs st_171_0) rfl ?_
          refine mV_iload_n (k := 3) (by decide +kernel) rfl ?_
          refine mV_ialx (x := mg_i (ms_i G 172 v3.toNatClampNeg ((mg_i G 172 v3.toNatClampNeg) + (nI 1))) 172 v3.toNatClampNeg) (by decide +kernel) sh_172 h.1 rfl ?_
          replace h := h.2
          have hj11 := h.1
          replace h := h.2
          obtain ⟨t12, hrt12, hat12, h⟩ := h
          refine mV_aal (t := 4) (r := some t12) (by decide +kernel) ha1.2.1 (by decide) hj11 ((mm_rrd (ha1.2.2.2 _ (mm_ixlt hj11))).trans hrt12) rfl ?_
          refine mV_aas (t := 4) (by decide +kernel) sh_174 (by decide) rfl hat12 rfl h.1 ((mm_rowP (by decide +kernel : mm_rowB 173 = true)).2.2.2 _ (mm_ixlt h.1)) ?_
          replace h := h.2
          refine mV_iload (i := 4) (by decide +kernel) rfl ?_
          refine mV_if_eq (off := 5) (tgt := 91) (by decide +kernel) (by decide) (fun hc => ?_) (fun hc => ?_)
          · replace h := h.1 hc
            refine mV_iincc (i := 3) (n := -1) (c := (-1)) (ls' := [some (.ref 171), some (.ref a1), some (.int v2), some (.int (v3 + (-1))), some (.int (nI 1))]) (by decide +kernel) (by decide) rfl (Nat.le_of_ble_eq_true rfl) rfl rfl ?_
            refine mV_goto (off := -84) (tgt := 10) (by decide +kernel) (by decide) ?_
            refine mV_fg [4] (ls' := [some (.ref 171), some (.ref a1), some (.int v2), some (.int (v3 + (-1))), none]) rfl ?_
            exact h
          · replace h := h.2 hc
            refine mV_iconst (n := 1) (v := nI 1) (by decide +kernel) (by decide) ?_
            exact mV_zret (by decide +kernel) rfl (by decide) h
set_option maxRecDepth 100000 in
set_option maxHeartbeats 4000000 in
theorem e_X9_clear {l : Launch} {κ : mm_K} {d : Nat} {G : mm_G} {K : mm_G → Prop}  (h : K (ms_i G 175 12 (-1))) : mC l κ true d 0 0 m_X9_clear [.ref 175] G (rV K) := by
  refine mC.of (by decide) (Nat.le_of_ble_eq_true rfl) [some (.ref 175)] rfl ?_
  refine mV_aload_n (k := 0) (by decide +kernel) rfl ?_
  refine mV_iconst (n := -1) (v := (-1)) (by decide +kernel) (by decide) ?_
  refine mV_pfi (by decide +kernel) fk_9_36 sh_175 ?_
  exact mV_vret (by decide +kernel) rfl h
set_option maxRecDepth 100000 in
set_option maxHeartbeats 4000000 in
theorem e_X9_gather {l : Launch} {κ : mm_K} {d : Nat} {G : mm_G} {K : mm_G → Prop} (a1 : Int32) (a2 : Int32) (h : ((¬ (mg_i G 175 12) = a1 → vp_in a1 4 ∧ mV l κ true (d + 1) 0 0 m_X9_gather 54 [some (.ref 175), some (.int a1), some (.int a2), some (.int ((nI 1) <<< ((mg_i (ms_i (ms_i G 175 12 a1) 175 13 a2) (54 + 2 * a1.toNatClampNeg) 1) &&& 31))), some (.int (((nI 1) <<< (a2 &&& 31)) - (nI 1))), none] [] (ms_i (ms_i (ms_i G 175 12 a1) 175 13 a2) 175 10 (nI 0)) (rV K)) ∧ ((mg_i G 175 12) = a1 → ((¬ (mg_i G 175 13) = a2 → vp_in a1 4 ∧ mV l κ true (d + 1) 0 0 m_X9_gather 54 [some (.ref 175), some (.int a1), some (.int a2), some (.int ((nI 1) <<< ((mg_i (ms_i (ms_i G 175 12 a1) 175 13 a2) (54 + 2 * a1.toNatClampNeg) 1) &&& 31))), some (.int (((nI 1) <<< (a2 &&& 31)) - (nI 1))), none] [] (ms_i (ms_i (ms_i G 175 12 a1) 175 13 a2) 175 10 (nI 0)) (rV K)) ∧ ((mg_i G 175 13) = a2 → K G))))) : mC l κ true (d + 1) 0 0 m_X9_gather [.ref 175, .int a1, .int a2] G (rV K) := by
  refine mC.of (by decide) (Nat.le_of_ble_eq_true rfl) [some (.ref 175), some (.int a1), some (.int a2), none, none, none] rfl ?_
  refine mV_aload_n (k := 0) (by decide +kernel) rfl ?_
  refine mV_gfix (x := mg_i G 175 12) (by decide +kernel) fk_9_36 sh_175 rfl ?_
  refine mV_iload_n (k := 1) (by decide +kernel) rfl ?_
  refine mV_icmp_ne (off := 12) (tgt := 17) (by decide +kernel) (by decide) (fun hc => ?_) (fun hc => ?_)
  · replace h := h.1 hc
    refine mV_aload_n (k := 0) (by decide +kernel) rfl ?_
    refine mV_iload_n (k := 1) (by decide +kernel) rfl ?_
    refine mV_pfi (by decide +kernel) fk_9_36 sh_175 ?_
    refine mV_aload_n (k := 0) (by decide +kernel) rfl ?_
    refine mV_iload_n (k := 2) (by decide +kernel) rfl ?_
    refine mV_pfi (by decide +kernel) fk_9_52 sh_175 ?_
    refine mV_iconst (n := 1) (v := nI 1) (by decide +kernel) (by decide) ?_
    refine mV_aload_n (k := 0) (by decide +kernel) rfl ?_
    refine mV_gfr (r := some 50) (by decide +kernel) fk_9_40 sh_175 (mm_rrs st_175_2) rfl ?_
    refine mV_gfr (r := some 51) (by decide +kernel) fk_9_55 sh_50 (mm_rrs st_50_0) rfl ?_
    refine mV_iload_n (k := 1) (by decide +kernel) rfl ?_
    have hj1 := h.1
    replace h := h.2
    refine mV_aal (t := 5) (r := some (54 + 2 * a1.toNatClampNeg)) (by decide +kernel) sh_51 (by decide) hj1 (mm_rrs (mm_rs50.2.2.2.2.2.2.2.1 _ (mm_ixlt hj1))) rfl ?_
    refine mV_gfix (x := mg_i (ms_i (ms_i G 175 12 a1) 175 13 a2) (54 + 2 * a1.toNatClampNeg) 1) (by decide +kernel) fk_9_61 (mm_rs50.2.2.2.2.2.2.2.2 _ (mm_ixlt hj1)).1 rfl ?_
    refine mV_ishl (by decide +kernel) ?_
    refine mV_istore_n (k := 3) (ls' := [some (.ref 175), some (.int a1), some (.int a2), some (.int ((nI 1) <<< ((mg_i (ms_i (ms_i G 175 12 a1) 175 13 a2) (54 + 2 * a1.toNatClampNeg) 1) &&& 31))), none, none]) (by decide +kernel) (Nat.le_of_ble_eq_true rfl) rfl rfl ?_
    refine mV_iconst (n := 1) (v := nI 1) (by decide +kernel) (by decide) ?_
    refine mV_iload_n (k := 2) (by decide +kernel) rfl ?_
    refine mV_ishl (by decide +kernel) ?_
    refine mV_iconst (n := 1) (v := nI 1) (by decide +kernel) (by decide) ?_
    refine mV_isub (by decide +kernel) ?_
    refine mV_istore (i := 4) (ls' := [some (.ref 175), some (.int a1), some (.int a2), some (.int ((nI 1) <<< ((mg_i (ms_i (ms_i G 175 12 a1) 175 13 a2) (54 + 2 * a1.toNatClampNeg) 1) &&& 31))), some (.int (((nI 1) <<< (a2 &&& 31)) - (nI 1))), none]) (by decide +kernel) (Nat.le_of_ble_eq_true rfl) rfl rfl ?_
    refine mV_aload_n (k := 0) (by decide +kernel) rfl ?_
    refine mV_iconst (n := 0) (v := nI 0) (by decide +kernel) (by decide) ?_
    refine mV_pfi (by decide +kernel) fk_9_66 sh_175 ?_
    exact h
  · replace h := h.2 hc
    refine mV_aload_n (k := 0) (by decide +kernel) rfl ?_
    refine mV_gfix (x := mg_i G 175 13) (by decide +kernel) fk_9_52 sh_175 rfl ?_
    refine mV_iload_n (k := 2) (by decide +kernel) rfl ?_
    refine mV_icmp_ne (off := 4) (tgt := 17) (by decide +kernel) (by decide) (fun hc => ?_) (fun hc => ?_)
    · replace h := h.1 hc
      refine mV_aload_n (k := 0) (by decide +kernel) rfl ?_
      refine mV_iload_n (k := 1) (by decide +kernel) rfl ?_
      refine mV_pfi (by decide +kernel) fk_9_36 sh_175 ?_
      refine mV_aload_n (k := 0) (by decide +kernel) rfl ?_
      refine mV_iload_n (k := 2) (by decide +kernel) rfl ?_
      refine mV_pfi (by decide +kernel) fk_9_52 sh_175 ?_
      refine mV_iconst (n := 1) (v := nI 1) (by decide +kernel) (by decide) ?_
      refine mV_aload_n (k := 0) (by decide +kernel) rfl ?_
      refine mV_gfr (r := some 50) (by decide +kernel) fk_9_40 sh_175 (mm_rrs st_175_2) rfl ?_
      refine mV_gfr (r := some 51) (by decide +kernel) fk_9_55 sh_50 (mm_rrs st_50_0) rfl ?_
      refine mV_iload_n (k := 1) (by decide +kernel) rfl ?_
      have hj2 := h.1
      replace h := h.2
      refine mV_aal (t := 5) (r := some (54 + 2 * a1.toNatClampNeg)) (by decide +kernel) sh_51 (by decide) hj2 (mm_rrs (mm_rs50.2.2.2.2.2.2.2.1 _ (mm_ixlt hj2))) rfl ?_
      refine mV_gfix (x := mg_i (ms_i (ms_i G 175 12 a1) 175 13 a2) (54 + 2 * a1.toNatClampNeg) 1) (by decide +kernel) fk_9_61 (mm_rs50.2.2.2.2.2.2.2.2 _ (mm_ixlt hj2)).1 rfl ?_
      refine mV_ishl (by decide +kernel) ?_
      refine mV_istore_n (k := 3) (ls' := [some (.ref 175), some (.int a1), some (.int a2), some (.int ((nI 1) <<< ((mg_i (ms_i (ms_i G 175 12 a1) 175 13 a2) (54 + 2 * a1.toNatClampNeg) 1) &&& 31))), none, none]) (by decide +kernel) (Nat.le_of_ble_eq_true rfl) rfl rfl ?_
      refine mV_iconst (n := 1) (v := nI 1) (by decide +kernel) (by decide) ?_
      refine mV_iload_n (k := 2) (by decide +kernel) rfl ?_
      refine mV_ishl (by decide +kernel) ?_
      refine mV_iconst (n := 1) (v := nI 1) (by decide +kernel) (by decide) ?_
      refine mV_isub (by decide +kernel) ?_
      refine mV_istore (i := 4) (ls' := [some (.ref 175), some (.int a1), some (.int a2), some (.int ((nI 1) <<< ((mg_i (ms_i (ms_i G 175 12 a1) 175 13 a2) (54 + 2 * a1.toNatClampNeg) 1) &&& 31))), some (.int (((nI 1) <<< (a2 &&& 31)) - (nI 1))), none]) (by decide +kernel) (Nat.le_of_ble_eq_true rfl) rfl rfl ?_
      refine mV_aload_n (k := 0) (by decide +kernel) rfl ?_
      refine mV_iconst (n := 0) (v := nI 0) (by decide +kernel) (by decide) ?_
      refine mV_pfi (by decide +kernel) fk_9_66 sh_175 ?_
      exact h
    · replace h := h.2 hc
      exact mV_vret (by decide +kernel) rfl h
set_option maxRecDepth 100000 in
set_option maxHeartbeats 4000000 in
theorem p_X9_gather_54 {l : Launch} {κ : mm_K} {d : Nat} {G : mm_G} {K : mm_G → Prop} (v1 : Int32) (v2 : Int32) (v3 : Int32) (v4 : Int32) (h : (((nI 120) ≤ (mg_i G 175 10) → mV l κ true (d + 1) 0 0 m_X9_gather 103 [some (.ref 175), some (.int v1), some (.int v2), some (.int v3), some (.int v4), some (.int (nI 0))] [] G (rV K)) ∧ (¬ (nI 120) ≤ (mg_i G 175 10) → ((v3 ≤ v4 → mV l κ true (d + 1) 0 0 m_X9_gather 103 [some (.ref 175), some (.int v1), some (.int v2), some (.int v3), some (.int v4), some (.int (nI 0))] [] G (rV K)) ∧ (¬ v3 ≤ v4 → vp_in (mg_i G 175 10) 120 ∧ mC l κ true d 0 0 m_X12_setBehind [.int v4] (ms_i G 176 ((mg_i G 175 10).toNatClampNeg) v4) (rI (fun r1 G2 => mV l κ true (d + 1) 0 0 m_X9_gather 54 [some (.ref 175), some (.int v1), some (.int v2), some (.int v3), some (.int r1), none] [] (ms_i G2 175 10 ((mg_i G2 175 10) + (nI 1))) (rV K)))))))) : mV l κ true (d + 1) 0 0 m_X9_gather 54 [some (.ref 175), some (.int v1), some (.int v2), some (.int v3), some (.int v4), none] [] G (rV K) := by
  refine mV_aload_n (k := 0) (by decide +kernel) rfl ?_
  refine mV_gfix (x := mg_i G 175 10) (by decide +kernel) fk_9_66 sh_175 rfl ?_
  refine mV_bipush (n := 120) (v := nI 120) (by decide +kernel) (by decide) ?_
  refine mV_icmp_ge (off := 40) (tgt := 100) (by decide +kernel) (by decide) (fun hc => ?_) (fun hc => ?_)
  · replace h := h.1 hc
    refine mV_iconst (n := 0) (v := nI 0) (by decide +kernel) (by decide) ?_
    refine mV_istore (i := 5) (ls' := [some (.ref 175), some (.int v1), some (.int v2), some (.int v3), some (.int v4), some (.int (nI 0))]) (by decide +kernel) (Nat.le_of_ble_eq_true rfl) rfl rfl ?_
    exact h
  · replace h := h.2 hc
    refine mV_iload (i := 4) (by decide +kernel) rfl ?_
    refine mV_iload_n (k := 3) (by decide +kernel) rfl ?_
    refine mV_icmp_ge (off := 34) (tgt := 100) (by decide +kernel) (by decide) (fun hc => ?_) (fun hc => ?_)
    · replace h := h.1 hc
      refine mV_iconst (n := 0) (v := nI 0) (by decide +kernel) (by decide) ?_
      refine mV_istore (i := 5) (ls' := [some (.ref 175), some (.int v1), some (.int v2), some (.int v3), some (.int v4), some (.int (nI 0))]) (by decide +kernel) (Nat.le_of_ble_eq_true rfl) rfl rfl ?_
      exact h
    · replace h := h.2 hc
      refine mV_aload_n (k := 0) (by decide +kernel) rfl ?_
      refine mV_gfr (r := some 176) (by decide +kernel) fk_9_9 sh_175 (mm_rrs st_175_0) rfl ?_
      refine mV_aload_n (k := 0) (by decide +kernel) rfl ?_
      refine mV_gfix (x := mg_i G 175 10) (by decide +kernel) fk_9_66 sh_175 rfl ?_
      refine mV_iload (i := 4) (by decide +kernel) rfl ?_
      refine mV_ias (by decide +kernel) sh_176 h.1 ?_
      replace h := h.2
      refine mV_iload (i := 4) (by decide +kernel) rfl ?_
      refine mV_cSN (as := [.int v4]) (rest := []) (mc1 := 0) (ms1 := 0) (mc := 0) (ms := 0) (by decide +kernel) md_X12_setBehind lk_9_67 rfl rfl (Nat.le_of_ble_eq_true rfl) (mC.mono (mm_contI (fun r1 G2 hK => ?_)) h)
      replace h := hK
      refine mV_istore (i := 4) (ls' := [some (.ref 175), some (.int v1), some (.int v2), some (.int v3), some (.int r1), none]) (by decide +kernel) (Nat.le_of_ble_eq_true rfl) rfl rfl ?_
      refine mV_aload_n (k := 0) (by decide +kernel) rfl ?_
      refine mV_dup (by decide +kernel) rfl ?_
      refine mV_gfix (x := mg_i G2 175 10) (by decide +kernel) fk_9_66 sh_175 rfl ?_
      refine mV_iconst (n := 1) (v := nI 1) (by decide +kernel) (by decide) ?_
      refine mV_iadd (by decide +kernel) ?_
      refine mV_pfi (by decide +kernel) fk_9_66 sh_175 ?_
      refine mV_goto (off := -43) (tgt := 54) (by decide +kernel) (by decide) ?_
      exact h
set_option maxRecDepth 100000 in
set_option maxHeartbeats 4000000 in
theorem p_X9_gather_103 {l : Launch} {κ : mm_K} {d : Nat} {G : mm_G} {K : mm_G → Prop} (v1 : Int32) (v2 : Int32) (v3 : Int32) (v4 : Int32) (v5 : Int32) (h : (((nI 8) ≤ v5 → K G) ∧ (¬ (nI 8) ≤ v5 → vp_in v5 8 ∧ mV l κ true (d + 1) 0 0 m_X9_gather 103 [some (.ref 175), some (.int v1), some (.int v2), some (.int v3), some (.int v4), some (.int (v5 + (nI 1)))] [] (ms_i G 180 v5.toNatClampNeg (vp_nar .boolean (nI 0))) (rV K)))) : mV l κ true (d + 1) 0 0 m_X9_gather 103 [some (.ref 175), some (.int v1), some (.int v2), some (.int v3), some (.int v4), some (.int v5)] [] G (rV K) := by
  refine mV_iload (i := 5) (by decide +kernel) rfl ?_
  refine mV_bipush (n := 8) (v := nI 8) (by decide +kernel) (by decide) ?_
  refine mV_icmp_ge (off := 17) (tgt := 124) (by decide +kernel) (by decide) (fun hc => ?_) (fun hc => ?_)
  · replace h := h.1 hc
    exact mV_vret (by decide +kernel) rfl h
  · replace h := h.2 hc
    refine mV_aload_n (k := 0) (by decide +kernel) rfl ?_
    refine mV_gfr (r := some 180) (by decide +kernel) fk_9_24 sh_175 (mm_rrs st_175_7) rfl ?_
    refine mV_iload (i := 5) (by decide +kernel) rfl ?_
    refine mV_iconst (n := 0) (v := nI 0) (by decide +kernel) (by decide) ?_
    refine mV_zas (by decide +kernel) sh_180 h.1 ?_
    replace h := h.2
    refine mV_iincc (i := 5) (n := 1) (c := nI 1) (ls' := [some (.ref 175), some (.int v1), some (.int v2), some (.int v3), some (.int v4), some (.int (v5 + (nI 1)))]) (by decide +kernel) (by decide) rfl (Nat.le_of_ble_eq_true rfl) rfl rfl ?_
    refine mV_goto (off := -18) (tgt := 103) (by decide +kernel) (by decide) ?_
    exact h
set_option maxRecDepth 100000 in
set_option maxHeartbeats 4000000 in
theorem e_X9_group {l : Launch} {κ : mm_K} {d : Nat} {G : mm_G} {K : mm_G → Prop} (a1 : Int32) (h : vp_in a1 8 ∧ (((mg_i G 180 a1.toNatClampNeg) = 0 → mV l κ true (d + 3) 0 0 m_X9_group 12 [some (.ref 175), some (.int a1), some (.int (nI 0)), none] [] G (rV K)) ∧ (¬ (mg_i G 180 a1.toNatClampNeg) = 0 → K G))) : mC l κ true (d + 3) 0 0 m_X9_group [.ref 175, .int a1] G (rV K) := by
  refine mC.of (by decide) (Nat.le_of_ble_eq_true rfl) [some (.ref 175), some (.int a1), none, none] rfl ?_
  refine mV_aload_n (k := 0) (by decide +kernel) rfl ?_
  refine mV_gfr (r := some 180) (by decide +kernel) fk_9_24 sh_175 (mm_rrs st_175_7) rfl ?_
  refine mV_iload_n (k := 1) (by decide +kernel) rfl ?_
  refine mV_zalx (x := mg_i G 180 a1.toNatClampNeg) (by decide +kernel) sh_180 h.1 rfl ?_
  replace h := h.2
  refine mV_if_eq (off := 4) (tgt := 10) (by decide +kernel) (by decide) (fun hc => ?_) (fun hc => ?_)
  · replace h := h.1 hc
    refine mV_iconst (n := 0) (v := nI 0) (by decide +kernel) (by decide) ?_
    refine mV_istore_n (k := 2) (ls' := [some (.ref 175), some (.int a1), some (.int (nI 0)), none]) (by decide +kernel) (Nat.le_of_ble_eq_true rfl) rfl rfl ?_
    exact h
  · replace h := h.2 hc
    exact mV_vret (by decide +kernel) rfl h
set_option maxRecDepth 100000 in
set_option maxHeartbeats 4000000 in
theorem p_X9_group_12 {l : Launch} {κ : mm_K} {d : Nat} {G : mm_G} {K : mm_G → Prop} (v1 : Int32) (v2 : Int32) (h : (((mg_i G 175 10) ≤ v2 → vp_in v1 8 ∧ K (ms_i G 180 v1.toNatClampNeg (vp_nar .boolean (nI 1)))) ∧ (¬ (mg_i G 175 10) ≤ v2 → vp_in (mg_i G 175 12) 4 ∧ vp_in v2 120 ∧ mC l κ true (d + 2) 0 0 m_X3_runs [.ref 91, .ref (54 + 2 * (mg_i G 175 12).toNatClampNeg), .int (mg_i G 176 v2.toNatClampNeg), .int v1, .null] G (rV (fun G3 => mC l κ true (d + 2) 0 0 m_X9_groupOfDeed [.ref 175, .int v1, .int v2] G3 (rI (fun r4 G5 => ((0 ≤ r4 → vp_in ((v2 * (nI 8)) + v1) 960 ∧ mV l κ true (d + 3) 0 0 m_X9_group 12 [some (.ref 175), some (.int v1), some (.int (v2 + (nI 1))), none] [] (ms_i G5 178 (((v2 * (nI 8)) + v1).toNatClampNeg) r4) (rV K)) ∧ (¬ 0 ≤ r4 → mC l κ true (d + 2) 0 0 m_X9_keepDeed [.ref 175, .int v2, .int v1] G5 (rV (fun G7 => vp_in ((v2 * (nI 8)) + v1) 960 ∧ mV l κ true (d + 3) 0 0 m_X9_group 12 [some (.ref 175), some (.int v1), some (.int (v2 + (nI 1))), none] [] (ms_i G7 178 (((v2 * (nI 8)) + v1).toNatClampNeg) v2) (rV K)))))))))))) : mV l κ true (d + 3) 0 0 m_X9_group 12 [some (.ref 175), some (.int v1), some (.int v2), none] [] G (rV K) := by
  refine mV_iload_n (k := 2) (by decide +kernel) rfl ?_
  refine mV_aload_n (k := 0) (by decide +kernel) rfl ?_
  refine mV_gfix (x := mg_i G 175 10) (by decide +kernel) fk_9_66 sh_175 rfl ?_
  refine mV_icmp_ge (off := 67) (tgt := 84) (by decide +kernel) (by decide) (fun hc => ?_) (fun hc => ?_)
  · replace h := h.1 hc
    refine mV_aload_n (k := 0) (by decide +kernel) rfl ?_
    refine mV_gfr (r := some 180) (by decide +kernel) fk_9_24 sh_175 (mm_rrs st_175_7) rfl ?_
    refine mV_iload_n (k := 1) (by decide +kernel) rfl ?_
    refine mV_iconst (n := 1) (v := nI 1) (by decide +kernel) (by decide) ?_
    refine mV_zas (by decide +kernel) sh_180 h.1 ?_
    replace h := h.2
    exact mV_vret (by decide +kernel) rfl h
  · replace h := h.2 hc
    refine mV_aload_n (k := 0) (by decide +kernel) rfl ?_
    refine mV_gfr (r := some 91) (by decide +kernel) fk_9_48 sh_175 (mm_rrs st_175_4) rfl ?_
    refine mV_aload_n (k := 0) (by decide +kernel) rfl ?_
    refine mV_gfr (r := some 50) (by decide +kernel) fk_9_40 sh_175 (mm_rrs st_175_2) rfl ?_
    refine mV_gfr (r := some 51) (by decide +kernel) fk_9_55 sh_50 (mm_rrs st_50_0) rfl ?_
    refine mV_aload_n (k := 0) (by decide +kernel) rfl ?_
    refine mV_gfix (x := mg_i G 175 12) (by decide +kernel) fk_9_36 sh_175 rfl ?_
    have hj1 := h.1
    replace h := h.2
    refine mV_aal (t := 5) (r := some (54 + 2 * (mg_i G 175 12).toNatClampNeg)) (by decide +kernel) sh_51 (by decide) hj1 (mm_rrs (mm_rs50.2.2.2.2.2.2.2.1 _ (mm_ixlt hj1))) rfl ?_
    refine mV_aload_n (k := 0) (by decide +kernel) rfl ?_
    refine mV_gfr (r := some 176) (by decide +kernel) fk_9_9 sh_175 (mm_rrs st_175_0) rfl ?_
    refine mV_iload_n (k := 2) (by decide +kernel) rfl ?_
    refine mV_ialx (x := mg_i G 176 v2.toNatClampNeg) (by decide +kernel) sh_176 h.1 rfl ?_
    replace h := h.2
    refine mV_iload_n (k := 1) (by decide +kernel) rfl ?_
    refine mV_null (by decide +kernel) ?_
    refine mV_cV (as := [.ref (54 + 2 * (mg_i G 175 12).toNatClampNeg), .int (mg_i G 176 v2.toNatClampNeg), .int v1, .null]) (rest := []) (mc1 := 0) (ms1 := 0) (mc := 0) (ms := 0) (by decide +kernel) md_X3_runs lk_9_71 sh_91 rfl rfl rfl (Nat.le_of_ble_eq_true rfl) (mC.mono (mm_contV (fun G3 hK => ?_)) h)
    replace h := hK
    refine mV_aload_n (k := 0) (by decide +kernel) rfl ?_
    refine mV_iload_n (k := 1) (by decide +kernel) rfl ?_
    refine mV_iload_n (k := 2) (by decide +kernel) rfl ?_
    refine mV_cV (as := [.int v1, .int v2]) (rest := []) (mc1 := 0) (ms1 := 0) (mc := 0) (ms := 0) (by decide +kernel) md_X9_groupOfDeed lk_9_77 sh_175 rfl rfl rfl (Nat.le_of_ble_eq_true rfl) (mC.mono (mm_contI (fun r4 G5 hK => ?_)) h)
    replace h := hK
    refine mV_istore_n (k := 3) (ls' := [some (.ref 175), some (.int v1), some (.int v2), some (.int r4)]) (by decide +kernel) (Nat.le_of_ble_eq_true rfl) rfl rfl ?_
    refine mV_iload_n (k := 3) (by decide +kernel) rfl ?_
    refine mV_if_ge (off := 11) (tgt := 66) (by decide +kernel) (by decide) (fun hc => ?_) (fun hc => ?_)
    · replace h := h.1 hc
      refine mV_aload_n (k := 0) (by decide +kernel) rfl ?_
      refine mV_gfr (r := some 178) (by decide +kernel) fk_9_18 sh_175 (mm_rrs st_175_5) rfl ?_
      refine mV_iload_n (k := 2) (by decide +kernel) rfl ?_
      refine mV_bipush (n := 8) (v := nI 8) (by decide +kernel) (by decide) ?_
      refine mV_imul (by decide +kernel) ?_
      refine mV_iload_n (k := 1) (by decide +kernel) rfl ?_
      refine mV_iadd (by decide +kernel) ?_
      refine mV_iload_n (k := 3) (by decide +kernel) rfl ?_
      refine mV_ias (by decide +kernel) sh_178 h.1 ?_
      replace h := h.2
      refine mV_iincc (i := 2) (n := 1) (c := nI 1) (ls' := [some (.ref 175), some (.int v1), some (.int (v2 + (nI 1))), some (.int r4)]) (by decide +kernel) (by decide) rfl (Nat.le_of_ble_eq_true rfl) rfl rfl ?_
      refine mV_goto (off := -69) (tgt := 12) (by decide +kernel) (by decide) ?_
      refine mV_fg [3] (ls' := [some (.ref 175), some (.int v1), some (.int (v2 + (nI 1))), none]) rfl ?_
      exact h
    · replace h := h.2 hc
      refine mV_aload_n (k := 0) (by decide +kernel) rfl ?_
      refine mV_iload_n (k := 2) (by decide +kernel) rfl ?_
      refine mV_iload_n (k := 1) (by decide +kernel) rfl ?_
      refine mV_cV (as := [.int v2, .int v1]) (rest := []) (mc1 := 0) (ms1 := 0) (mc := 0) (ms := 0) (by decide +kernel) md_X9_keepDeed lk_9_81 sh_175 rfl rfl rfl (Nat.le_of_ble_eq_true rfl) (mC.mono (mm_contV (fun G7 hK => ?_)) h)
      replace h := hK
      refine mV_iload_n (k := 2) (by decide +kernel) rfl ?_
      refine mV_istore_n (k := 3) (ls' := [some (.ref 175), some (.int v1), some (.int v2), some (.int v2)]) (by decide +kernel) (Nat.le_of_ble_eq_true rfl) rfl rfl ?_
      refine mV_aload_n (k := 0) (by decide +kernel) rfl ?_
      refine mV_gfr (r := some 178) (by decide +kernel) fk_9_18 sh_175 (mm_rrs st_175_5) rfl ?_
      refine mV_iload_n (k := 2) (by decide +kernel) rfl ?_
      refine mV_bipush (n := 8) (v := nI 8) (by decide +kernel) (by decide) ?_
      refine mV_imul (by decide +kernel) ?_
      refine mV_iload_n (k := 1) (by decide +kernel) rfl ?_
      refine mV_iadd (by decide +kernel) ?_
      refine mV_iload_n (k := 3) (by decide +kernel) rfl ?_
      refine mV_ias (by decide +kernel) sh_178 h.1 ?_
      replace h := h.2
      refine mV_iincc (i := 2) (n := 1) (c := nI 1) (ls' := [some (.ref 175), some (.int v1), some (.int (v2 + (nI 1))), some (.int v2)]) (by decide +kernel) (by decide) rfl (Nat.le_of_ble_eq_true rfl) rfl rfl ?_
      refine mV_goto (off := -69) (tgt := 12) (by decide +kernel) (by decide) ?_
      refine mV_fg [3] (ls' := [some (.ref 175), some (.int v1), some (.int (v2 + (nI 1))), none]) rfl ?_
      exact h
set_option maxRecDepth 100000 in
set_option maxHeartbeats 4000000 in
theorem e_X9_keepDeed {l : Launch} {κ : mm_K} {d : Nat} {G : mm_G} {K : mm_G → Prop} (a1 : Int32) (a2 : Int32) (h : vp_in (((a1 * (nI 8)) + a2) * (nI 10)) 9600 ∧ vp_in ((((a1 * (nI 8)) + a2) * (nI 10)) + (nI 1)) 9600 ∧ mV l κ true d 0 0 m_X9_keepDeed 47 [some (.ref 175), some (.int a1), some (.int a2), some (.int (((a1 * (nI 8)) + a2) * (nI 10))), some (.int (nI 0))] [] (ms_i (ms_i G 179 ((((a1 * (nI 8)) + a2) * (nI 10)).toNatClampNeg) (mg_i G 92 2)) 179 (((((a1 * (nI 8)) + a2) * (nI 10)) + (nI 1)).toNatClampNeg) (mg_i G 92 1)) (rV K)) : mC l κ true d 0 0 m_X9_keepDeed [.ref 175, .int a1, .int a2] G (rV K) := by
  refine mC.of (by decide) (Nat.le_of_ble_eq_true rfl) [some (.ref 175), some (.int a1), some (.int a2), none, none] rfl ?_
  refine mV_iload_n (k := 1) (by decide +kernel) rfl ?_
  refine mV_bipush (n := 8) (v := nI 8) (by decide +kernel) (by decide) ?_
  refine mV_imul (by decide +kernel) ?_
  refine mV_iload_n (k := 2) (by decide +kernel) rfl ?_
  refine mV_iadd (by decide +kernel) ?_
  refine mV_bipush (n := 10) (v := nI 10) (by decide +kernel) (by decide) ?_
  refine mV_imul (by decide +kernel) ?_
  refine mV_istore_n (k := 3) (ls' := [some (.ref 175), some (.int a1), some (.int a2), some (.int (((a1 * (nI 8)) + a2) * (nI 10))), none]) (by decide +kernel) (Nat.le_of_ble_eq_true rfl) rfl rfl ?_
  refine mV_aload_n (k := 0) (by decide +kernel) rfl ?_
  refine mV_gfr (r := some 179) (by decide +kernel) fk_9_21 sh_175 (mm_rrs st_175_6) rfl ?_
  refine mV_iload_n (k := 3) (by decide +kernel) rfl ?_
  refine mV_aload_n (k := 0) (by decide +kernel) rfl ?_
  refine mV_gfr (r := some 91) (by decide +kernel) fk_9_48 sh_175 (mm_rrs st_175_4) rfl ?_
  refine mV_gfr (r := some 92) (by decide +kernel) fk_9_85 sh_91 (mm_rrs st_91_0) rfl ?_
  refine mV_gfix (x := mg_i G 92 2) (by decide +kernel) fk_9_89 sh_92 rfl ?_
  refine mV_ias (by decide +kernel) sh_179 h.1 ?_
  replace h := h.2
  refine mV_aload_n (k := 0) (by decide +kernel) rfl ?_
  refine mV_gfr (r := some 179) (by decide +kernel) fk_9_21 sh_175 (mm_rrs st_175_6) rfl ?_
  refine mV_iload_n (k := 3) (by decide +kernel) rfl ?_
  refine mV_iconst (n := 1) (v := nI 1) (by decide +kernel) (by decide) ?_
  refine mV_iadd (by decide +kernel) ?_
  refine mV_aload_n (k := 0) (by decide +kernel) rfl ?_
  refine mV_gfr (r := some 91) (by decide +kernel) fk_9_48 sh_175 (mm_rrs st_175_4) rfl ?_
  refine mV_gfr (r := some 92) (by decide +kernel) fk_9_85 sh_91 (mm_rrs st_91_0) rfl ?_
  refine mV_gfix (x := mg_i G 92 1) (by decide +kernel) fk_9_94 sh_92 rfl ?_
  refine mV_ias (by decide +kernel) sh_179 h.1 ?_
  replace h := h.2
  refine mV_iconst (n := 0) (v := nI 0) (by decide +kernel) (by decide) ?_
  refine mV_istore (i := 4) (ls' := [some (.ref 175), some (.int a1), some (.int a2), some (.int (((a1 * (nI 8)) + a2) * (nI 10))), some (.int (nI 0))]) (by decide +kernel) (Nat.le_of_ble_eq_true rfl) rfl rfl ?_
  exact h
set_option maxRecDepth 100000 in
set_option maxHeartbeats 4000000 in
theorem p_X9_keepDeed_47 {l : Launch} {κ : mm_K} {d : Nat} {G : mm_G} {K : mm_G → Prop} (v1 : Int32) (v2 : Int32) (v3 : Int32) (v4 : Int32) (h : (((mg_i G 92 1) ≤ v4 → K G) ∧ (¬ (mg_i G 92 1) ≤ v4 → vp_in v4 8 ∧ vp_in ((v3 + (nI 2)) + v4) 9600 ∧ mV l κ true d 0 0 m_X9_keepDeed 47 [some (.ref 175), some (.int v1), some (.int v2), some (.int v3), some (.int (v4 + (nI 1)))] [] (ms_i G 179 (((v3 + (nI 2)) + v4).toNatClampNeg) (mg_i G 93 v4.toNatClampNeg)) (rV K)))) : mV l κ true d 0 0 m_X9_keepDeed 47 [some (.ref 175), some (.int v1), some (.int v2), some (.int v3), some (.int v4)] [] G (rV K) := by
  refine mV_iload (i := 4) (by decide +kernel) rfl ?_
  refine mV_aload_n (k := 0) (by decide +kernel) rfl ?_
  refine mV_gfr (r := some 91) (by decide +kernel) fk_9_48 sh_175 (mm_rrs st_175_4) rfl ?_
  refine mV_gfr (r := some 92) (by decide +kernel) fk_9_85 sh_91 (mm_rrs st_91_0) rfl ?_
  refine mV_gfix (x := mg_i G 92 1) (by decide +kernel) fk_9_94 sh_92 rfl ?_
  refine mV_icmp_ge (off := 33) (tgt := 92) (by decide +kernel) (by decide) (fun hc => ?_) (fun hc => ?_)
  · replace h := h.1 hc
    exact mV_vret (by decide +kernel) rfl h
  · replace h := h.2 hc
    refine mV_aload_n (k := 0) (by decide +kernel) rfl ?_
    refine mV_gfr (r := some 179) (by decide +kernel) fk_9_21 sh_175 (mm_rrs st_175_6) rfl ?_
    refine mV_iload_n (k := 3) (by decide +kernel) rfl ?_
    refine mV_iconst (n := 2) (v := nI 2) (by decide +kernel) (by decide) ?_
    refine mV_iadd (by decide +kernel) ?_
    refine mV_iload (i := 4) (by decide +kernel) rfl ?_
    refine mV_iadd (by decide +kernel) ?_
    refine mV_aload_n (k := 0) (by decide +kernel) rfl ?_
    refine mV_gfr (r := some 91) (by decide +kernel) fk_9_48 sh_175 (mm_rrs st_175_4) rfl ?_
    refine mV_gfr (r := some 92) (by decide +kernel) fk_9_85 sh_91 (mm_rrs st_91_0) rfl ?_
    refine mV_gfr (r := some 93) (by decide +kernel) fk_9_95 sh_92 (mm_rrs st_92_0) rfl ?_
    refine mV_iload (i := 4) (by decide +kernel) rfl ?_
    refine mV_ialx (x := mg_i G 93 v4.toNatClampNeg) (by decide +kernel) sh_93 h.1 rfl ?_
    replace h := h.2
    refine mV_ias (by decide +kernel) sh_179 h.1 ?_
    replace h := h.2
    refine mV_iincc (i := 4) (n := 1) (c := nI 1) (ls' := [some (.ref 175), some (.int v1), some (.int v2), some (.int v3), some (.int (v4 + (nI 1)))]) (by decide +kernel) (by decide) rfl (Nat.le_of_ble_eq_true rfl) rfl rfl ?_
    refine mV_goto (off := -42) (tgt := 47) (by decide +kernel) (by decide) ?_
    exact h
set_option maxRecDepth 100000 in
set_option maxHeartbeats 4000000 in
theorem e_X9_groupOfDeed {l : Launch} {κ : mm_K} {d : Nat} {G : mm_G} {K : Int32 → mm_G → Prop} (a1 : Int32) (a2 : Int32) (h : mV l κ true (d + 1) 0 0 m_X9_groupOfDeed 2 [some (.ref 175), some (.int a1), some (.int a2), some (.int (nI 0)), none] [] G (rI K)) : mC l κ true (d + 1) 0 0 m_X9_groupOfDeed [.ref 175, .int a1, .int a2] G (rI K) := by
  refine mC.of (by decide) (Nat.le_of_ble_eq_true rfl) [some (.ref 175), some (.int a1), some (.int a2), none, none] rfl ?_
  refine mV_iconst (n := 0) (v := nI 0) (by decide +kernel) (by decide) ?_
  refine mV_istore_n (k := 3) (ls' := [some (.ref 175), some (.int a1), some (.int a2), some (.int (nI 0)), none]) (by decide +kernel) (Nat.le_of_ble_eq_true rfl) rfl rfl ?_
  exact h
set_option maxRecDepth 100000 in
set_option maxHeartbeats 4000000 in
theorem p_X9_groupOfDeed_2 {l : Launch} {κ : mm_K} {d : Nat} {G : mm_G} {K : Int32 → mm_G → Prop} (v1 : Int32) (v2 : Int32) (v3 : Int32) (h : ((v2 ≤ v3 → K (-1) G) ∧ (¬ v2 ≤ v3 → vp_in ((v3 * (nI 8)) + v1) 960 ∧ ((¬ (mg_i G 178 (((v3 * (nI 8)) + v1).toNatClampNeg)) = v3 → mV l κ true (d + 1) 0 0 m_X9_groupOfDeed 2 [some (.ref 175), some (.int v1), some (.int v2), some (.int (v3 + (nI 1))), none] [] G (rI K)) ∧ ((mg_i G 178 (((v3 * (nI 8)) + v1).toNatClampNeg)) = v3 → mC l κ true d 0 0 m_X9_isRecorded [.ref 175, .int (((v3 * (nI 8)) + v1) * (nI 10))] G (rI (fun r1 G2 => ((r1 = 0 → mV l κ true (d + 1) 0 0 m_X9_groupOfDeed 2 [some (.ref 175), some (.int v1), some (.int v2), some (.int (v3 + (nI 1))), none] [] G2 (rI K)) ∧ (¬ r1 = 0 → K v3 G2))))))))) : mV l κ true (d + 1) 0 0 m_X9_groupOfDeed 2 [some (.ref 175), some (.int v1), some (.int v2), some (.int v3), none] [] G (rI K) := by
  refine mV_iload_n (k := 3) (by decide +kernel) rfl ?_
  refine mV_iload_n (k := 2) (by decide +kernel) rfl ?_
  refine mV_icmp_ge (off := 42) (tgt := 46) (by decide +kernel) (by decide) (fun hc => ?_) (fun hc => ?_)
  · replace h := h.1 hc
    refine mV_iconst (n := -1) (v := (-1)) (by decide +kernel) (by decide) ?_
    exact mV_iret (by decide +kernel) rfl h
  · replace h := h.2 hc
    refine mV_iload_n (k := 3) (by decide +kernel) rfl ?_
    refine mV_bipush (n := 8) (v := nI 8) (by decide +kernel) (by decide) ?_
    refine mV_imul (by decide +kernel) ?_
    refine mV_iload_n (k := 1) (by decide +kernel) rfl ?_
    refine mV_iadd (by decide +kernel) ?_
    refine mV_istore (i := 4) (ls' := [some (.ref 175), some (.int v1), some (.int v2), some (.int v3), some (.int ((v3 * (nI 8)) + v1))]) (by decide +kernel) (Nat.le_of_ble_eq_true rfl) rfl rfl ?_
    refine mV_aload_n (k := 0) (by decide +kernel) rfl ?_
    refine mV_gfr (r := some 178) (by decide +kernel) fk_9_18 sh_175 (mm_rrs st_175_5) rfl ?_
    refine mV_iload (i := 4) (by decide +kernel) rfl ?_
    refine mV_ialx (x := mg_i G 178 (((v3 * (nI 8)) + v1).toNatClampNeg)) (by decide +kernel) sh_178 h.1 rfl ?_
    replace h := h.2
    refine mV_iload_n (k := 3) (by decide +kernel) rfl ?_
    refine mV_icmp_ne (off := 17) (tgt := 40) (by decide +kernel) (by decide) (fun hc => ?_) (fun hc => ?_)
    · replace h := h.1 hc
      refine mV_iincc (i := 3) (n := 1) (c := nI 1) (ls' := [some (.ref 175), some (.int v1), some (.int v2), some (.int (v3 + (nI 1))), some (.int ((v3 * (nI 8)) + v1))]) (by decide +kernel) (by decide) rfl (Nat.le_of_ble_eq_true rfl) rfl rfl ?_
      refine mV_goto (off := -41) (tgt := 2) (by decide +kernel) (by decide) ?_
      refine mV_fg [4] (ls' := [some (.ref 175), some (.int v1), some (.int v2), some (.int (v3 + (nI 1))), none]) rfl ?_
      exact h
    · replace h := h.2 hc
      refine mV_aload_n (k := 0) (by decide +kernel) rfl ?_
      refine mV_iload (i := 4) (by decide +kernel) rfl ?_
      refine mV_bipush (n := 10) (v := nI 10) (by decide +kernel) (by decide) ?_
      refine mV_imul (by decide +kernel) ?_
      refine mV_cV (as := [.int (((v3 * (nI 8)) + v1) * (nI 10))]) (rest := []) (mc1 := 0) (ms1 := 0) (mc := 0) (ms := 0) (by decide +kernel) md_X9_isRecorded lk_9_98 sh_175 rfl rfl rfl (Nat.le_of_ble_eq_true rfl) (mC.mono (mm_contI (fun r1 G2 hK => ?_)) h)
      replace h := hK
      refine mV_if_eq (off := 5) (tgt := 40) (by decide +kernel) (by decide) (fun hc => ?_) (fun hc => ?_)
      · replace h := h.1 hc
        refine mV_iincc (i := 3) (n := 1) (c := nI 1) (ls' := [some (.ref 175), some (.int v1), some (.int v2), some (.int (v3 + (nI 1))), some (.int ((v3 * (nI 8)) + v1))]) (by decide +kernel) (by decide) rfl (Nat.le_of_ble_eq_true rfl) rfl rfl ?_
        refine mV_goto (off := -41) (tgt := 2) (by decide +kernel) (by decide) ?_
        refine mV_fg [4] (ls' := [some (.ref 175), some (.int v1), some (.int v2), some (.int (v3 + (nI 1))), none]) rfl ?_
        exact h
      · replace h := h.2 hc
        refine mV_iload_n (k := 3) (by decide +kernel) rfl ?_
        exact mV_iret (by decide +kernel) rfl h
set_option maxRecDepth 100000 in
set_option maxHeartbeats 4000000 in
theorem e_X9_isRecorded {l : Launch} {κ : mm_K} {d : Nat} {G : mm_G} {K : Int32 → mm_G → Prop} (a1 : Int32) (h : vp_in a1 9600 ∧ ((¬ (mg_i G 179 a1.toNatClampNeg) = (mg_i G 92 2) → K (nI 0) G) ∧ ((mg_i G 179 a1.toNatClampNeg) = (mg_i G 92 2) → vp_in (a1 + (nI 1)) 9600 ∧ (((mg_i G 179 ((a1 + (nI 1)).toNatClampNeg)) = (mg_i G 92 1) → mV l κ true d 0 0 m_X9_isRecorded 44 [some (.ref 175), some (.int a1), some (.int (nI 0))] [] G (rI K)) ∧ (¬ (mg_i G 179 ((a1 + (nI 1)).toNatClampNeg)) = (mg_i G 92 1) → K (nI 0) G))))) : mC l κ true d 0 0 m_X9_isRecorded [.ref 175, .int a1] G (rI K) := by
  refine mC.of (by decide) (Nat.le_of_ble_eq_true rfl) [some (.ref 175), some (.int a1), none] rfl ?_
  refine mV_aload_n (k := 0) (by decide +kernel) rfl ?_
  refine mV_gfr (r := some 179) (by decide +kernel) fk_9_21 sh_175 (mm_rrs st_175_6) rfl ?_
  refine mV_iload_n (k := 1) (by decide +kernel) rfl ?_
  refine mV_ialx (x := mg_i G 179 a1.toNatClampNeg) (by decide +kernel) sh_179 h.1 rfl ?_
  replace h := h.2
  refine mV_aload_n (k := 0) (by decide +kernel) rfl ?_
  refine mV_gfr (r := some 91) (by decide +kernel) fk_9_48 sh_175 (mm_rrs st_175_4) rfl ?_
  refine mV_gfr (r := some 92) (by decide +kernel) fk_9_85 sh_91 (mm_rrs st_91_0) rfl ?_
  refine mV_gfix (x := mg_i G 92 2) (by decide +kernel) fk_9_89 sh_92 rfl ?_
  refine mV_icmp_ne (off := 24) (tgt := 40) (by decide +kernel) (by decide) (fun hc => ?_) (fun hc => ?_)
  · replace h := h.1 hc
    refine mV_iconst (n := 0) (v := nI 0) (by decide +kernel) (by decide) ?_
    exact mV_zret (by decide +kernel) rfl (by decide) h
  · replace h := h.2 hc
    refine mV_aload_n (k := 0) (by decide +kernel) rfl ?_
    refine mV_gfr (r := some 179) (by decide +kernel) fk_9_21 sh_175 (mm_rrs st_175_6) rfl ?_
    refine mV_iload_n (k := 1) (by decide +kernel) rfl ?_
    refine mV_iconst (n := 1) (v := nI 1) (by decide +kernel) (by decide) ?_
    refine mV_iadd (by decide +kernel) ?_
    refine mV_ialx (x := mg_i G 179 ((a1 + (nI 1)).toNatClampNeg)) (by decide +kernel) sh_179 h.1 rfl ?_
    replace h := h.2
    refine mV_aload_n (k := 0) (by decide +kernel) rfl ?_
    refine mV_gfr (r := some 91) (by decide +kernel) fk_9_48 sh_175 (mm_rrs st_175_4) rfl ?_
    refine mV_gfr (r := some 92) (by decide +kernel) fk_9_85 sh_91 (mm_rrs st_91_0) rfl ?_
    refine mV_gfix (x := mg_i G 92 1) (by decide +kernel) fk_9_94 sh_92 rfl ?_
    refine mV_icmp_eq (off := 5) (tgt := 42) (by decide +kernel) (by decide) (fun hc => ?_) (fun hc => ?_)
    · replace h := h.1 hc
      refine mV_iconst (n := 0) (v := nI 0) (by decide +kernel) (by decide) ?_
      refine mV_istore_n (k := 2) (ls' := [some (.ref 175), some (.int a1), some (.int (nI 0))]) (by decide +kernel) (Nat.le_of_ble_eq_true rfl) rfl rfl ?_
      exact h
    · replace h := h.2 hc
      refine mV_iconst (n := 0) (v := nI 0) (by decide +kernel) (by decide) ?_
      exact mV_zret (by decide +kernel) rfl (by decide) h
set_option maxRecDepth 100000 in
set_option maxHeartbeats 4000000 in
theorem p_X9_isRecorded_44 {l : Launch} {κ : mm_K} {d : Nat} {G : mm_G} {K : Int32 → mm_G → Prop} (v1 : Int32) (v2 : Int32) (h : (((mg_i G 92 1) ≤ v2 → K (nI 1) G) ∧ (¬ (mg_i G 92 1) ≤ v2 → vp_in ((v1 + (nI 2)) + v2) 9600 ∧ vp_in v2 8 ∧ (((mg_i G 179 (((v1 + (nI 2)) + v2).toNatClampNeg)) = (mg_i G 93 v2.toNatClampNeg) → mV l κ true d 0 0 m_X9_isRecorded 44 [some (.ref 175), some (.int v1), some (.int (v2 + (nI 1)))] [] G (rI K)) ∧ (¬ (mg_i G 179 (((v1 + (nI 2)) + v2).toNatClampNeg)) = (mg_i G 93 v2.toNatClampNeg) → K (nI 0) G))))) : mV l κ true d 0 0 m_X9_isRecorded 44 [some (.ref 175), some (.int v1), some (.int v2)] [] G (rI K) := by
  refine mV_iload_n (k := 2) (by decide +kernel) rfl ?_
  refine mV_aload_n (k := 0) (by decide +kernel) rfl ?_
  refine mV_gfr (r := some 91) (by decide +kernel) fk_9_48 sh_175 (mm_rrs st_175_4) rfl ?_
  refine mV_gfr (r := some 92) (by decide +kernel) fk_9_85 sh_91 (mm_rrs st_91_0) rfl ?_
  refine mV_gfix (x := mg_i G 92 1) (by decide +kernel) fk_9_94 sh_92 rfl ?_
  refine mV_icmp_ge (off := 36) (tgt := 91) (by decide +kernel) (by decide) (fun hc => ?_) (fun hc => ?_)
  · replace h := h.1 hc
    refine mV_iconst (n := 1) (v := nI 1) (by decide +kernel) (by decide) ?_
    exact mV_zret (by decide +kernel) rfl (by decide) h
  · replace h := h.2 hc
    refine mV_aload_n (k := 0) (by decide +kernel) rfl ?_
    refine mV_gfr (r := some 179) (by decide +kernel) fk_9_21 sh_175 (mm_rrs st_175_6) rfl ?_
    refine mV_iload_n (k := 1) (by decide +kernel) rfl ?_
    refine mV_iconst (n := 2) (v := nI 2) (by decide +kernel) (by decide) ?_
    refine mV_iadd (by decide +kernel) ?_
    refine mV_iload_n (k := 2) (by decide +kernel) rfl ?_
    refine mV_iadd (by decide +kernel) ?_
    refine mV_ialx (x := mg_i G 179 (((v1 + (nI 2)) + v2).toNatClampNeg)) (by decide +kernel) sh_179 h.1 rfl ?_
    replace h := h.2
    refine mV_aload_n (k := 0) (by decide +kernel) rfl ?_
    refine mV_gfr (r := some 91) (by decide +kernel) fk_9_48 sh_175 (mm_rrs st_175_4) rfl ?_
    refine mV_gfr (r := some 92) (by decide +kernel) fk_9_85 sh_91 (mm_rrs st_91_0) rfl ?_
    refine mV_gfr (r := some 93) (by decide +kernel) fk_9_95 sh_92 (mm_rrs st_92_0) rfl ?_
    refine mV_iload_n (k := 2) (by decide +kernel) rfl ?_
    refine mV_ialx (x := mg_i G 93 v2.toNatClampNeg) (by decide +kernel) sh_93 h.1 rfl ?_
    replace h := h.2
    refine mV_icmp_eq (off := 5) (tgt := 85) (by decide +kernel) (by decide) (fun hc => ?_) (fun hc => ?_)
    · replace h := h.1 hc
      refine mV_iincc (i := 2) (n := 1) (c := nI 1) (ls' := [some (.ref 175), some (.int v1), some (.int (v2 + (nI 1)))]) (by decide +kernel) (by decide) rfl (Nat.le_of_ble_eq_true rfl) rfl rfl ?_
      refine mV_goto (off := -44) (tgt := 44) (by decide +kernel) (by decide) ?_
      exact h
    · replace h := h.2 hc
      refine mV_iconst (n := 0) (v := nI 0) (by decide +kernel) (by decide) ?_
      exact mV_zret (by decide +kernel) rfl (by decide) h
set_option maxRecDepth 100000 in
set_option maxHeartbeats 4000000 in
theorem e_X9_narrow {l : Launch} {κ : mm_K} {d : Nat} {G : mm_G} {K : Int32 → mm_G → Prop} (a1 : Int32) (a2 : Int32) (a3 : Int32) (h : mC l κ true (d + 3) 0 0 m_X9_gather [.ref 175, .int a1, .int a2] G (rV (fun G2 => mV l κ true (d + 4) 0 0 m_X9_narrow 17 [some (.ref 175), some (.int a1), some (.int a2), some (.int a3), some (.int (nI 0)), none] [] (ms_i G2 175 11 (mg_i G2 175 10)) (rI K)))) : mC l κ true (d + 4) 0 0 m_X9_narrow [.ref 175, .int a1, .int a2, .int a3] G (rI K) := by
  refine mC.of (by decide) (Nat.le_of_ble_eq_true rfl) [some (.ref 175), some (.int a1), some (.int a2), some (.int a3), none, none] rfl ?_
  refine mV_aload_n (k := 0) (by decide +kernel) rfl ?_
  refine mV_iload_n (k := 1) (by decide +kernel) rfl ?_
  refine mV_iload_n (k := 2) (by decide +kernel) rfl ?_
  refine mV_cV (as := [.int a1, .int a2]) (rest := []) (mc1 := 0) (ms1 := 0) (mc := 0) (ms := 0) (by decide +kernel) md_X9_gather lk_9_102 sh_175 rfl rfl rfl (Nat.le_of_ble_eq_true rfl) (mC.mono (mm_contV (fun G2 hK => ?_)) h)
  replace h := hK
  refine mV_aload_n (k := 0) (by decide +kernel) rfl ?_
  refine mV_aload_n (k := 0) (by decide +kernel) rfl ?_
  refine mV_gfix (x := mg_i G2 175 10) (by decide +kernel) fk_9_66 sh_175 rfl ?_
  refine mV_pfi (by decide +kernel) fk_9_105 sh_175 ?_
  refine mV_iconst (n := 0) (v := nI 0) (by decide +kernel) (by decide) ?_
  refine mV_istore (i := 4) (ls' := [some (.ref 175), some (.int a1), some (.int a2), some (.int a3), some (.int (nI 0)), none]) (by decide +kernel) (Nat.le_of_ble_eq_true rfl) rfl rfl ?_
  exact h
set_option maxRecDepth 100000 in
set_option maxHeartbeats 4000000 in
theorem p_X9_narrow_17 {l : Launch} {κ : mm_K} {d : Nat} {G : mm_G} {K : Int32 → mm_G → Prop} (v1 : Int32) (v2 : Int32) (v3 : Int32) (v4 : Int32) (h : (((mg_i G 175 10) ≤ v4 → mV l κ true (d + 4) 0 0 m_X9_narrow 44 [some (.ref 175), some (.int v1), some (.int v2), some (.int v3), some (.int (nI 0)), none] [] G (rI K)) ∧ (¬ (mg_i G 175 10) ≤ v4 → vp_in v4 120 ∧ mV l κ true (d + 4) 0 0 m_X9_narrow 17 [some (.ref 175), some (.int v1), some (.int v2), some (.int v3), some (.int (v4 + (nI 1))), none] [] (ms_i G 177 v4.toNatClampNeg v4) (rI K)))) : mV l κ true (d + 4) 0 0 m_X9_narrow 17 [some (.ref 175), some (.int v1), some (.int v2), some (.int v3), some (.int v4), none] [] G (rI K) := by
  refine mV_iload (i := 4) (by decide +kernel) rfl ?_
  refine mV_aload_n (k := 0) (by decide +kernel) rfl ?_
  refine mV_gfix (x := mg_i G 175 10) (by decide +kernel) fk_9_66 sh_175 rfl ?_
  refine mV_icmp_ge (off := 18) (tgt := 41) (by decide +kernel) (by decide) (fun hc => ?_) (fun hc => ?_)
  · replace h := h.1 hc
    refine mV_iconst (n := 0) (v := nI 0) (by decide +kernel) (by decide) ?_
    refine mV_istore (i := 4) (ls' := [some (.ref 175), some (.int v1), some (.int v2), some (.int v3), some (.int (nI 0)), none]) (by decide +kernel) (Nat.le_of_ble_eq_true rfl) rfl rfl ?_
    exact h
  · replace h := h.2 hc
    refine mV_aload_n (k := 0) (by decide +kernel) rfl ?_
    refine mV_gfr (r := some 177) (by decide +kernel) fk_9_15 sh_175 (mm_rrs st_175_1) rfl ?_
    refine mV_iload (i := 4) (by decide +kernel) rfl ?_
    refine mV_iload (i := 4) (by decide +kernel) rfl ?_
    refine mV_ias (by decide +kernel) sh_177 h.1 ?_
    replace h := h.2
    refine mV_iincc (i := 4) (n := 1) (c := nI 1) (ls' := [some (.ref 175), some (.int v1), some (.int v2), some (.int v3), some (.int (v4 + (nI 1))), none]) (by decide +kernel) (by decide) rfl (Nat.le_of_ble_eq_true rfl) rfl rfl ?_
    refine mV_goto (off := -21) (tgt := 17) (by decide +kernel) (by decide) ?_
    exact h
set_option maxRecDepth 100000 in
set_option maxHeartbeats 4000000 in
theorem p_X9_narrow_44 {l : Launch} {κ : mm_K} {d : Nat} {G : mm_G} {K : Int32 → mm_G → Prop} (v1 : Int32) (v2 : Int32) (v3 : Int32) (v4 : Int32) (h : ((v3 ≤ v4 → K (mg_i G 175 11) G) ∧ (¬ v3 ≤ v4 → vp_in v4 20 ∧ mC l κ true (d + 3) 0 0 m_X9_group [.ref 175, .int (mg_i G 52 v4.toNatClampNeg)] G (rV (fun G2 => vp_in v1 4 ∧ vp_in v4 20 ∧ mC l κ true (d + 3) 0 0 m_X3_runs [.ref 91, .ref (54 + 2 * v1.toNatClampNeg), .int (mg_i G2 53 v4.toNatClampNeg), .int (mg_i G 52 v4.toNatClampNeg), .null] G2 (rV (fun G5 => mC l κ true (d + 3) 0 0 m_X9_groupOfDeed [.ref 175, .int (mg_i G 52 v4.toNatClampNeg), .int (mg_i G5 175 10)] G5 (rI (fun r6 G7 => mC l κ true (d + 3) 0 0 m_X9_keepGroup [.ref 175, .int (mg_i G 52 v4.toNatClampNeg), .int r6] G7 (rV (fun G9 => mV l κ true (d + 4) 0 0 m_X9_narrow 44 [some (.ref 175), some (.int v1), some (.int v2), some (.int v3), some (.int (v4 + (nI 1))), none] [] G9 (rI K)))))))))))) : mV l κ true (d + 4) 0 0 m_X9_narrow 44 [some (.ref 175), some (.int v1), some (.int v2), some (.int v3), some (.int v4), none] [] G (rI K) := by
  refine mV_iload (i := 4) (by decide +kernel) rfl ?_
  refine mV_iload_n (k := 3) (by decide +kernel) rfl ?_
  refine mV_icmp_ge (off := 72) (tgt := 119) (by decide +kernel) (by decide) (fun hc => ?_) (fun hc => ?_)
  · replace h := h.1 hc
    refine mV_aload_n (k := 0) (by decide +kernel) rfl ?_
    refine mV_gfix (x := mg_i G 175 11) (by decide +kernel) fk_9_105 sh_175 rfl ?_
    exact mV_iret (by decide +kernel) rfl h
  · replace h := h.2 hc
    refine mV_aload_n (k := 0) (by decide +kernel) rfl ?_
    refine mV_gfr (r := some 50) (by decide +kernel) fk_9_40 sh_175 (mm_rrs st_175_2) rfl ?_
    refine mV_gfr (r := some 52) (by decide +kernel) fk_9_108 sh_50 (mm_rrs st_50_2) rfl ?_
    refine mV_iload (i := 4) (by decide +kernel) rfl ?_
    refine mV_ialx (x := mg_i G 52 v4.toNatClampNeg) (by decide +kernel) sh_52 h.1 rfl ?_
    replace h := h.2
    refine mV_istore (i := 5) (ls' := [some (.ref 175), some (.int v1), some (.int v2), some (.int v3), some (.int v4), some (.int (mg_i G 52 v4.toNatClampNeg))]) (by decide +kernel) (Nat.le_of_ble_eq_true rfl) rfl rfl ?_
    refine mV_aload_n (k := 0) (by decide +kernel) rfl ?_
    refine mV_iload (i := 5) (by decide +kernel) rfl ?_
    refine mV_cV (as := [.int (mg_i G 52 v4.toNatClampNeg)]) (rest := []) (mc1 := 0) (ms1 := 0) (mc := 0) (ms := 0) (by decide +kernel) md_X9_group lk_9_111 sh_175 rfl rfl rfl (Nat.le_of_ble_eq_true rfl) (mC.mono (mm_contV (fun G2 hK => ?_)) h)
    replace h := hK
    refine mV_aload_n (k := 0) (by decide +kernel) rfl ?_
    refine mV_gfr (r := some 91) (by decide +kernel) fk_9_48 sh_175 (mm_rrs st_175_4) rfl ?_
    refine mV_aload_n (k := 0) (by decide +kernel) rfl ?_
    refine mV_gfr (r := some 50) (by decide +kernel) fk_9_40 sh_175 (mm_rrs st_175_2) rfl ?_
    refine mV_gfr (r := some 51) (by decide +kernel) fk_9_55 sh_50 (mm_rrs st_50_0) rfl ?_
    refine mV_iload_n (k := 1) (by decide +kernel) rfl ?_
    have hj3 := h.1
    replace h := h.2
    refine mV_aal (t := 5) (r := some (54 + 2 * v1.toNatClampNeg)) (by decide +kernel) sh_51 (by decide) hj3 (mm_rrs (mm_rs50.2.2.2.2.2.2.2.1 _ (mm_ixlt hj3))) rfl ?_
    refine mV_aload_n (k := 0) (by decide +kernel) rfl ?_
    refine mV_gfr (r := some 50) (by decide +kernel) fk_9_40 sh_175 (mm_rrs st_175_2) rfl ?_
    refine mV_gfr (r := some 53) (by decide +kernel) fk_9_115 sh_50 (mm_rrs st_50_3) rfl ?_
    refine mV_iload (i := 4) (by decide +kernel) rfl ?_
    refine mV_ialx (x := mg_i G2 53 v4.toNatClampNeg) (by decide +kernel) sh_53 h.1 rfl ?_
    replace h := h.2
    refine mV_iload (i := 5) (by decide +kernel) rfl ?_
    refine mV_null (by decide +kernel) ?_
    refine mV_cV (as := [.ref (54 + 2 * v1.toNatClampNeg), .int (mg_i G2 53 v4.toNatClampNeg), .int (mg_i G 52 v4.toNatClampNeg), .null]) (rest := []) (mc1 := 0) (ms1 := 0) (mc := 0) (ms := 0) (by decide +kernel) md_X3_runs lk_9_71 sh_91 rfl rfl rfl (Nat.le_of_ble_eq_true rfl) (mC.mono (mm_contV (fun G5 hK => ?_)) h)
    replace h := hK
    refine mV_aload_n (k := 0) (by decide +kernel) rfl ?_
    refine mV_iload (i := 5) (by decide +kernel) rfl ?_
    refine mV_aload_n (k := 0) (by decide +kernel) rfl ?_
    refine mV_iload (i := 5) (by decide +kernel) rfl ?_
    refine mV_aload_n (k := 0) (by decide +kernel) rfl ?_
    refine mV_gfix (x := mg_i G5 175 10) (by decide +kernel) fk_9_66 sh_175 rfl ?_
    refine mV_cV (as := [.int (mg_i G 52 v4.toNatClampNeg), .int (mg_i G5 175 10)]) (rest := [.int (mg_i G 52 v4.toNatClampNeg), .ref 175]) (mc1 := 0) (ms1 := 0) (mc := 0) (ms := 0) (by decide +kernel) md_X9_groupOfDeed lk_9_77 sh_175 rfl rfl rfl (Nat.le_of_ble_eq_true rfl) (mC.mono (mm_contI (fun r6 G7 hK => ?_)) h)
    replace h := hK
    refine mV_cV (as := [.int (mg_i G 52 v4.toNatClampNeg), .int r6]) (rest := []) (mc1 := 0) (ms1 := 0) (mc := 0) (ms := 0) (by decide +kernel) md_X9_keepGroup lk_9_118 sh_175 rfl rfl rfl (Nat.le_of_ble_eq_true rfl) (mC.mono (mm_contV (fun G9 hK => ?_)) h)
    replace h := hK
    refine mV_iincc (i := 4) (n := 1) (c := nI 1) (ls' := [some (.ref 175), some (.int v1), some (.int v2), some (.int v3), some (.int (v4 + (nI 1))), some (.int (mg_i G 52 v4.toNatClampNeg))]) (by decide +kernel) (by decide) rfl (Nat.le_of_ble_eq_true rfl) rfl rfl ?_
    refine mV_goto (off := -72) (tgt := 44) (by decide +kernel) (by decide) ?_
    refine mV_fg [5] (ls' := [some (.ref 175), some (.int v1), some (.int v2), some (.int v3), some (.int (v4 + (nI 1))), none]) rfl ?_
    exact h
set_option maxRecDepth 100000 in
set_option maxHeartbeats 4000000 in
theorem e_X9_keepGroup {l : Launch} {κ : mm_K} {d : Nat} {G : mm_G} {K : mm_G → Prop} (a1 : Int32) (a2 : Int32) (h : mV l κ true d 0 0 m_X9_keepGroup 5 [some (.ref 175), some (.int a1), some (.int a2), some (.int (nI 0)), some (.int (nI 0))] [] G (rV K)) : mC l κ true d 0 0 m_X9_keepGroup [.ref 175, .int a1, .int a2] G (rV K) := by
  refine mC.of (by decide) (Nat.le_of_ble_eq_true rfl) [some (.ref 175), some (.int a1), some (.int a2), none, none] rfl ?_
  refine mV_iconst (n := 0) (v := nI 0) (by decide +kernel) (by decide) ?_
  refine mV_istore_n (k := 3) (ls' := [some (.ref 175), some (.int a1), some (.int a2), some (.int (nI 0)), none]) (by decide +kernel) (Nat.le_of_ble_eq_true rfl) rfl rfl ?_
  refine mV_iconst (n := 0) (v := nI 0) (by decide +kernel) (by decide) ?_
  refine mV_istore (i := 4) (ls' := [some (.ref 175), some (.int a1), some (.int a2), some (.int (nI 0)), some (.int (nI 0))]) (by decide +kernel) (Nat.le_of_ble_eq_true rfl) rfl rfl ?_
  exact h
set_option maxRecDepth 100000 in
set_option maxHeartbeats 4000000 in
theorem p_X9_keepGroup_5 {l : Launch} {κ : mm_K} {d : Nat} {G : mm_G} {K : mm_G → Prop} (v1 : Int32) (v2 : Int32) (v3 : Int32) (v4 : Int32) (h : (((mg_i G 175 11) ≤ v4 → K (ms_i G 175 11 v3)) ∧ (¬ (mg_i G 175 11) ≤ v4 → vp_in v4 120 ∧ vp_in (((mg_i G 177 v4.toNatClampNeg) * (nI 8)) + v1) 960 ∧ ((¬ (mg_i G 178 ((((mg_i G 177 v4.toNatClampNeg) * (nI 8)) + v1).toNatClampNeg)) = v2 → mV l κ true d 0 0 m_X9_keepGroup 5 [some (.ref 175), some (.int v1), some (.int v2), some (.int v3), some (.int (v4 + (nI 1)))] [] G (rV K)) ∧ ((mg_i G 178 ((((mg_i G 177 v4.toNatClampNeg) * (nI 8)) + v1).toNatClampNeg)) = v2 → vp_in v4 120 ∧ vp_in v3 120 ∧ mV l κ true d 0 0 m_X9_keepGroup 5 [some (.ref 175), some (.int v1), some (.int v2), some (.int (v3 + (nI 1))), some (.int (v4 + (nI 1)))] [] (ms_i G 177 v3.toNatClampNeg (mg_i G 177 v4.toNatClampNeg)) (rV K)))))) : mV l κ true d 0 0 m_X9_keepGroup 5 [some (.ref 175), some (.int v1), some (.int v2), some (.int v3), some (.int v4)] [] G (rV K) := by
  refine mV_iload (i := 4) (by decide +kernel) rfl ?_
  refine mV_aload_n (k := 0) (by decide +kernel) rfl ?_
  refine mV_gfix (x := mg_i G 175 11) (by decide +kernel) fk_9_105 sh_175 rfl ?_
  refine mV_icmp_ge (off := 46) (tgt := 57) (by decide +kernel) (by decide) (fun hc => ?_) (fun hc => ?_)
  · replace h := h.1 hc
    refine mV_aload_n (k := 0) (by decide +kernel) rfl ?_
    refine mV_iload_n (k := 3) (by decide +kernel) rfl ?_
    refine mV_pfi (by decide +kernel) fk_9_105 sh_175 ?_
    exact mV_vret (by decide +kernel) rfl h
  · replace h := h.2 hc
    refine mV_aload_n (k := 0) (by decide +kernel) rfl ?_
    refine mV_gfr (r := some 178) (by decide +kernel) fk_9_18 sh_175 (mm_rrs st_175_5) rfl ?_
    refine mV_aload_n (k := 0) (by decide +kernel) rfl ?_
    refine mV_gfr (r := some 177) (by decide +kernel) fk_9_15 sh_175 (mm_rrs st_175_1) rfl ?_
    refine mV_iload (i := 4) (by decide +kernel) rfl ?_
    refine mV_ialx (x := mg_i G 177 v4.toNatClampNeg) (by decide +kernel) sh_177 h.1 rfl ?_
    replace h := h.2
    refine mV_bipush (n := 8) (v := nI 8) (by decide +kernel) (by decide) ?_
    refine mV_imul (by decide +kernel) ?_
    refine mV_iload_n (k := 1) (by decide +kernel) rfl ?_
    refine mV_iadd (by decide +kernel) ?_
    refine mV_ialx (x := mg_i G 178 ((((mg_i G 177 v4.toNatClampNeg) * (nI 8)) + v1).toNatClampNeg)) (by decide +kernel) sh_178 h.1 rfl ?_
    replace h := h.2
    refine mV_iload_n (k := 2) (by decide +kernel) rfl ?_
    refine mV_icmp_ne (off := 19) (tgt := 51) (by decide +kernel) (by decide) (fun hc => ?_) (fun hc => ?_)
    · replace h := h.1 hc
      refine mV_iincc (i := 4) (n := 1) (c := nI 1) (ls' := [some (.ref 175), some (.int v1), some (.int v2), some (.int v3), some (.int (v4 + (nI 1)))]) (by decide +kernel) (by decide) rfl (Nat.le_of_ble_eq_true rfl) rfl rfl ?_
      refine mV_goto (off := -49) (tgt := 5) (by decide +kernel) (by decide) ?_
      exact h
    · replace h := h.2 hc
      refine mV_aload_n (k := 0) (by decide +kernel) rfl ?_
      refine mV_gfr (r := some 177) (by decide +kernel) fk_9_15 sh_175 (mm_rrs st_175_1) rfl ?_
      refine mV_iload_n (k := 3) (by decide +kernel) rfl ?_
      refine mV_aload_n (k := 0) (by decide +kernel) rfl ?_
      refine mV_gfr (r := some 177) (by decide +kernel) fk_9_15 sh_175 (mm_rrs st_175_1) rfl ?_
      refine mV_iload (i := 4) (by decide +kernel) rfl ?_
      refine mV_ialx (x := mg_i G 177 v4.toNatClampNeg) (by decide +kernel) sh_177 h.1 rfl ?_
      replace h := h.2
      refine mV_ias (by decide +kernel) sh_177 h.1 ?_
      replace h := h.2
      refine mV_iincc (i := 3) (n := 1) (c := nI 1) (ls' := [some (.ref 175), some (.int v1), some (.int v2), some (.int (v3 + (nI 1))), some (.int v4)]) (by decide +kernel) (by decide) rfl (Nat.le_of_ble_eq_true rfl) rfl rfl ?_
      refine mV_iincc (i := 4) (n := 1) (c := nI 1) (ls' := [some (.ref 175), some (.int v1), some (.int v2), some (.int (v3 + (nI 1))), some (.int (v4 + (nI 1)))]) (by decide +kernel) (by decide) rfl (Nat.le_of_ble_eq_true rfl) rfl rfl ?_
      refine mV_goto (off := -49) (tgt := 5) (by decide +kernel) (by decide) ?_
      exact h
