set_option maxRecDepth 100000 in
set_option maxHeartbeats 4000000 in
theorem e_X13_inFour {l : Launch} {κ : mm_K} {d : Nat} {G : mm_G} {K : Int32 → mm_G → Prop} (a1 : Int32) (h : mV l κ true (d + 4) 0 0 m_X13_inFour 2 [some (.ref 226), some (.int a1), some (.int (nI 0)), none, none] [] G (rI K)) : mC l κ true (d + 4) 0 0 m_X13_inFour [.ref 226, .int a1] G (rI K) := by
  refine mC.of (by decide) (Nat.le_of_ble_eq_true rfl) [some (.ref 226), some (.int a1), none, none, none] rfl ?_
  refine mV_iconst (n := 0) (v := nI 0) (by decide +kernel) (by decide) ?_
  refine mV_istore_n (k := 2) (ls' := [some (.ref 226), some (.int a1), some (.int (nI 0)), none, none]) (by decide +kernel) (Nat.le_of_ble_eq_true rfl) rfl rfl ?_
  exact h
set_option maxRecDepth 100000 in
set_option maxHeartbeats 4000000 in
theorem p_X13_inFour_2 {l : Launch} {κ : mm_K} {d : Nat} {G : mm_G} {K : Int32 → mm_G → Prop} (v1 : Int32) (v2 : Int32) (h : vp_in (mg_i G 226 18) 2 ∧ (((mg_i G 249 ((mg_i G 226 18).toNatClampNeg)) ≤ v2 → K (nI 0) G) ∧ (¬ (mg_i G 249 ((mg_i G 226 18).toNatClampNeg)) ≤ v2 → mC l κ true (d + 3) 0 0 m_X13_splits [.ref 226, .int v1, .int v2] G (rI (fun r1 G2 => mV l κ true (d + 4) 0 0 m_X13_inFour 25 [some (.ref 226), some (.int v1), some (.int v2), some (.int r1), some (.int (nI 0))] [] G2 (rI K)))))) : mV l κ true (d + 4) 0 0 m_X13_inFour 2 [some (.ref 226), some (.int v1), some (.int v2), none, none] [] G (rI K) := by
  refine mV_iload_n (k := 2) (by decide +kernel) rfl ?_
  refine mV_aload_n (k := 0) (by decide +kernel) rfl ?_
  refine mV_gfr (r := some 249) (by decide +kernel) fk_13_85 sh_226 (mm_rrs st_226_35) rfl ?_
  refine mV_aload_n (k := 0) (by decide +kernel) rfl ?_
  refine mV_gfix (x := mg_i G 226 18) (by decide +kernel) fk_13_266 sh_226 rfl ?_
  refine mV_ialx (x := mg_i G 249 ((mg_i G 226 18).toNatClampNeg)) (by decide +kernel) sh_249 h.1 rfl ?_
  replace h := h.2
  refine mV_icmp_ge (off := 81) (tgt := 93) (by decide +kernel) (by decide) (fun hc => ?_) (fun hc => ?_)
  · replace h := h.1 hc
    refine mV_iconst (n := 0) (v := nI 0) (by decide +kernel) (by decide) ?_
    exact mV_zret (by decide +kernel) rfl (by decide) h
  · replace h := h.2 hc
    refine mV_aload_n (k := 0) (by decide +kernel) rfl ?_
    refine mV_iload_n (k := 1) (by decide +kernel) rfl ?_
    refine mV_iload_n (k := 2) (by decide +kernel) rfl ?_
    refine mV_cV (as := [.int v1, .int v2]) (rest := []) (mc1 := 0) (ms1 := 0) (mc := 0) (ms := 0) (by decide +kernel) md_X13_splits lk_13_522 sh_226 rfl rfl rfl (Nat.le_of_ble_eq_true rfl) (mC.mono (mm_contI (fun r1 G2 hK => ?_)) h)
    replace h := hK
    refine mV_istore_n (k := 3) (ls' := [some (.ref 226), some (.int v1), some (.int v2), some (.int r1), none]) (by decide +kernel) (Nat.le_of_ble_eq_true rfl) rfl rfl ?_
    refine mV_iconst (n := 0) (v := nI 0) (by decide +kernel) (by decide) ?_
    refine mV_istore (i := 4) (ls' := [some (.ref 226), some (.int v1), some (.int v2), some (.int r1), some (.int (nI 0))]) (by decide +kernel) (Nat.le_of_ble_eq_true rfl) rfl rfl ?_
    exact h
set_option maxRecDepth 100000 in
set_option maxHeartbeats 4000000 in
theorem p_X13_inFour_25 {l : Launch} {κ : mm_K} {d : Nat} {G : mm_G} {K : Int32 → mm_G → Prop} (v1 : Int32) (v2 : Int32) (v3 : Int32) (v4 : Int32) (h : (((mg_i G 226 72) ≤ v4 → ((v3 = 0 → mV l κ true (d + 4) 0 0 m_X13_inFour 2 [some (.ref 226), some (.int v1), some (.int (v2 + (nI 1))), none, none] [] G (rI K)) ∧ (¬ v3 = 0 → K (nI 1) G))) ∧ (¬ (mg_i G 226 72) ≤ v4 → ((v3 = 0 → ((v3 = 0 → mV l κ true (d + 4) 0 0 m_X13_inFour 2 [some (.ref 226), some (.int v1), some (.int (v2 + (nI 1))), none, none] [] G (rI K)) ∧ (¬ v3 = 0 → K (nI 1) G))) ∧ (¬ v3 = 0 → vp_in (((nI 140) * v2) + v4) 1120 ∧ ((¬ (mg_i G 273 ((((nI 140) * v2) + v4).toNatClampNeg)) = v4 → mV l κ true (d + 4) 0 0 m_X13_inFour 25 [some (.ref 226), some (.int v1), some (.int v2), some (.int v3), some (.int (v4 + (nI 1)))] [] G (rI K)) ∧ ((mg_i G 273 ((((nI 140) * v2) + v4).toNatClampNeg)) = v4 → mC l κ true (d + 3) 0 0 m_X13_parts [.ref 226, .int v1, .int v2, .int v4] G (rI (fun r1 G2 => ((r1 = 0 → mV l κ true (d + 4) 0 0 m_X13_inFour 25 [some (.ref 226), some (.int v1), some (.int v2), some (.int v3), some (.int (v4 + (nI 1)))] [] G2 (rI K)) ∧ (¬ r1 = 0 → mC l κ true (d + 3) 0 0 m_X13_inThree [.ref 226, .int (v1 + (nI 1))] G2 (rI (fun r3 G4 => mV l κ true (d + 4) 0 0 m_X13_inFour 25 [some (.ref 226), some (.int v1), some (.int v2), some (.int r3), some (.int (v4 + (nI 1)))] [] G4 (rI K)))))))))))))) : mV l κ true (d + 4) 0 0 m_X13_inFour 25 [some (.ref 226), some (.int v1), some (.int v2), some (.int v3), some (.int v4)] [] G (rI K) := by
  refine mV_iload (i := 4) (by decide +kernel) rfl ?_
  refine mV_aload_n (k := 0) (by decide +kernel) rfl ?_
  refine mV_gfix (x := mg_i G 226 72) (by decide +kernel) fk_13_498 sh_226 rfl ?_
  refine mV_icmp_ge (off := 50) (tgt := 81) (by decide +kernel) (by decide) (fun hc => ?_) (fun hc => ?_)
  · replace h := h.1 hc
    refine mV_iload_n (k := 3) (by decide +kernel) rfl ?_
    refine mV_if_eq (off := 5) (tgt := 87) (by decide +kernel) (by decide) (fun hc => ?_) (fun hc => ?_)
    · replace h := h.1 hc
      refine mV_iincc (i := 2) (n := 1) (c := nI 1) (ls' := [some (.ref 226), some (.int v1), some (.int (v2 + (nI 1))), some (.int v3), some (.int v4)]) (by decide +kernel) (by decide) rfl (Nat.le_of_ble_eq_true rfl) rfl rfl ?_
      refine mV_goto (off := -88) (tgt := 2) (by decide +kernel) (by decide) ?_
      refine mV_fg [3, 4] (ls' := [some (.ref 226), some (.int v1), some (.int (v2 + (nI 1))), none, none]) rfl ?_
      exact h
    · replace h := h.2 hc
      refine mV_iconst (n := 1) (v := nI 1) (by decide +kernel) (by decide) ?_
      exact mV_zret (by decide +kernel) rfl (by decide) h
  · replace h := h.2 hc
    refine mV_iload_n (k := 3) (by decide +kernel) rfl ?_
    refine mV_if_eq (off := 46) (tgt := 81) (by decide +kernel) (by decide) (fun hc => ?_) (fun hc => ?_)
    · replace h := h.1 hc
      refine mV_iload_n (k := 3) (by decide +kernel) rfl ?_
      refine mV_if_eq (off := 5) (tgt := 87) (by decide +kernel) (by decide) (fun hc => ?_) (fun hc => ?_)
      · replace h := h.1 hc
        refine mV_iincc (i := 2) (n := 1) (c := nI 1) (ls' := [some (.ref 226), some (.int v1), some (.int (v2 + (nI 1))), some (.int v3), some (.int v4)]) (by decide +kernel) (by decide) rfl (Nat.le_of_ble_eq_true rfl) rfl rfl ?_
        refine mV_goto (off := -88) (tgt := 2) (by decide +kernel) (by decide) ?_
        refine mV_fg [3, 4] (ls' := [some (.ref 226), some (.int v1), some (.int (v2 + (nI 1))), none, none]) rfl ?_
        exact h
      · replace h := h.2 hc
        refine mV_iconst (n := 1) (v := nI 1) (by decide +kernel) (by decide) ?_
        exact mV_zret (by decide +kernel) rfl (by decide) h
    · replace h := h.2 hc
      refine mV_aload_n (k := 0) (by decide +kernel) rfl ?_
      refine mV_gfr (r := some 273) (by decide +kernel) fk_13_158 sh_226 (mm_rrs st_226_73) rfl ?_
      refine mV_sipush (n := 140) (v := nI 140) (by decide +kernel) (by decide) ?_
      refine mV_iload_n (k := 2) (by decide +kernel) rfl ?_
      refine mV_imul (by decide +kernel) ?_
      refine mV_iload (i := 4) (by decide +kernel) rfl ?_
      refine mV_iadd (by decide +kernel) ?_
      refine mV_ialx (x := mg_i G 273 ((((nI 140) * v2) + v4).toNatClampNeg)) (by decide +kernel) sh_273 h.1 rfl ?_
      replace h := h.2
      refine mV_iload (i := 4) (by decide +kernel) rfl ?_
      refine mV_icmp_ne (off := 22) (tgt := 75) (by decide +kernel) (by decide) (fun hc => ?_) (fun hc => ?_)
      · replace h := h.1 hc
        refine mV_iincc (i := 4) (n := 1) (c := nI 1) (ls' := [some (.ref 226), some (.int v1), some (.int v2), some (.int v3), some (.int (v4 + (nI 1)))]) (by decide +kernel) (by decide) rfl (Nat.le_of_ble_eq_true rfl) rfl rfl ?_
        refine mV_goto (off := -53) (tgt := 25) (by decide +kernel) (by decide) ?_
        exact h
      · replace h := h.2 hc
        refine mV_aload_n (k := 0) (by decide +kernel) rfl ?_
        refine mV_iload_n (k := 1) (by decide +kernel) rfl ?_
        refine mV_iload_n (k := 2) (by decide +kernel) rfl ?_
        refine mV_iload (i := 4) (by decide +kernel) rfl ?_
        refine mV_cV (as := [.int v1, .int v2, .int v4]) (rest := []) (mc1 := 0) (ms1 := 0) (mc := 0) (ms := 0) (by decide +kernel) md_X13_parts lk_13_525 sh_226 rfl rfl rfl (Nat.le_of_ble_eq_true rfl) (mC.mono (mm_contI (fun r1 G2 hK => ?_)) h)
        replace h := hK
        refine mV_if_eq (off := 11) (tgt := 75) (by decide +kernel) (by decide) (fun hc => ?_) (fun hc => ?_)
        · replace h := h.1 hc
          refine mV_iincc (i := 4) (n := 1) (c := nI 1) (ls' := [some (.ref 226), some (.int v1), some (.int v2), some (.int v3), some (.int (v4 + (nI 1)))]) (by decide +kernel) (by decide) rfl (Nat.le_of_ble_eq_true rfl) rfl rfl ?_
          refine mV_goto (off := -53) (tgt := 25) (by decide +kernel) (by decide) ?_
          exact h
        · replace h := h.2 hc
          refine mV_aload_n (k := 0) (by decide +kernel) rfl ?_
          refine mV_iload_n (k := 1) (by decide +kernel) rfl ?_
          refine mV_iconst (n := 1) (v := nI 1) (by decide +kernel) (by decide) ?_
          refine mV_iadd (by decide +kernel) ?_
          refine mV_cV (as := [.int (v1 + (nI 1))]) (rest := []) (mc1 := 0) (ms1 := 0) (mc := 0) (ms := 0) (by decide +kernel) md_X13_inThree lk_13_534 sh_226 rfl rfl rfl (Nat.le_of_ble_eq_true rfl) (mC.mono (mm_contI (fun r3 G4 hK => ?_)) h)
          replace h := hK
          refine mV_istore_n (k := 3) (ls' := [some (.ref 226), some (.int v1), some (.int v2), some (.int r3), some (.int v4)]) (by decide +kernel) (Nat.le_of_ble_eq_true rfl) rfl rfl ?_
          refine mV_iincc (i := 4) (n := 1) (c := nI 1) (ls' := [some (.ref 226), some (.int v1), some (.int v2), some (.int r3), some (.int (v4 + (nI 1)))]) (by decide +kernel) (by decide) rfl (Nat.le_of_ble_eq_true rfl) rfl rfl ?_
          refine mV_goto (off := -53) (tgt := 25) (by decide +kernel) (by decide) ?_
          exact h
set_option maxRecDepth 100000 in
set_option maxHeartbeats 4000000 in
theorem e_X13_most {l : Launch} {κ : mm_K} {d : Nat} {G : mm_G} {K : Int32 → mm_G → Prop} (a1 : Int32) (a2 : Int32) (a3 : Int32) (h : mC l κ true (d + 6) 0 0 m_X13_canSuspect [.ref 226, .int a1, .int a2, .int a3] G (rI (fun r1 G2 => ((¬ r1 = 0 → mC l κ true (d + 6) 0 0 m_X13_fillSuspects [.ref 226, .int a1, .int a2, .int a3] G2 (rV (fun G4 => mC l κ true (d + 6) 0 0 m_X13_fillGroups [.ref 226, .int a1] G4 (rV (fun G6 => mV l κ true (d + 7) 0 0 m_X13_most 27 [some (.ref 226), some (.int a1), some (.int a2), some (.int a3), some (.int (nI 0))] [] G6 (rI K)))))) ∧ (r1 = 0 → K (-1) G2))))) : mC l κ true (d + 7) 0 0 m_X13_most [.ref 226, .int a1, .int a2, .int a3] G (rI K) := by
  refine mC.of (by decide) (Nat.le_of_ble_eq_true rfl) [some (.ref 226), some (.int a1), some (.int a2), some (.int a3), none] rfl ?_
  refine mV_aload_n (k := 0) (by decide +kernel) rfl ?_
  refine mV_iload_n (k := 1) (by decide +kernel) rfl ?_
  refine mV_iload_n (k := 2) (by decide +kernel) rfl ?_
  refine mV_iload_n (k := 3) (by decide +kernel) rfl ?_
  refine mV_cV (as := [.int a1, .int a2, .int a3]) (rest := []) (mc1 := 0) (ms1 := 0) (mc := 0) (ms := 0) (by decide +kernel) md_X13_canSuspect lk_13_504 sh_226 rfl rfl rfl (Nat.le_of_ble_eq_true rfl) (mC.mono (mm_contI (fun r1 G2 hK => ?_)) h)
  replace h := hK
  refine mV_if_ne (off := 5) (tgt := 12) (by decide +kernel) (by decide) (fun hc => ?_) (fun hc => ?_)
  · replace h := h.1 hc
    refine mV_aload_n (k := 0) (by decide +kernel) rfl ?_
    refine mV_iload_n (k := 1) (by decide +kernel) rfl ?_
    refine mV_iload_n (k := 2) (by decide +kernel) rfl ?_
    refine mV_iload_n (k := 3) (by decide +kernel) rfl ?_
    refine mV_cV (as := [.int a1, .int a2, .int a3]) (rest := []) (mc1 := 0) (ms1 := 0) (mc := 0) (ms := 0) (by decide +kernel) md_X13_fillSuspects lk_13_507 sh_226 rfl rfl rfl (Nat.le_of_ble_eq_true rfl) (mC.mono (mm_contV (fun G4 hK => ?_)) h)
    replace h := hK
    refine mV_aload_n (k := 0) (by decide +kernel) rfl ?_
    refine mV_iload_n (k := 1) (by decide +kernel) rfl ?_
    refine mV_cV (as := [.int a1]) (rest := []) (mc1 := 0) (ms1 := 0) (mc := 0) (ms := 0) (by decide +kernel) md_X13_fillGroups lk_13_513 sh_226 rfl rfl rfl (Nat.le_of_ble_eq_true rfl) (mC.mono (mm_contV (fun G6 hK => ?_)) h)
    replace h := hK
    refine mV_iconst (n := 0) (v := nI 0) (by decide +kernel) (by decide) ?_
    refine mV_istore (i := 4) (ls' := [some (.ref 226), some (.int a1), some (.int a2), some (.int a3), some (.int (nI 0))]) (by decide +kernel) (Nat.le_of_ble_eq_true rfl) rfl rfl ?_
    exact h
  · replace h := h.2 hc
    refine mV_iconst (n := -1) (v := (-1)) (by decide +kernel) (by decide) ?_
    exact mV_iret (by decide +kernel) rfl h
set_option maxRecDepth 100000 in
set_option maxHeartbeats 4000000 in
theorem p_X13_most_27 {l : Launch} {κ : mm_K} {d : Nat} {G : mm_G} {K : Int32 → mm_G → Prop} (v1 : Int32) (v2 : Int32) (v3 : Int32) (v4 : Int32) (h : (((mg_i G 226 72) ≤ v4 → mC l κ true (d + 6) 0 0 m_X13_isDone [.ref 226, .int (nI 0)] G (rI (fun r1 G2 => ((r1 = 0 → mC l κ true (d + 6) 0 0 m_X13_inOne [.ref 226, .int (nI 0)] G2 (rI (fun r3 G4 => ((r3 = 0 → mC l κ true (d + 6) 0 0 m_X13_inTwo [.ref 226, .int (nI 0)] G4 (rI (fun r5 G6 => ((r5 = 0 → mC l κ true (d + 6) 0 0 m_X13_inThree [.ref 226, .int (nI 0)] G6 (rI (fun r7 G8 => ((r7 = 0 → mC l κ true (d + 6) 0 0 m_X13_inFour [.ref 226, .int (nI 0)] G8 (rI (fun r9 G10 => ((r9 = 0 → K (-2) G10) ∧ (¬ r9 = 0 → K (nI 4) G10))))) ∧ (¬ r7 = 0 → K (nI 3) G8))))) ∧ (¬ r5 = 0 → K (nI 2) G6))))) ∧ (¬ r3 = 0 → K (nI 1) G4))))) ∧ (¬ r1 = 0 → K (nI 0) G2))))) ∧ (¬ (mg_i G 226 72) ≤ v4 → vp_in v4 700 ∧ mV l κ true (d + 7) 0 0 m_X13_most 27 [some (.ref 226), some (.int v1), some (.int v2), some (.int v3), some (.int (v4 + (nI 1)))] [] (ms_i G 277 v4.toNatClampNeg (vp_nar .boolean (nI 1))) (rI K)))) : mV l κ true (d + 7) 0 0 m_X13_most 27 [some (.ref 226), some (.int v1), some (.int v2), some (.int v3), some (.int v4)] [] G (rI K) := by
  refine mV_iload (i := 4) (by decide +kernel) rfl ?_
  refine mV_aload_n (k := 0) (by decide +kernel) rfl ?_
  refine mV_gfix (x := mg_i G 226 72) (by decide +kernel) fk_13_498 sh_226 rfl ?_
  refine mV_icmp_ge (off := 17) (tgt := 50) (by decide +kernel) (by decide) (fun hc => ?_) (fun hc => ?_)
  · replace h := h.1 hc
    refine mV_aload_n (k := 0) (by decide +kernel) rfl ?_
    refine mV_iconst (n := 0) (v := nI 0) (by decide +kernel) (by decide) ?_
    refine mV_cV (as := [.int (nI 0)]) (rest := []) (mc1 := 0) (ms1 := 0) (mc := 0) (ms := 0) (by decide +kernel) md_X13_isDone lk_13_519 sh_226 rfl rfl rfl (Nat.le_of_ble_eq_true rfl) (mC.mono (mm_contI (fun r1 G2 hK => ?_)) h)
    replace h := hK
    refine mV_if_eq (off := 5) (tgt := 60) (by decide +kernel) (by decide) (fun hc => ?_) (fun hc => ?_)
    · replace h := h.1 hc
      refine mV_aload_n (k := 0) (by decide +kernel) rfl ?_
      refine mV_iconst (n := 0) (v := nI 0) (by decide +kernel) (by decide) ?_
      refine mV_cV (as := [.int (nI 0)]) (rest := []) (mc1 := 0) (ms1 := 0) (mc := 0) (ms := 0) (by decide +kernel) md_X13_inOne lk_13_528 sh_226 rfl rfl rfl (Nat.le_of_ble_eq_true rfl) (mC.mono (mm_contI (fun r3 G4 hK => ?_)) h)
      replace h := hK
      refine mV_if_eq (off := 5) (tgt := 70) (by decide +kernel) (by decide) (fun hc => ?_) (fun hc => ?_)
      · replace h := h.1 hc
        refine mV_aload_n (k := 0) (by decide +kernel) rfl ?_
        refine mV_iconst (n := 0) (v := nI 0) (by decide +kernel) (by decide) ?_
        refine mV_cV (as := [.int (nI 0)]) (rest := []) (mc1 := 0) (ms1 := 0) (mc := 0) (ms := 0) (by decide +kernel) md_X13_inTwo lk_13_531 sh_226 rfl rfl rfl (Nat.le_of_ble_eq_true rfl) (mC.mono (mm_contI (fun r5 G6 hK => ?_)) h)
        replace h := hK
        refine mV_if_eq (off := 5) (tgt := 80) (by decide +kernel) (by decide) (fun hc => ?_) (fun hc => ?_)
        · replace h := h.1 hc
          refine mV_aload_n (k := 0) (by decide +kernel) rfl ?_
          refine mV_iconst (n := 0) (v := nI 0) (by decide +kernel) (by decide) ?_
          refine mV_cV (as := [.int (nI 0)]) (rest := []) (mc1 := 0) (ms1 := 0) (mc := 0) (ms := 0) (by decide +kernel) md_X13_inThree lk_13_534 sh_226 rfl rfl rfl (Nat.le_of_ble_eq_true rfl) (mC.mono (mm_contI (fun r7 G8 hK => ?_)) h)
          replace h := hK
          refine mV_if_eq (off := 5) (tgt := 90) (by decide +kernel) (by decide) (fun hc => ?_) (fun hc => ?_)
          · replace h := h.1 hc
            refine mV_aload_n (k := 0) (by decide +kernel) rfl ?_
            refine mV_iconst (n := 0) (v := nI 0) (by decide +kernel) (by decide) ?_
            refine mV_cV (as := [.int (nI 0)]) (rest := []) (mc1 := 0) (ms1 := 0) (mc := 0) (ms := 0) (by decide +kernel) md_X13_inFour lk_13_537 sh_226 rfl rfl rfl (Nat.le_of_ble_eq_true rfl) (mC.mono (mm_contI (fun r9 G10 hK => ?_)) h)
            replace h := hK
            refine mV_if_eq (off := 7) (tgt := 102) (by decide +kernel) (by decide) (fun hc => ?_) (fun hc => ?_)
            · replace h := h.1 hc
              refine mV_bipush (n := -2) (v := (-2)) (by decide +kernel) (by decide) ?_
              exact mV_iret (by decide +kernel) rfl h
            · replace h := h.2 hc
              refine mV_iconst (n := 4) (v := nI 4) (by decide +kernel) (by decide) ?_
              refine mV_goto (off := 5) (tgt := 104) (by decide +kernel) (by decide) ?_
              exact mV_iret (by decide +kernel) rfl h
          · replace h := h.2 hc
            refine mV_iconst (n := 3) (v := nI 3) (by decide +kernel) (by decide) ?_
            exact mV_iret (by decide +kernel) rfl h
        · replace h := h.2 hc
          refine mV_iconst (n := 2) (v := nI 2) (by decide +kernel) (by decide) ?_
          exact mV_iret (by decide +kernel) rfl h
      · replace h := h.2 hc
        refine mV_iconst (n := 1) (v := nI 1) (by decide +kernel) (by decide) ?_
        exact mV_iret (by decide +kernel) rfl h
    · replace h := h.2 hc
      refine mV_iconst (n := 0) (v := nI 0) (by decide +kernel) (by decide) ?_
      exact mV_iret (by decide +kernel) rfl h
  · replace h := h.2 hc
    refine mV_aload_n (k := 0) (by decide +kernel) rfl ?_
    refine mV_gfr (r := some 277) (by decide +kernel) fk_13_170 sh_226 (mm_rrs st_226_77) rfl ?_
    refine mV_iload (i := 4) (by decide +kernel) rfl ?_
    refine mV_iconst (n := 1) (v := nI 1) (by decide +kernel) (by decide) ?_
    refine mV_zas (by decide +kernel) sh_277 h.1 ?_
    replace h := h.2
    refine mV_iincc (i := 4) (n := 1) (c := nI 1) (ls' := [some (.ref 226), some (.int v1), some (.int v2), some (.int v3), some (.int (v4 + (nI 1)))]) (by decide +kernel) (by decide) rfl (Nat.le_of_ble_eq_true rfl) rfl rfl ?_
    refine mV_goto (off := -20) (tgt := 27) (by decide +kernel) (by decide) ?_
    exact h
set_option maxRecDepth 100000 in
set_option maxHeartbeats 4000000 in
theorem e_X13_copiesArea {l : Launch} {κ : mm_K} {d : Nat} {G : mm_G} {K : mm_G → Prop} (a1 : Int32) (a2 : Int32) (h : vp_in a1 5 ∧ vp_in a2 5 ∧ mV l κ true (d + 1) 0 0 m_X13_copiesArea 14 [some (.ref 226), some (.int a1), some (.int a2), some (.int (nI 0))] [] (ms_i G 234 a2.toNatClampNeg (mg_i G 234 a1.toNatClampNeg)) (rV K)) : mC l κ true (d + 1) 0 0 m_X13_copiesArea [.ref 226, .int a1, .int a2] G (rV K) := by
  refine mC.of (by decide) (Nat.le_of_ble_eq_true rfl) [some (.ref 226), some (.int a1), some (.int a2), none] rfl ?_
  refine mV_aload_n (k := 0) (by decide +kernel) rfl ?_
  refine mV_gfr (r := some 234) (by decide +kernel) fk_13_40 sh_226 (mm_rrs st_226_20) rfl ?_
  refine mV_iload_n (k := 2) (by decide +kernel) rfl ?_
  refine mV_aload_n (k := 0) (by decide +kernel) rfl ?_
  refine mV_gfr (r := some 234) (by decide +kernel) fk_13_40 sh_226 (mm_rrs st_226_20) rfl ?_
  refine mV_iload_n (k := 1) (by decide +kernel) rfl ?_
  refine mV_ialx (x := mg_i G 234 a1.toNatClampNeg) (by decide +kernel) sh_234 h.1 rfl ?_
  replace h := h.2
  refine mV_ias (by decide +kernel) sh_234 h.1 ?_
  replace h := h.2
  refine mV_iconst (n := 0) (v := nI 0) (by decide +kernel) (by decide) ?_
  refine mV_istore_n (k := 3) (ls' := [some (.ref 226), some (.int a1), some (.int a2), some (.int (nI 0))]) (by decide +kernel) (Nat.le_of_ble_eq_true rfl) rfl rfl ?_
  exact h
set_option maxRecDepth 100000 in
set_option maxHeartbeats 4000000 in
theorem p_X13_copiesArea_14 {l : Launch} {κ : mm_K} {d : Nat} {G : mm_G} {K : mm_G → Prop} (v1 : Int32) (v2 : Int32) (v3 : Int32) (h : (((nI 4) ≤ v3 → mV l κ true (d + 1) 0 0 m_X13_copiesArea 67 [some (.ref 226), some (.int v1), some (.int v2), some (.int (nI 0))] [] G (rV K)) ∧ (¬ (nI 4) ≤ v3 → vp_in (((nI 4) * v1) + v3) 20 ∧ vp_in (((nI 4) * v2) + v3) 20 ∧ vp_in (((nI 4) * v1) + v3) 20 ∧ vp_in (((nI 4) * v2) + v3) 20 ∧ mV l κ true (d + 1) 0 0 m_X13_copiesArea 14 [some (.ref 226), some (.int v1), some (.int v2), some (.int (v3 + (nI 1)))] [] (ms_i (ms_l G 235 ((((nI 4) * v2) + v3).toNatClampNeg) (mg_l G 235 ((((nI 4) * v1) + v3).toNatClampNeg))) 236 ((((nI 4) * v2) + v3).toNatClampNeg) (mg_i G 236 ((((nI 4) * v1) + v3).toNatClampNeg))) (rV K)))) : mV l κ true (d + 1) 0 0 m_X13_copiesArea 14 [some (.ref 226), some (.int v1), some (.int v2), some (.int v3)] [] G (rV K) := by
  refine mV_iload_n (k := 3) (by decide +kernel) rfl ?_
  refine mV_iconst (n := 4) (v := nI 4) (by decide +kernel) (by decide) ?_
  refine mV_icmp_ge (off := 49) (tgt := 65) (by decide +kernel) (by decide) (fun hc => ?_) (fun hc => ?_)
  · replace h := h.1 hc
    refine mV_iconst (n := 0) (v := nI 0) (by decide +kernel) (by decide) ?_
    refine mV_istore_n (k := 3) (ls' := [some (.ref 226), some (.int v1), some (.int v2), some (.int (nI 0))]) (by decide +kernel) (Nat.le_of_ble_eq_true rfl) rfl rfl ?_
    exact h
  · replace h := h.2 hc
    refine mV_aload_n (k := 0) (by decide +kernel) rfl ?_
    refine mV_gfr (r := some 235) (by decide +kernel) fk_13_43 sh_226 (mm_rrs st_226_21) rfl ?_
    refine mV_iconst (n := 4) (v := nI 4) (by decide +kernel) (by decide) ?_
    refine mV_iload_n (k := 2) (by decide +kernel) rfl ?_
    refine mV_imul (by decide +kernel) ?_
    refine mV_iload_n (k := 3) (by decide +kernel) rfl ?_
    refine mV_iadd (by decide +kernel) ?_
    refine mV_aload_n (k := 0) (by decide +kernel) rfl ?_
    refine mV_gfr (r := some 235) (by decide +kernel) fk_13_43 sh_226 (mm_rrs st_226_21) rfl ?_
    refine mV_iconst (n := 4) (v := nI 4) (by decide +kernel) (by decide) ?_
    refine mV_iload_n (k := 1) (by decide +kernel) rfl ?_
    refine mV_imul (by decide +kernel) ?_
    refine mV_iload_n (k := 3) (by decide +kernel) rfl ?_
    refine mV_iadd (by decide +kernel) ?_
    refine mV_lalx (x := mg_l G 235 ((((nI 4) * v1) + v3).toNatClampNeg)) (by decide +kernel) sh_235 h.1 rfl ?_
    replace h := h.2
    refine mV_las (by decide +kernel) sh_235 h.1 ?_
    replace h := h.2
    refine mV_aload_n (k := 0) (by decide +kernel) rfl ?_
    refine mV_gfr (r := some 236) (by decide +kernel) fk_13_46 sh_226 (mm_rrs st_226_22) rfl ?_
    refine mV_iconst (n := 4) (v := nI 4) (by decide +kernel) (by decide) ?_
    refine mV_iload_n (k := 2) (by decide +kernel) rfl ?_
    refine mV_imul (by decide +kernel) ?_
    refine mV_iload_n (k := 3) (by decide +kernel) rfl ?_
    refine mV_iadd (by decide +kernel) ?_
    refine mV_aload_n (k := 0) (by decide +kernel) rfl ?_
    refine mV_gfr (r := some 236) (by decide +kernel) fk_13_46 sh_226 (mm_rrs st_226_22) rfl ?_
    refine mV_iconst (n := 4) (v := nI 4) (by decide +kernel) (by decide) ?_
    refine mV_iload_n (k := 1) (by decide +kernel) rfl ?_
    refine mV_imul (by decide +kernel) ?_
    refine mV_iload_n (k := 3) (by decide +kernel) rfl ?_
    refine mV_iadd (by decide +kernel) ?_
    refine mV_ialx (x := mg_i G 236 ((((nI 4) * v1) + v3).toNatClampNeg)) (by decide +kernel) sh_236 h.1 rfl ?_
    replace h := h.2
    refine mV_ias (by decide +kernel) sh_236 h.1 ?_
    replace h := h.2
    refine mV_iincc (i := 3) (n := 1) (c := nI 1) (ls' := [some (.ref 226), some (.int v1), some (.int v2), some (.int (v3 + (nI 1)))]) (by decide +kernel) (by decide) rfl (Nat.le_of_ble_eq_true rfl) rfl rfl ?_
    refine mV_goto (off := -48) (tgt := 14) (by decide +kernel) (by decide) ?_
    exact h
set_option maxRecDepth 100000 in
set_option maxHeartbeats 4000000 in
theorem p_X13_copiesArea_67 {l : Launch} {κ : mm_K} {d : Nat} {G : mm_G} {K : mm_G → Prop} (v1 : Int32) (v2 : Int32) (v3 : Int32) (h : (((nI 64) ≤ v3 → K G) ∧ (¬ (nI 64) ≤ v3 → mC l κ true d 0 0 m_X13_copiesLine [.ref 226, .int (((nI 64) * v1) + v3), .int (((nI 64) * v2) + v3)] G (rV (fun G2 => mV l κ true (d + 1) 0 0 m_X13_copiesArea 67 [some (.ref 226), some (.int v1), some (.int v2), some (.int (v3 + (nI 1)))] [] G2 (rV K)))))) : mV l κ true (d + 1) 0 0 m_X13_copiesArea 67 [some (.ref 226), some (.int v1), some (.int v2), some (.int v3)] [] G (rV K) := by
  refine mV_iload_n (k := 3) (by decide +kernel) rfl ?_
  refine mV_bipush (n := 64) (v := nI 64) (by decide +kernel) (by decide) ?_
  refine mV_icmp_ge (off := 25) (tgt := 95) (by decide +kernel) (by decide) (fun hc => ?_) (fun hc => ?_)
  · replace h := h.1 hc
    exact mV_vret (by decide +kernel) rfl h
  · replace h := h.2 hc
    refine mV_aload_n (k := 0) (by decide +kernel) rfl ?_
    refine mV_bipush (n := 64) (v := nI 64) (by decide +kernel) (by decide) ?_
    refine mV_iload_n (k := 1) (by decide +kernel) rfl ?_
    refine mV_imul (by decide +kernel) ?_
    refine mV_iload_n (k := 3) (by decide +kernel) rfl ?_
    refine mV_iadd (by decide +kernel) ?_
    refine mV_bipush (n := 64) (v := nI 64) (by decide +kernel) (by decide) ?_
    refine mV_iload_n (k := 2) (by decide +kernel) rfl ?_
    refine mV_imul (by decide +kernel) ?_
    refine mV_iload_n (k := 3) (by decide +kernel) rfl ?_
    refine mV_iadd (by decide +kernel) ?_
    refine mV_cV (as := [.int (((nI 64) * v1) + v3), .int (((nI 64) * v2) + v3)]) (rest := []) (mc1 := 0) (ms1 := 0) (mc := 0) (ms := 0) (by decide +kernel) md_X13_copiesLine lk_13_489 sh_226 rfl rfl rfl (Nat.le_of_ble_eq_true rfl) (mC.mono (mm_contV (fun G2 hK => ?_)) h)
    replace h := hK
    refine mV_iincc (i := 3) (n := 1) (c := nI 1) (ls' := [some (.ref 226), some (.int v1), some (.int v2), some (.int (v3 + (nI 1)))]) (by decide +kernel) (by decide) rfl (Nat.le_of_ble_eq_true rfl) rfl rfl ?_
    refine mV_goto (off := -25) (tgt := 67) (by decide +kernel) (by decide) ?_
    exact h
set_option maxRecDepth 100000 in
set_option maxHeartbeats 4000000 in
theorem e_X13_hold {l : Launch} {κ : mm_K} {d : Nat} {G : mm_G} {K : Int32 → mm_G → Prop} (a1 : Int32) (h : mC l κ true (d + 1) 0 0 m_X13_in [.int a1, .int (nI 0), .int (nI 2)] G (rI (fun r1 G2 => ((¬ r1 = 0 → vp_in a1 3 ∧ mC l κ true (d + 1) 0 0 m_X13_copiesArea [.ref 226, .int (mg_i G2 226 18), .int ((nI 2) + a1)] (ms_i G2 278 a1.toNatClampNeg (vp_nar .boolean (nI 1))) (rV (fun G4 => vp_in a1 3 ∧ vp_in a1 3 ∧ mV l κ true (d + 2) 0 0 m_X13_hold 51 [some (.ref 226), some (.int a1), some (.int (nI 0))] [] (ms_i (ms_i G4 279 a1.toNatClampNeg (mg_i G4 226 65)) 280 a1.toNatClampNeg (mg_i G4 226 66)) (rI K)))) ∧ (r1 = 0 → K (nI 0) G2))))) : mC l κ true (d + 2) 0 0 m_X13_hold [.ref 226, .int a1] G (rI K) := by
  refine mC.of (by decide) (Nat.le_of_ble_eq_true rfl) [some (.ref 226), some (.int a1), none] rfl ?_
  refine mV_iload_n (k := 1) (by decide +kernel) rfl ?_
  refine mV_iconst (n := 0) (v := nI 0) (by decide +kernel) (by decide) ?_
  refine mV_iconst (n := 2) (v := nI 2) (by decide +kernel) (by decide) ?_
  refine mV_cS (as := [.int a1, .int (nI 0), .int (nI 2)]) (rest := []) (mc1 := 0) (ms1 := 0) (mc := 0) (ms := 0) (by decide +kernel) md_X13_in lk_13_399 rfl rfl (Nat.le_of_ble_eq_true rfl) (mC.mono (mm_contI (fun r1 G2 hK => ?_)) h)
  replace h := hK
  refine mV_if_ne (off := 5) (tgt := 11) (by decide +kernel) (by decide) (fun hc => ?_) (fun hc => ?_)
  · replace h := h.1 hc
    refine mV_aload_n (k := 0) (by decide +kernel) rfl ?_
    refine mV_gfr (r := some 278) (by decide +kernel) fk_13_173 sh_226 (mm_rrs st_226_78) rfl ?_
    refine mV_iload_n (k := 1) (by decide +kernel) rfl ?_
    refine mV_iconst (n := 1) (v := nI 1) (by decide +kernel) (by decide) ?_
    refine mV_zas (by decide +kernel) sh_278 h.1 ?_
    replace h := h.2
    refine mV_aload_n (k := 0) (by decide +kernel) rfl ?_
    refine mV_aload_n (k := 0) (by decide +kernel) rfl ?_
    refine mV_gfix (x := mg_i G2 226 18) (by decide +kernel) fk_13_266 sh_226 rfl ?_
    refine mV_iconst (n := 2) (v := nI 2) (by decide +kernel) (by decide) ?_
    refine mV_iload_n (k := 1) (by decide +kernel) rfl ?_
    refine mV_iadd (by decide +kernel) ?_
    refine mV_cV (as := [.int (mg_i G2 226 18), .int ((nI 2) + a1)]) (rest := []) (mc1 := 0) (ms1 := 0) (mc := 0) (ms := 0) (by decide +kernel) md_X13_copiesArea lk_13_540 sh_226 rfl rfl rfl (Nat.le_of_ble_eq_true rfl) (mC.mono (mm_contV (fun G4 hK => ?_)) h)
    replace h := hK
    refine mV_aload_n (k := 0) (by decide +kernel) rfl ?_
    refine mV_gfr (r := some 279) (by decide +kernel) fk_13_176 sh_226 (mm_rrs st_226_79) rfl ?_
    refine mV_iload_n (k := 1) (by decide +kernel) rfl ?_
    refine mV_aload_n (k := 0) (by decide +kernel) rfl ?_
    refine mV_gfix (x := mg_i G4 226 65) (by decide +kernel) fk_13_275 sh_226 rfl ?_
    refine mV_ias (by decide +kernel) sh_279 h.1 ?_
    replace h := h.2
    refine mV_aload_n (k := 0) (by decide +kernel) rfl ?_
    refine mV_gfr (r := some 280) (by decide +kernel) fk_13_179 sh_226 (mm_rrs st_226_80) rfl ?_
    refine mV_iload_n (k := 1) (by decide +kernel) rfl ?_
    refine mV_aload_n (k := 0) (by decide +kernel) rfl ?_
    refine mV_gfix (x := mg_i G4 226 66) (by decide +kernel) fk_13_492 sh_226 rfl ?_
    refine mV_ias (by decide +kernel) sh_280 h.1 ?_
    replace h := h.2
    refine mV_iconst (n := 0) (v := nI 0) (by decide +kernel) (by decide) ?_
    refine mV_istore_n (k := 2) (ls' := [some (.ref 226), some (.int a1), some (.int (nI 0))]) (by decide +kernel) (Nat.le_of_ble_eq_true rfl) rfl rfl ?_
    exact h
  · replace h := h.2 hc
    refine mV_iconst (n := 0) (v := nI 0) (by decide +kernel) (by decide) ?_
    exact mV_zret (by decide +kernel) rfl (by decide) h
set_option maxRecDepth 100000 in
set_option maxHeartbeats 4000000 in
theorem p_X13_hold_51 {l : Launch} {κ : mm_K} {d : Nat} {G : mm_G} {K : Int32 → mm_G → Prop} (v1 : Int32) (v2 : Int32) (h : (((nI 20) ≤ v2 → mV l κ true (d + 2) 0 0 m_X13_hold 116 [some (.ref 226), some (.int v1), some (.int (nI 0))] [] G (rI K)) ∧ (¬ (nI 20) ≤ v2 → vp_in v2 20 ∧ vp_in (((nI 20) * v1) + v2) 60 ∧ vp_in v2 20 ∧ vp_in (((nI 20) * v1) + v2) 60 ∧ vp_in v2 20 ∧ vp_in (((nI 20) * v1) + v2) 60 ∧ mV l κ true (d + 2) 0 0 m_X13_hold 51 [some (.ref 226), some (.int v1), some (.int (v2 + (nI 1)))] [] (ms_i (ms_i (ms_i G 281 ((((nI 20) * v1) + v2).toNatClampNeg) (mg_i G 268 v2.toNatClampNeg)) 282 ((((nI 20) * v1) + v2).toNatClampNeg) (mg_i G 269 v2.toNatClampNeg)) 283 ((((nI 20) * v1) + v2).toNatClampNeg) (mg_i G 270 v2.toNatClampNeg)) (rI K)))) : mV l κ true (d + 2) 0 0 m_X13_hold 51 [some (.ref 226), some (.int v1), some (.int v2)] [] G (rI K) := by
  refine mV_iload_n (k := 2) (by decide +kernel) rfl ?_
  refine mV_bipush (n := 20) (v := nI 20) (by decide +kernel) (by decide) ?_
  refine mV_icmp_ge (off := 60) (tgt := 114) (by decide +kernel) (by decide) (fun hc => ?_) (fun hc => ?_)
  · replace h := h.1 hc
    refine mV_iconst (n := 0) (v := nI 0) (by decide +kernel) (by decide) ?_
    refine mV_istore_n (k := 2) (ls' := [some (.ref 226), some (.int v1), some (.int (nI 0))]) (by decide +kernel) (Nat.le_of_ble_eq_true rfl) rfl rfl ?_
    exact h
  · replace h := h.2 hc
    refine mV_aload_n (k := 0) (by decide +kernel) rfl ?_
    refine mV_gfr (r := some 281) (by decide +kernel) fk_13_182 sh_226 (mm_rrs st_226_81) rfl ?_
    refine mV_bipush (n := 20) (v := nI 20) (by decide +kernel) (by decide) ?_
    refine mV_iload_n (k := 1) (by decide +kernel) rfl ?_
    refine mV_imul (by decide +kernel) ?_
    refine mV_iload_n (k := 2) (by decide +kernel) rfl ?_
    refine mV_iadd (by decide +kernel) ?_
    refine mV_aload_n (k := 0) (by decide +kernel) rfl ?_
    refine mV_gfr (r := some 268) (by decide +kernel) fk_13_143 sh_226 (mm_rrs st_226_67) rfl ?_
    refine mV_iload_n (k := 2) (by decide +kernel) rfl ?_
    refine mV_ialx (x := mg_i G 268 v2.toNatClampNeg) (by decide +kernel) sh_268 h.1 rfl ?_
    replace h := h.2
    refine mV_ias (by decide +kernel) sh_281 h.1 ?_
    replace h := h.2
    refine mV_aload_n (k := 0) (by decide +kernel) rfl ?_
    refine mV_gfr (r := some 282) (by decide +kernel) fk_13_185 sh_226 (mm_rrs st_226_82) rfl ?_
    refine mV_bipush (n := 20) (v := nI 20) (by decide +kernel) (by decide) ?_
    refine mV_iload_n (k := 1) (by decide +kernel) rfl ?_
    refine mV_imul (by decide +kernel) ?_
    refine mV_iload_n (k := 2) (by decide +kernel) rfl ?_
    refine mV_iadd (by decide +kernel) ?_
    refine mV_aload_n (k := 0) (by decide +kernel) rfl ?_
    refine mV_gfr (r := some 269) (by decide +kernel) fk_13_146 sh_226 (mm_rrs st_226_68) rfl ?_
    refine mV_iload_n (k := 2) (by decide +kernel) rfl ?_
    refine mV_ialx (x := mg_i G 269 v2.toNatClampNeg) (by decide +kernel) sh_269 h.1 rfl ?_
    replace h := h.2
    refine mV_ias (by decide +kernel) sh_282 h.1 ?_
    replace h := h.2
    refine mV_aload_n (k := 0) (by decide +kernel) rfl ?_
    refine mV_gfr (r := some 283) (by decide +kernel) fk_13_188 sh_226 (mm_rrs st_226_83) rfl ?_
    refine mV_bipush (n := 20) (v := nI 20) (by decide +kernel) (by decide) ?_
    refine mV_iload_n (k := 1) (by decide +kernel) rfl ?_
    refine mV_imul (by decide +kernel) ?_
    refine mV_iload_n (k := 2) (by decide +kernel) rfl ?_
    refine mV_iadd (by decide +kernel) ?_
    refine mV_aload_n (k := 0) (by decide +kernel) rfl ?_
    refine mV_gfr (r := some 270) (by decide +kernel) fk_13_149 sh_226 (mm_rrs st_226_69) rfl ?_
    refine mV_iload_n (k := 2) (by decide +kernel) rfl ?_
    refine mV_ialx (x := mg_i G 270 v2.toNatClampNeg) (by decide +kernel) sh_270 h.1 rfl ?_
    replace h := h.2
    refine mV_ias (by decide +kernel) sh_283 h.1 ?_
    replace h := h.2
    refine mV_iincc (i := 2) (n := 1) (c := nI 1) (ls' := [some (.ref 226), some (.int v1), some (.int (v2 + (nI 1)))]) (by decide +kernel) (by decide) rfl (Nat.le_of_ble_eq_true rfl) rfl rfl ?_
    refine mV_goto (off := -60) (tgt := 51) (by decide +kernel) (by decide) ?_
    exact h
set_option maxRecDepth 100000 in
set_option maxHeartbeats 4000000 in
theorem p_X13_hold_116 {l : Launch} {κ : mm_K} {d : Nat} {G : mm_G} {K : Int32 → mm_G → Prop} (v1 : Int32) (v2 : Int32) (h : (((nI 160) ≤ v2 → K (nI 1) G) ∧ (¬ (nI 160) ≤ v2 → vp_in v2 160 ∧ vp_in (((nI 160) * v1) + v2) 480 ∧ mV l κ true (d + 2) 0 0 m_X13_hold 116 [some (.ref 226), some (.int v1), some (.int (v2 + (nI 1)))] [] (ms_i G 284 ((((nI 160) * v1) + v2).toNatClampNeg) (mg_i G 271 v2.toNatClampNeg)) (rI K)))) : mV l κ true (d + 2) 0 0 m_X13_hold 116 [some (.ref 226), some (.int v1), some (.int v2)] [] G (rI K) := by
  refine mV_iload_n (k := 2) (by decide +kernel) rfl ?_
  refine mV_sipush (n := 160) (v := nI 160) (by decide +kernel) (by decide) ?_
  refine mV_icmp_ge (off := 27) (tgt := 147) (by decide +kernel) (by decide) (fun hc => ?_) (fun hc => ?_)
  · replace h := h.1 hc
    refine mV_iconst (n := 1) (v := nI 1) (by decide +kernel) (by decide) ?_
    exact mV_zret (by decide +kernel) rfl (by decide) h
  · replace h := h.2 hc
    refine mV_aload_n (k := 0) (by decide +kernel) rfl ?_
    refine mV_gfr (r := some 284) (by decide +kernel) fk_13_191 sh_226 (mm_rrs st_226_84) rfl ?_
    refine mV_sipush (n := 160) (v := nI 160) (by decide +kernel) (by decide) ?_
    refine mV_iload_n (k := 1) (by decide +kernel) rfl ?_
    refine mV_imul (by decide +kernel) ?_
    refine mV_iload_n (k := 2) (by decide +kernel) rfl ?_
    refine mV_iadd (by decide +kernel) ?_
    refine mV_aload_n (k := 0) (by decide +kernel) rfl ?_
    refine mV_gfr (r := some 271) (by decide +kernel) fk_13_152 sh_226 (mm_rrs st_226_70) rfl ?_
    refine mV_iload_n (k := 2) (by decide +kernel) rfl ?_
    refine mV_ialx (x := mg_i G 271 v2.toNatClampNeg) (by decide +kernel) sh_271 h.1 rfl ?_
    replace h := h.2
    refine mV_ias (by decide +kernel) sh_284 h.1 ?_
    replace h := h.2
    refine mV_iincc (i := 2) (n := 1) (c := nI 1) (ls' := [some (.ref 226), some (.int v1), some (.int (v2 + (nI 1)))]) (by decide +kernel) (by decide) rfl (Nat.le_of_ble_eq_true rfl) rfl rfl ?_
    refine mV_goto (off := -28) (tgt := 116) (by decide +kernel) (by decide) ?_
    exact h
set_option maxRecDepth 100000 in
set_option maxHeartbeats 4000000 in
theorem e_X13_restore {l : Launch} {κ : mm_K} {d : Nat} {G : mm_G} {K : Int32 → mm_G → Prop} (a1 : Int32) (h : mC l κ true (d + 1) 0 0 m_X13_in [.int a1, .int (nI 0), .int (nI 2)] G (rI (fun r1 G2 => ((r1 = 0 → K (nI 0) G2) ∧ (¬ r1 = 0 → vp_in a1 3 ∧ ((¬ (mg_i G2 278 a1.toNatClampNeg) = 0 → mC l κ true (d + 1) 0 0 m_X13_copiesArea [.ref 226, .int ((nI 2) + a1), .int (mg_i G2 226 18)] G2 (rV (fun G4 => vp_in a1 3 ∧ vp_in a1 3 ∧ mV l κ true (d + 2) 0 0 m_X13_restore 53 [some (.ref 226), some (.int a1), some (.int (nI 0))] [] (ms_i (ms_i G4 226 65 (mg_i G4 279 a1.toNatClampNeg)) 226 66 (mg_i G4 280 a1.toNatClampNeg)) (rI K)))) ∧ ((mg_i G2 278 a1.toNatClampNeg) = 0 → K (nI 0) G2))))))) : mC l κ true (d + 2) 0 0 m_X13_restore [.ref 226, .int a1] G (rI K) := by
  refine mC.of (by decide) (Nat.le_of_ble_eq_true rfl) [some (.ref 226), some (.int a1), none] rfl ?_
  refine mV_iload_n (k := 1) (by decide +kernel) rfl ?_
  refine mV_iconst (n := 0) (v := nI 0) (by decide +kernel) (by decide) ?_
  refine mV_iconst (n := 2) (v := nI 2) (by decide +kernel) (by decide) ?_
  refine mV_cS (as := [.int a1, .int (nI 0), .int (nI 2)]) (rest := []) (mc1 := 0) (ms1 := 0) (mc := 0) (ms := 0) (by decide +kernel) md_X13_in lk_13_399 rfl rfl (Nat.le_of_ble_eq_true rfl) (mC.mono (mm_contI (fun r1 G2 hK => ?_)) h)
  replace h := hK
  refine mV_if_eq (off := 12) (tgt := 18) (by decide +kernel) (by decide) (fun hc => ?_) (fun hc => ?_)
  · replace h := h.1 hc
    refine mV_iconst (n := 0) (v := nI 0) (by decide +kernel) (by decide) ?_
    exact mV_zret (by decide +kernel) rfl (by decide) h
  · replace h := h.2 hc
    refine mV_aload_n (k := 0) (by decide +kernel) rfl ?_
    refine mV_gfr (r := some 278) (by decide +kernel) fk_13_173 sh_226 (mm_rrs st_226_78) rfl ?_
    refine mV_iload_n (k := 1) (by decide +kernel) rfl ?_
    refine mV_zalx (x := mg_i G2 278 a1.toNatClampNeg) (by decide +kernel) sh_278 h.1 rfl ?_
    replace h := h.2
    refine mV_if_ne (off := 5) (tgt := 20) (by decide +kernel) (by decide) (fun hc => ?_) (fun hc => ?_)
    · replace h := h.1 hc
      refine mV_aload_n (k := 0) (by decide +kernel) rfl ?_
      refine mV_iconst (n := 2) (v := nI 2) (by decide +kernel) (by decide) ?_
      refine mV_iload_n (k := 1) (by decide +kernel) rfl ?_
      refine mV_iadd (by decide +kernel) ?_
      refine mV_aload_n (k := 0) (by decide +kernel) rfl ?_
      refine mV_gfix (x := mg_i G2 226 18) (by decide +kernel) fk_13_266 sh_226 rfl ?_
      refine mV_cV (as := [.int ((nI 2) + a1), .int (mg_i G2 226 18)]) (rest := []) (mc1 := 0) (ms1 := 0) (mc := 0) (ms := 0) (by decide +kernel) md_X13_copiesArea lk_13_540 sh_226 rfl rfl rfl (Nat.le_of_ble_eq_true rfl) (mC.mono (mm_contV (fun G4 hK => ?_)) h)
      replace h := hK
      refine mV_aload_n (k := 0) (by decide +kernel) rfl ?_
      refine mV_aload_n (k := 0) (by decide +kernel) rfl ?_
      refine mV_gfr (r := some 279) (by decide +kernel) fk_13_176 sh_226 (mm_rrs st_226_79) rfl ?_
      refine mV_iload_n (k := 1) (by decide +kernel) rfl ?_
      refine mV_ialx (x := mg_i G4 279 a1.toNatClampNeg) (by decide +kernel) sh_279 h.1 rfl ?_
      replace h := h.2
      refine mV_pfi (by decide +kernel) fk_13_275 sh_226 ?_
      refine mV_aload_n (k := 0) (by decide +kernel) rfl ?_
      refine mV_aload_n (k := 0) (by decide +kernel) rfl ?_
      refine mV_gfr (r := some 280) (by decide +kernel) fk_13_179 sh_226 (mm_rrs st_226_80) rfl ?_
      refine mV_iload_n (k := 1) (by decide +kernel) rfl ?_
      refine mV_ialx (x := mg_i G4 280 a1.toNatClampNeg) (by decide +kernel) sh_280 h.1 rfl ?_
      replace h := h.2
      refine mV_pfi (by decide +kernel) fk_13_492 sh_226 ?_
      refine mV_iconst (n := 0) (v := nI 0) (by decide +kernel) (by decide) ?_
      refine mV_istore_n (k := 2) (ls' := [some (.ref 226), some (.int a1), some (.int (nI 0))]) (by decide +kernel) (Nat.le_of_ble_eq_true rfl) rfl rfl ?_
      exact h
    · replace h := h.2 hc
      refine mV_iconst (n := 0) (v := nI 0) (by decide +kernel) (by decide) ?_
      exact mV_zret (by decide +kernel) rfl (by decide) h
set_option maxRecDepth 100000 in
set_option maxHeartbeats 4000000 in
theorem p_X13_restore_53 {l : Launch} {κ : mm_K} {d : Nat} {G : mm_G} {K : Int32 → mm_G → Prop} (v1 : Int32) (v2 : Int32) (h : (((nI 20) ≤ v2 → mV l κ true (d + 2) 0 0 m_X13_restore 118 [some (.ref 226), some (.int v1), some (.int (nI 0))] [] G (rI K)) ∧ (¬ (nI 20) ≤ v2 → vp_in (((nI 20) * v1) + v2) 60 ∧ vp_in v2 20 ∧ vp_in (((nI 20) * v1) + v2) 60 ∧ vp_in v2 20 ∧ vp_in (((nI 20) * v1) + v2) 60 ∧ vp_in v2 20 ∧ mV l κ true (d + 2) 0 0 m_X13_restore 53 [some (.ref 226), some (.int v1), some (.int (v2 + (nI 1)))] [] (ms_i (ms_i (ms_i G 268 v2.toNatClampNeg (mg_i G 281 ((((nI 20) * v1) + v2).toNatClampNeg))) 269 v2.toNatClampNeg (mg_i G 282 ((((nI 20) * v1) + v2).toNatClampNeg))) 270 v2.toNatClampNeg (mg_i G 283 ((((nI 20) * v1) + v2).toNatClampNeg))) (rI K)))) : mV l κ true (d + 2) 0 0 m_X13_restore 53 [some (.ref 226), some (.int v1), some (.int v2)] [] G (rI K) := by
  refine mV_iload_n (k := 2) (by decide +kernel) rfl ?_
  refine mV_bipush (n := 20) (v := nI 20) (by decide +kernel) (by decide) ?_
  refine mV_icmp_ge (off := 60) (tgt := 116) (by decide +kernel) (by decide) (fun hc => ?_) (fun hc => ?_)
  · replace h := h.1 hc
    refine mV_iconst (n := 0) (v := nI 0) (by decide +kernel) (by decide) ?_
    refine mV_istore_n (k := 2) (ls' := [some (.ref 226), some (.int v1), some (.int (nI 0))]) (by decide +kernel) (Nat.le_of_ble_eq_true rfl) rfl rfl ?_
    exact h
  · replace h := h.2 hc
    refine mV_aload_n (k := 0) (by decide +kernel) rfl ?_
    refine mV_gfr (r := some 268) (by decide +kernel) fk_13_143 sh_226 (mm_rrs st_226_67) rfl ?_
    refine mV_iload_n (k := 2) (by decide +kernel) rfl ?_
    refine mV_aload_n (k := 0) (by decide +kernel) rfl ?_
    refine mV_gfr (r := some 281) (by decide +kernel) fk_13_182 sh_226 (mm_rrs st_226_81) rfl ?_
    refine mV_bipush (n := 20) (v := nI 20) (by decide +kernel) (by decide) ?_
    refine mV_iload_n (k := 1) (by decide +kernel) rfl ?_
    refine mV_imul (by decide +kernel) ?_
    refine mV_iload_n (k := 2) (by decide +kernel) rfl ?_
    refine mV_iadd (by decide +kernel) ?_
    refine mV_ialx (x := mg_i G 281 ((((nI 20) * v1) + v2).toNatClampNeg)) (by decide +kernel) sh_281 h.1 rfl ?_
    replace h := h.2
    refine mV_ias (by decide +kernel) sh_268 h.1 ?_
    replace h := h.2
    refine mV_aload_n (k := 0) (by decide +kernel) rfl ?_
    refine mV_gfr (r := some 269) (by decide +kernel) fk_13_146 sh_226 (mm_rrs st_226_68) rfl ?_
    refine mV_iload_n (k := 2) (by decide +kernel) rfl ?_
    refine mV_aload_n (k := 0) (by decide +kernel) rfl ?_
    refine mV_gfr (r := some 282) (by decide +kernel) fk_13_185 sh_226 (mm_rrs st_226_82) rfl ?_
    refine mV_bipush (n := 20) (v := nI 20) (by decide +kernel) (by decide) ?_
    refine mV_iload_n (k := 1) (by decide +kernel) rfl ?_
    refine mV_imul (by decide +kernel) ?_
    refine mV_iload_n (k := 2) (by decide +kernel) rfl ?_
    refine mV_iadd (by decide +kernel) ?_
    refine mV_ialx (x := mg_i G 282 ((((nI 20) * v1) + v2).toNatClampNeg)) (by decide +kernel) sh_282 h.1 rfl ?_
    replace h := h.2
    refine mV_ias (by decide +kernel) sh_269 h.1 ?_
    replace h := h.2
    refine mV_aload_n (k := 0) (by decide +kernel) rfl ?_
    refine mV_gfr (r := some 270) (by decide +kernel) fk_13_149 sh_226 (mm_rrs st_226_69) rfl ?_
    refine mV_iload_n (k := 2) (by decide +kernel) rfl ?_
    refine mV_aload_n (k := 0) (by decide +kernel) rfl ?_
    refine mV_gfr (r := some 283) (by decide +kernel) fk_13_188 sh_226 (mm_rrs st_226_83) rfl ?_
    refine mV_bipush (n := 20) (v := nI 20) (by decide +kernel) (by decide) ?_
    refine mV_iload_n (k := 1) (by decide +kernel) rfl ?_
    refine mV_imul (by decide +kernel) ?_
    refine mV_iload_n (k := 2) (by decide +kernel) rfl ?_
    refine mV_iadd (by decide +kernel) ?_
    refine mV_ialx (x := mg_i G 283 ((((nI 20) * v1) + v2).toNatClampNeg)) (by decide +kernel) sh_283 h.1 rfl ?_
    replace h := h.2
    refine mV_ias (by decide +kernel) sh_270 h.1 ?_
    replace h := h.2
    refine mV_iincc (i := 2) (n := 1) (c := nI 1) (ls' := [some (.ref 226), some (.int v1), some (.int (v2 + (nI 1)))]) (by decide +kernel) (by decide) rfl (Nat.le_of_ble_eq_true rfl) rfl rfl ?_
    refine mV_goto (off := -60) (tgt := 53) (by decide +kernel) (by decide) ?_
    exact h
set_option maxRecDepth 100000 in
set_option maxHeartbeats 4000000 in
theorem p_X13_restore_118 {l : Launch} {κ : mm_K} {d : Nat} {G : mm_G} {K : Int32 → mm_G → Prop} (v1 : Int32) (v2 : Int32) (h : (((nI 160) ≤ v2 → K (nI 1) G) ∧ (¬ (nI 160) ≤ v2 → vp_in (((nI 160) * v1) + v2) 480 ∧ vp_in v2 160 ∧ mV l κ true (d + 2) 0 0 m_X13_restore 118 [some (.ref 226), some (.int v1), some (.int (v2 + (nI 1)))] [] (ms_i G 271 v2.toNatClampNeg (mg_i G 284 ((((nI 160) * v1) + v2).toNatClampNeg))) (rI K)))) : mV l κ true (d + 2) 0 0 m_X13_restore 118 [some (.ref 226), some (.int v1), some (.int v2)] [] G (rI K) := by
  refine mV_iload_n (k := 2) (by decide +kernel) rfl ?_
  refine mV_sipush (n := 160) (v := nI 160) (by decide +kernel) (by decide) ?_
  refine mV_icmp_ge (off := 27) (tgt := 149) (by decide +kernel) (by decide) (fun hc => ?_) (fun hc => ?_)
  · replace h := h.1 hc
    refine mV_iconst (n := 1) (v := nI 1) (by decide +kernel) (by decide) ?_
    exact mV_zret (by decide +kernel) rfl (by decide) h
  · replace h := h.2 hc
    refine mV_aload_n (k := 0) (by decide +kernel) rfl ?_
    refine mV_gfr (r := some 271) (by decide +kernel) fk_13_152 sh_226 (mm_rrs st_226_70) rfl ?_
    refine mV_iload_n (k := 2) (by decide +kernel) rfl ?_
    refine mV_aload_n (k := 0) (by decide +kernel) rfl ?_
    refine mV_gfr (r := some 284) (by decide +kernel) fk_13_191 sh_226 (mm_rrs st_226_84) rfl ?_
    refine mV_sipush (n := 160) (v := nI 160) (by decide +kernel) (by decide) ?_
    refine mV_iload_n (k := 1) (by decide +kernel) rfl ?_
    refine mV_imul (by decide +kernel) ?_
    refine mV_iload_n (k := 2) (by decide +kernel) rfl ?_
    refine mV_iadd (by decide +kernel) ?_
    refine mV_ialx (x := mg_i G 284 ((((nI 160) * v1) + v2).toNatClampNeg)) (by decide +kernel) sh_284 h.1 rfl ?_
    replace h := h.2
    refine mV_ias (by decide +kernel) sh_271 h.1 ?_
    replace h := h.2
    refine mV_iincc (i := 2) (n := 1) (c := nI 1) (ls' := [some (.ref 226), some (.int v1), some (.int (v2 + (nI 1)))]) (by decide +kernel) (by decide) rfl (Nat.le_of_ble_eq_true rfl) rfl rfl ?_
    refine mV_goto (off := -28) (tgt := 118) (by decide +kernel) (by decide) ?_
    exact h
set_option maxRecDepth 100000 in
set_option maxHeartbeats 4000000 in
theorem e_X13_count {l : Launch} {κ : mm_K} {d : Nat} {G : mm_G} {K : Int32 → mm_G → Prop} (a1 : Int32) (h : ((a1 = nI 0 → vp_in (mg_i G 226 18) 5 ∧ K (mg_i G 234 ((mg_i G 226 18).toNatClampNeg)) G) ∧ (a1 = nI 1 → vp_in (mg_i G 226 18) 2 ∧ K (mg_i G 249 ((mg_i G 226 18).toNatClampNeg)) G) ∧ (a1 = nI 2 → mV l κ true (d + 2) 0 0 m_X13_count 68 [some (.ref 226), some (.int a1), some (.int (nI 0)), some (.int (nI 0))] [] G (rI K)) ∧ (a1 = nI 3 → vp_in (mg_i G 226 18) 2 ∧ K (mg_i G 254 ((mg_i G 226 18).toNatClampNeg)) G) ∧ (a1 = nI 4 → K (mg_i G 226 65) G) ∧ (a1 = nI 5 → K (mg_i G 226 2) G) ∧ (a1 = nI 6 → vp_in (nI 0) 3 ∧ (((mg_i G 278 ((nI 0).toNatClampNeg)) = 0 → vp_in (nI 1) 3 ∧ (((mg_i G 278 ((nI 1).toNatClampNeg)) = 0 → vp_in (nI 2) 3 ∧ (((mg_i G 278 ((nI 2).toNatClampNeg)) = 0 → K (((nI 0) + (nI 0)) + (nI 0)) G) ∧ (¬ (mg_i G 278 ((nI 2).toNatClampNeg)) = 0 → K (((nI 0) + (nI 0)) + (nI 1)) G))) ∧ (¬ (mg_i G 278 ((nI 1).toNatClampNeg)) = 0 → vp_in (nI 2) 3 ∧ (((mg_i G 278 ((nI 2).toNatClampNeg)) = 0 → K (((nI 0) + (nI 1)) + (nI 0)) G) ∧ (¬ (mg_i G 278 ((nI 2).toNatClampNeg)) = 0 → K (((nI 0) + (nI 1)) + (nI 1)) G))))) ∧ (¬ (mg_i G 278 ((nI 0).toNatClampNeg)) = 0 → vp_in (nI 1) 3 ∧ (((mg_i G 278 ((nI 1).toNatClampNeg)) = 0 → vp_in (nI 2) 3 ∧ (((mg_i G 278 ((nI 2).toNatClampNeg)) = 0 → K (((nI 1) + (nI 0)) + (nI 0)) G) ∧ (¬ (mg_i G 278 ((nI 2).toNatClampNeg)) = 0 → K (((nI 1) + (nI 0)) + (nI 1)) G))) ∧ (¬ (mg_i G 278 ((nI 1).toNatClampNeg)) = 0 → vp_in (nI 2) 3 ∧ (((mg_i G 278 ((nI 2).toNatClampNeg)) = 0 → K (((nI 1) + (nI 1)) + (nI 0)) G) ∧ (¬ (mg_i G 278 ((nI 2).toNatClampNeg)) = 0 → K (((nI 1) + (nI 1)) + (nI 1)) G))))))) ∧ ((a1.toInt < 0 ∨ 6 < a1.toInt) → mC l κ true (d + 1) 0 0 m_X13_isTrial [.ref 226, .int (a1 - (nI 10))] G (rI (fun r1 G2 => ((r1 = 0 → mC l κ true (d + 1) 0 0 m_X13_isTrial [.ref 226, .int (a1 - (nI 20))] G2 (rI (fun r3 G4 => ((¬ r3 = 0 → vp_in ((((nI 8) * (mg_i G4 226 18)) + a1) - (nI 20)) 16 ∧ ((¬ (mg_i G4 252 (((((nI 8) * (mg_i G4 226 18)) + a1) - (nI 20)).toNatClampNeg)) = (-1) → K (mg_i G4 252 (((((nI 8) * (mg_i G4 226 18)) + a1) - (nI 20)).toNatClampNeg)) G4) ∧ ((mg_i G4 252 (((((nI 8) * (mg_i G4 226 18)) + a1) - (nI 20)).toNatClampNeg)) = (-1) → K (-2) G4))) ∧ (r3 = 0 → K (-1) G4))))) ∧ (¬ r1 = 0 → vp_in ((((nI 8) * (mg_i G2 226 18)) + a1) - (nI 10)) 16 ∧ K (mg_i G2 250 (((((nI 8) * (mg_i G2 226 18)) + a1) - (nI 10)).toNatClampNeg)) G2))))))) : mC l κ true (d + 2) 0 0 m_X13_count [.ref 226, .int a1] G (rI K) := by
  refine mC.of (by decide) (Nat.le_of_ble_eq_true rfl) [some (.ref 226), some (.int a1), none, none] rfl ?_
  refine mV_iload_n (k := 1) (by decide +kernel) rfl ?_
  have hsw : (a1.toInt < 0 ∨ 6 < a1.toInt) ∨ a1.toInt = 0 ∨ a1.toInt = 1 ∨ a1.toInt = 2 ∨ a1.toInt = 3 ∨ a1.toInt = 4 ∨ a1.toInt = 5 ∨ a1.toInt = 6 := by omega
  rcases hsw with hc | hc | hc | hc | hc | hc | hc | hc
  · replace h := h.2.2.2.2.2.2.2 hc
    refine mV_tabOut (dflt := 174) (lo := 0) (hi := 6) (offs := #[43, 53, 63, 109, 119, 124, 129]) (len := 43) (tgt := 175) (by decide +kernel) hc (by decide) ?_
    refine mV_aload_n (k := 0) (by decide +kernel) rfl ?_
    refine mV_iload_n (k := 1) (by decide +kernel) rfl ?_
    refine mV_bipush (n := 10) (v := nI 10) (by decide +kernel) (by decide) ?_
    refine mV_isub (by decide +kernel) ?_
    refine mV_cV (as := [.int (a1 - (nI 10))]) (rest := []) (mc1 := 0) (ms1 := 0) (mc := 0) (ms := 0) (by decide +kernel) md_X13_isTrial lk_13_413 sh_226 rfl rfl rfl (Nat.le_of_ble_eq_true rfl) (mC.mono (mm_contI (fun r1 G2 hK => ?_)) h)
    replace h := hK
    refine mV_if_eq (off := 21) (tgt := 204) (by decide +kernel) (by decide) (fun hc => ?_) (fun hc => ?_)
    · replace h := h.1 hc
      refine mV_aload_n (k := 0) (by decide +kernel) rfl ?_
      refine mV_iload_n (k := 1) (by decide +kernel) rfl ?_
      refine mV_bipush (n := 20) (v := nI 20) (by decide +kernel) (by decide) ?_
      refine mV_isub (by decide +kernel) ?_
      refine mV_cV (as := [.int (a1 - (nI 20))]) (rest := []) (mc1 := 0) (ms1 := 0) (mc := 0) (ms := 0) (by decide +kernel) md_X13_isTrial lk_13_413 sh_226 rfl rfl rfl (Nat.le_of_ble_eq_true rfl) (mC.mono (mm_contI (fun r3 G4 hK => ?_)) h)
      replace h := hK
      refine mV_if_ne (off := 5) (tgt := 217) (by decide +kernel) (by decide) (fun hc => ?_) (fun hc => ?_)
      · replace h := h.1 hc
        refine mV_aload_n (k := 0) (by decide +kernel) rfl ?_
        refine mV_gfr (r := some 252) (by decide +kernel) fk_13_94 sh_226 (mm_rrs st_226_38) rfl ?_
        refine mV_bipush (n := 8) (v := nI 8) (by decide +kernel) (by decide) ?_
        refine mV_aload_n (k := 0) (by decide +kernel) rfl ?_
        refine mV_gfix (x := mg_i G4 226 18) (by decide +kernel) fk_13_266 sh_226 rfl ?_
        refine mV_imul (by decide +kernel) ?_
        refine mV_iload_n (k := 1) (by decide +kernel) rfl ?_
        refine mV_iadd (by decide +kernel) ?_
        refine mV_bipush (n := 20) (v := nI 20) (by decide +kernel) (by decide) ?_
        refine mV_isub (by decide +kernel) ?_
        refine mV_ialx (x := mg_i G4 252 (((((nI 8) * (mg_i G4 226 18)) + a1) - (nI 20)).toNatClampNeg)) (by decide +kernel) sh_252 h.1 rfl ?_
        replace h := h.2
        refine mV_istore_n (k := 2) (ls' := [some (.ref 226), some (.int a1), some (.int (mg_i G4 252 (((((nI 8) * (mg_i G4 226 18)) + a1) - (nI 20)).toNatClampNeg))), none]) (by decide +kernel) (Nat.le_of_ble_eq_true rfl) rfl rfl ?_
        refine mV_iload_n (k := 2) (by decide +kernel) rfl ?_
        refine mV_iconst (n := -1) (v := (-1)) (by decide +kernel) (by decide) ?_
        refine mV_icmp_ne (off := 8) (tgt := 245) (by decide +kernel) (by decide) (fun hc => ?_) (fun hc => ?_)
        · replace h := h.1 hc
          refine mV_iload_n (k := 2) (by decide +kernel) rfl ?_
          exact mV_iret (by decide +kernel) rfl h
        · replace h := h.2 hc
          refine mV_bipush (n := -2) (v := (-2)) (by decide +kernel) (by decide) ?_
          refine mV_goto (off := 4) (tgt := 246) (by decide +kernel) (by decide) ?_
          exact mV_iret (by decide +kernel) rfl h
      · replace h := h.2 hc
        refine mV_iconst (n := -1) (v := (-1)) (by decide +kernel) (by decide) ?_
        exact mV_iret (by decide +kernel) rfl h
    · replace h := h.2 hc
      refine mV_aload_n (k := 0) (by decide +kernel) rfl ?_
      refine mV_gfr (r := some 250) (by decide +kernel) fk_13_88 sh_226 (mm_rrs st_226_36) rfl ?_
      refine mV_bipush (n := 8) (v := nI 8) (by decide +kernel) (by decide) ?_
      refine mV_aload_n (k := 0) (by decide +kernel) rfl ?_
      refine mV_gfix (x := mg_i G2 226 18) (by decide +kernel) fk_13_266 sh_226 rfl ?_
      refine mV_imul (by decide +kernel) ?_
      refine mV_iload_n (k := 1) (by decide +kernel) rfl ?_
      refine mV_iadd (by decide +kernel) ?_
      refine mV_bipush (n := 10) (v := nI 10) (by decide +kernel) (by decide) ?_
      refine mV_isub (by decide +kernel) ?_
      refine mV_ialx (x := mg_i G2 250 (((((nI 8) * (mg_i G2 226 18)) + a1) - (nI 10)).toNatClampNeg)) (by decide +kernel) sh_250 h.1 rfl ?_
      replace h := h.2
      exact mV_iret (by decide +kernel) rfl h
  · replace h := h.1 (mm_eqI hc (by decide))
    refine mV_tabIn (dflt := 174) (lo := 0) (hi := 6) (offs := #[43, 53, 63, 109, 119, 124, 129]) (len := 43) (off := 43) (tgt := 44) (by decide +kernel) (by rw [hc]; decide) (by rw [hc]; decide) (by rw [hc]; rfl) (by decide) ?_
    refine mV_aload_n (k := 0) (by decide +kernel) rfl ?_
    refine mV_gfr (r := some 234) (by decide +kernel) fk_13_40 sh_226 (mm_rrs st_226_20) rfl ?_
    refine mV_aload_n (k := 0) (by decide +kernel) rfl ?_
    refine mV_gfix (x := mg_i G 226 18) (by decide +kernel) fk_13_266 sh_226 rfl ?_
    refine mV_ialx (x := mg_i G 234 ((mg_i G 226 18).toNatClampNeg)) (by decide +kernel) sh_234 h.1 rfl ?_
    replace h := h.2
    exact mV_iret (by decide +kernel) rfl h
  · replace h := h.2.1 (mm_eqI hc (by decide))
    refine mV_tabIn (dflt := 174) (lo := 0) (hi := 6) (offs := #[43, 53, 63, 109, 119, 124, 129]) (len := 43) (off := 53) (tgt := 54) (by decide +kernel) (by rw [hc]; decide) (by rw [hc]; decide) (by rw [hc]; rfl) (by decide) ?_
    refine mV_aload_n (k := 0) (by decide +kernel) rfl ?_
    refine mV_gfr (r := some 249) (by decide +kernel) fk_13_85 sh_226 (mm_rrs st_226_35) rfl ?_
    refine mV_aload_n (k := 0) (by decide +kernel) rfl ?_
    refine mV_gfix (x := mg_i G 226 18) (by decide +kernel) fk_13_266 sh_226 rfl ?_
    refine mV_ialx (x := mg_i G 249 ((mg_i G 226 18).toNatClampNeg)) (by decide +kernel) sh_249 h.1 rfl ?_
    replace h := h.2
    exact mV_iret (by decide +kernel) rfl h
  · replace h := h.2.2.1 (mm_eqI hc (by decide))
    refine mV_tabIn (dflt := 174) (lo := 0) (hi := 6) (offs := #[43, 53, 63, 109, 119, 124, 129]) (len := 43) (off := 63) (tgt := 64) (by decide +kernel) (by rw [hc]; decide) (by rw [hc]; decide) (by rw [hc]; rfl) (by decide) ?_
    refine mV_iconst (n := 0) (v := nI 0) (by decide +kernel) (by decide) ?_
    refine mV_istore_n (k := 2) (ls' := [some (.ref 226), some (.int a1), some (.int (nI 0)), none]) (by decide +kernel) (Nat.le_of_ble_eq_true rfl) rfl rfl ?_
    refine mV_iconst (n := 0) (v := nI 0) (by decide +kernel) (by decide) ?_
    refine mV_istore_n (k := 3) (ls' := [some (.ref 226), some (.int a1), some (.int (nI 0)), some (.int (nI 0))]) (by decide +kernel) (Nat.le_of_ble_eq_true rfl) rfl rfl ?_
    exact h
  · replace h := h.2.2.2.1 (mm_eqI hc (by decide))
    refine mV_tabIn (dflt := 174) (lo := 0) (hi := 6) (offs := #[43, 53, 63, 109, 119, 124, 129]) (len := 43) (off := 109) (tgt := 110) (by decide +kernel) (by rw [hc]; decide) (by rw [hc]; decide) (by rw [hc]; rfl) (by decide) ?_
    refine mV_aload_n (k := 0) (by decide +kernel) rfl ?_
    refine mV_gfr (r := some 254) (by decide +kernel) fk_13_100 sh_226 (mm_rrs st_226_40) rfl ?_
    refine mV_aload_n (k := 0) (by decide +kernel) rfl ?_
    refine mV_gfix (x := mg_i G 226 18) (by decide +kernel) fk_13_266 sh_226 rfl ?_
    refine mV_ialx (x := mg_i G 254 ((mg_i G 226 18).toNatClampNeg)) (by decide +kernel) sh_254 h.1 rfl ?_
    replace h := h.2
    exact mV_iret (by decide +kernel) rfl h
  · replace h := h.2.2.2.2.1 (mm_eqI hc (by decide))
    refine mV_tabIn (dflt := 174) (lo := 0) (hi := 6) (offs := #[43, 53, 63, 109, 119, 124, 129]) (len := 43) (off := 119) (tgt := 120) (by decide +kernel) (by rw [hc]; decide) (by rw [hc]; decide) (by rw [hc]; rfl) (by decide) ?_
    refine mV_aload_n (k := 0) (by decide +kernel) rfl ?_
    refine mV_gfix (x := mg_i G 226 65) (by decide +kernel) fk_13_275 sh_226 rfl ?_
    exact mV_iret (by decide +kernel) rfl h
  · replace h := h.2.2.2.2.2.1 (mm_eqI hc (by decide))
    refine mV_tabIn (dflt := 174) (lo := 0) (hi := 6) (offs := #[43, 53, 63, 109, 119, 124, 129]) (len := 43) (off := 124) (tgt := 125) (by decide +kernel) (by rw [hc]; decide) (by rw [hc]; decide) (by rw [hc]; rfl) (by decide) ?_
    refine mV_aload_n (k := 0) (by decide +kernel) rfl ?_
    refine mV_gfix (x := mg_i G 226 2) (by decide +kernel) fk_13_198 sh_226 rfl ?_
    exact mV_iret (by decide +kernel) rfl h
  · replace h := h.2.2.2.2.2.2.1 (mm_eqI hc (by decide))
    refine mV_tabIn (dflt := 174) (lo := 0) (hi := 6) (offs := #[43, 53, 63, 109, 119, 124, 129]) (len := 43) (off := 129) (tgt := 130) (by decide +kernel) (by rw [hc]; decide) (by rw [hc]; decide) (by rw [hc]; rfl) (by decide) ?_
    refine mV_aload_n (k := 0) (by decide +kernel) rfl ?_
    refine mV_gfr (r := some 278) (by decide +kernel) fk_13_173 sh_226 (mm_rrs st_226_78) rfl ?_
    refine mV_iconst (n := 0) (v := nI 0) (by decide +kernel) (by decide) ?_
    refine mV_zalx (x := mg_i G 278 ((nI 0).toNatClampNeg)) (by decide +kernel) sh_278 h.1 rfl ?_
    replace h := h.2
    refine mV_if_eq (off := 7) (tgt := 143) (by decide +kernel) (by decide) (fun hc => ?_) (fun hc => ?_)
    · replace h := h.1 hc
      refine mV_iconst (n := 0) (v := nI 0) (by decide +kernel) (by decide) ?_
      refine mV_aload_n (k := 0) (by decide +kernel) rfl ?_
      refine mV_gfr (r := some 278) (by decide +kernel) fk_13_173 sh_226 (mm_rrs st_226_78) rfl ?_
      refine mV_iconst (n := 1) (v := nI 1) (by decide +kernel) (by decide) ?_
      refine mV_zalx (x := mg_i G 278 ((nI 1).toNatClampNeg)) (by decide +kernel) sh_278 h.1 rfl ?_
      replace h := h.2
      refine mV_if_eq (off := 7) (tgt := 157) (by decide +kernel) (by decide) (fun hc => ?_) (fun hc => ?_)
      · replace h := h.1 hc
        refine mV_iconst (n := 0) (v := nI 0) (by decide +kernel) (by decide) ?_
        refine mV_iadd (by decide +kernel) ?_
        refine mV_aload_n (k := 0) (by decide +kernel) rfl ?_
        refine mV_gfr (r := some 278) (by decide +kernel) fk_13_173 sh_226 (mm_rrs st_226_78) rfl ?_
        refine mV_iconst (n := 2) (v := nI 2) (by decide +kernel) (by decide) ?_
        refine mV_zalx (x := mg_i G 278 ((nI 2).toNatClampNeg)) (by decide +kernel) sh_278 h.1 rfl ?_
        replace h := h.2
        refine mV_if_eq (off := 7) (tgt := 172) (by decide +kernel) (by decide) (fun hc => ?_) (fun hc => ?_)
        · replace h := h.1 hc
          refine mV_iconst (n := 0) (v := nI 0) (by decide +kernel) (by decide) ?_
          refine mV_iadd (by decide +kernel) ?_
          exact mV_iret (by decide +kernel) rfl h
        · replace h := h.2 hc
          refine mV_iconst (n := 1) (v := nI 1) (by decide +kernel) (by decide) ?_
          refine mV_goto (off := 4) (tgt := 173) (by decide +kernel) (by decide) ?_
          refine mV_iadd (by decide +kernel) ?_
          exact mV_iret (by decide +kernel) rfl h
      · replace h := h.2 hc
        refine mV_iconst (n := 1) (v := nI 1) (by decide +kernel) (by decide) ?_
        refine mV_goto (off := 4) (tgt := 158) (by decide +kernel) (by decide) ?_
        refine mV_iadd (by decide +kernel) ?_
        refine mV_aload_n (k := 0) (by decide +kernel) rfl ?_
        refine mV_gfr (r := some 278) (by decide +kernel) fk_13_173 sh_226 (mm_rrs st_226_78) rfl ?_
        refine mV_iconst (n := 2) (v := nI 2) (by decide +kernel) (by decide) ?_
        refine mV_zalx (x := mg_i G 278 ((nI 2).toNatClampNeg)) (by decide +kernel) sh_278 h.1 rfl ?_
        replace h := h.2
        refine mV_if_eq (off := 7) (tgt := 172) (by decide +kernel) (by decide) (fun hc => ?_) (fun hc => ?_)
        · replace h := h.1 hc
          refine mV_iconst (n := 0) (v := nI 0) (by decide +kernel) (by decide) ?_
          refine mV_iadd (by decide +kernel) ?_
          exact mV_iret (by decide +kernel) rfl h
        · replace h := h.2 hc
          refine mV_iconst (n := 1) (v := nI 1) (by decide +kernel) (by decide) ?_
          refine mV_goto (off := 4) (tgt := 173) (by decide +kernel) (by decide) ?_
          refine mV_iadd (by decide +kernel) ?_
          exact mV_iret (by decide +kernel) rfl h
    · replace h := h.2 hc
      refine mV_iconst (n := 1) (v := nI 1) (by decide +kernel) (by decide) ?_
      refine mV_goto (off := 4) (tgt := 144) (by decide +kernel) (by decide) ?_
      refine mV_aload_n (k := 0) (by decide +kernel) rfl ?_
      refine mV_gfr (r := some 278) (by decide +kernel) fk_13_173 sh_226 (mm_rrs st_226_78) rfl ?_
      refine mV_iconst (n := 1) (v := nI 1) (by decide +kernel) (by decide) ?_
      refine mV_zalx (x := mg_i G 278 ((nI 1).toNatClampNeg)) (by decide +kernel) sh_278 h.1 rfl ?_
      replace h := h.2
      refine mV_if_eq (off := 7) (tgt := 157) (by decide +kernel) (by decide) (fun hc => ?_) (fun hc => ?_)
      · replace h := h.1 hc
        refine mV_iconst (n := 0) (v := nI 0) (by decide +kernel) (by decide) ?_
        refine mV_iadd (by decide +kernel) ?_
        refine mV_aload_n (k := 0) (by decide +kernel) rfl ?_
        refine mV_gfr (r := some 278) (by decide +kernel) fk_13_173 sh_226 (mm_rrs st_226_78) rfl ?_
        refine mV_iconst (n := 2) (v := nI 2) (by decide +kernel) (by decide) ?_
        refine mV_zalx (x := mg_i G 278 ((nI 2).toNatClampNeg)) (by decide +kernel) sh_278 h.1 rfl ?_
        replace h := h.2
        refine mV_if_eq (off := 7) (tgt := 172) (by decide +kernel) (by decide) (fun hc => ?_) (fun hc => ?_)
        · replace h := h.1 hc
          refine mV_iconst (n := 0) (v := nI 0) (by decide +kernel) (by decide) ?_
          refine mV_iadd (by decide +kernel) ?_
          exact mV_iret (by decide +kernel) rfl h
        · replace h := h.2 hc
          refine mV_iconst (n := 1) (v := nI 1) (by decide +kernel) (by decide) ?_
          refine mV_goto (off := 4) (tgt := 173) (by decide +kernel) (by decide) ?_
          refine mV_iadd (by decide +kernel) ?_
          exact mV_iret (by decide +kernel) rfl h
      · replace h := h.2 hc
        refine mV_iconst (n := 1) (v := nI 1) (by decide +kernel) (by decide) ?_
        refine mV_goto (off := 4) (tgt := 158) (by decide +kernel) (by decide) ?_
        refine mV_iadd (by decide +kernel) ?_
        refine mV_aload_n (k := 0) (by decide +kernel) rfl ?_
        refine mV_gfr (r := some 278) (by decide +kernel) fk_13_173 sh_226 (mm_rrs st_226_78) rfl ?_
        refine mV_iconst (n := 2) (v := nI 2) (by decide +kernel) (by decide) ?_
        refine mV_zalx (x := mg_i G 278 ((nI 2).toNatClampNeg)) (by decide +kernel) sh_278 h.1 rfl ?_
        replace h := h.2
        refine mV_if_eq (off := 7) (tgt := 172) (by decide +kernel) (by decide) (fun hc => ?_) (fun hc => ?_)
        · replace h := h.1 hc
          refine mV_iconst (n := 0) (v := nI 0) (by decide +kernel) (by decide) ?_
          refine mV_iadd (by decide +kernel) ?_
          exact mV_iret (by decide +kernel) rfl h
        · replace h := h.2 hc
          refine mV_iconst (n := 1) (v := nI 1) (by decide +kernel) (by decide) ?_
          refine mV_goto (off := 4) (tgt := 173) (by decide +kernel) (by decide) ?_
          refine mV_iadd (by decide +kernel) ?_
          exact mV_iret (by decide +kernel) rfl h
set_option maxRecDepth 100000 in
set_option maxHeartbeats 4000000 in
theorem p_X13_count_68 {l : Launch} {κ : mm_K} {d : Nat} {G : mm_G} {K : Int32 → mm_G → Prop} (v1 : Int32) (v2 : Int32) (v3 : Int32) (h : vp_in (mg_i G 226 18) 2 ∧ (((mg_i G 249 ((mg_i G 226 18).toNatClampNeg)) ≤ v3 → K v2 G) ∧ (¬ (mg_i G 249 ((mg_i G 226 18).toNatClampNeg)) ≤ v3 → vp_in (((nI 8) * (mg_i G 226 18)) + v3) 16 ∧ (((mg_i G 252 ((((nI 8) * (mg_i G 226 18)) + v3).toNatClampNeg)) = (-1) → mV l κ true (d + 2) 0 0 m_X13_count 68 [some (.ref 226), some (.int v1), some (.int v2), some (.int (v3 + (nI 1)))] [] G (rI K)) ∧ (¬ (mg_i G 252 ((((nI 8) * (mg_i G 226 18)) + v3).toNatClampNeg)) = (-1) → mV l κ true (d + 2) 0 0 m_X13_count 68 [some (.ref 226), some (.int v1), some (.int (v2 + (nI 1))), some (.int (v3 + (nI 1)))] [] G (rI K)))))) : mV l κ true (d + 2) 0 0 m_X13_count 68 [some (.ref 226), some (.int v1), some (.int v2), some (.int v3)] [] G (rI K) := by
  refine mV_iload_n (k := 3) (by decide +kernel) rfl ?_
  refine mV_aload_n (k := 0) (by decide +kernel) rfl ?_
  refine mV_gfr (r := some 249) (by decide +kernel) fk_13_85 sh_226 (mm_rrs st_226_35) rfl ?_
  refine mV_aload_n (k := 0) (by decide +kernel) rfl ?_
  refine mV_gfix (x := mg_i G 226 18) (by decide +kernel) fk_13_266 sh_226 rfl ?_
  refine mV_ialx (x := mg_i G 249 ((mg_i G 226 18).toNatClampNeg)) (by decide +kernel) sh_249 h.1 rfl ?_
  replace h := h.2
  refine mV_icmp_ge (off := 30) (tgt := 108) (by decide +kernel) (by decide) (fun hc => ?_) (fun hc => ?_)
  · replace h := h.1 hc
    refine mV_iload_n (k := 2) (by decide +kernel) rfl ?_
    exact mV_iret (by decide +kernel) rfl h
  · replace h := h.2 hc
    refine mV_aload_n (k := 0) (by decide +kernel) rfl ?_
    refine mV_gfr (r := some 252) (by decide +kernel) fk_13_94 sh_226 (mm_rrs st_226_38) rfl ?_
    refine mV_bipush (n := 8) (v := nI 8) (by decide +kernel) (by decide) ?_
    refine mV_aload_n (k := 0) (by decide +kernel) rfl ?_
    refine mV_gfix (x := mg_i G 226 18) (by decide +kernel) fk_13_266 sh_226 rfl ?_
    refine mV_imul (by decide +kernel) ?_
    refine mV_iload_n (k := 3) (by decide +kernel) rfl ?_
    refine mV_iadd (by decide +kernel) ?_
    refine mV_ialx (x := mg_i G 252 ((((nI 8) * (mg_i G 226 18)) + v3).toNatClampNeg)) (by decide +kernel) sh_252 h.1 rfl ?_
    replace h := h.2
    refine mV_iconst (n := -1) (v := (-1)) (by decide +kernel) (by decide) ?_
    refine mV_icmp_eq (off := 6) (tgt := 102) (by decide +kernel) (by decide) (fun hc => ?_) (fun hc => ?_)
    · replace h := h.1 hc
      refine mV_iincc (i := 3) (n := 1) (c := nI 1) (ls' := [some (.ref 226), some (.int v1), some (.int v2), some (.int (v3 + (nI 1)))]) (by decide +kernel) (by decide) rfl (Nat.le_of_ble_eq_true rfl) rfl rfl ?_
      refine mV_goto (off := -37) (tgt := 68) (by decide +kernel) (by decide) ?_
      exact h
    · replace h := h.2 hc
      refine mV_iincc (i := 2) (n := 1) (c := nI 1) (ls' := [some (.ref 226), some (.int v1), some (.int (v2 + (nI 1))), some (.int v3)]) (by decide +kernel) (by decide) rfl (Nat.le_of_ble_eq_true rfl) rfl rfl ?_
      refine mV_iincc (i := 3) (n := 1) (c := nI 1) (ls' := [some (.ref 226), some (.int v1), some (.int (v2 + (nI 1))), some (.int (v3 + (nI 1)))]) (by decide +kernel) (by decide) rfl (Nat.le_of_ble_eq_true rfl) rfl rfl ?_
      refine mV_goto (off := -37) (tgt := 68) (by decide +kernel) (by decide) ?_
      exact h
set_option maxRecDepth 100000 in
set_option maxHeartbeats 4000000 in
theorem e_X12_feed {l : Launch} {κ : mm_K} {d : Nat} {G : mm_G} {K : Int32 → mm_G → Prop} (a1 : Int32) (a2 : Int32) (a3 : Int32) (a4 : Int32) (a5 : Int32) (h : (((mg_i G 1 4) ≤ (nI 1980) → mC l κ true d 0 0 m_X10_addInt [.ref 1, .int a1] G (rV (fun G2 => mC l κ true d 0 0 m_X10_addInt [.ref 1, .int a2] G2 (rV (fun G4 => mC l κ true d 0 0 m_X10_addInt [.ref 1, .int a3] G4 (rV (fun G6 => mC l κ true d 0 0 m_X10_addInt [.ref 1, .int a4] G6 (rV (fun G8 => mC l κ true d 0 0 m_X10_addInt [.ref 1, .int a5] G8 (rV (fun G10 => K (mg_i G10 1 4) G10))))))))))) ∧ (¬ (mg_i G 1 4) ≤ (nI 1980) → K (-1) G))) : mC l κ true (d + 1) 0 0 m_X12_feed [.ref 0, .int a1, .int a2, .int a3, .int a4, .int a5] G (rI K) := by
  refine mC.of (by decide) (Nat.le_of_ble_eq_true rfl) [some (.ref 0), some (.int a1), some (.int a2), some (.int a3), some (.int a4), some (.int a5)] rfl ?_
  refine mV_aload_n (k := 0) (by decide +kernel) rfl ?_
  refine mV_gfr (r := some 1) (by decide +kernel) fk_12_10 sh_0 (mm_rrs st_0_0) rfl ?_
  refine mV_gfix (x := mg_i G 1 4) (by decide +kernel) fk_12_92 sh_1 rfl ?_
  refine mV_sipush (n := 1980) (v := nI 1980) (by decide +kernel) (by decide) ?_
  refine mV_icmp_le (off := 5) (tgt := 15) (by decide +kernel) (by decide) (fun hc => ?_) (fun hc => ?_)
  · replace h := h.1 hc
    refine mV_aload_n (k := 0) (by decide +kernel) rfl ?_
    refine mV_gfr (r := some 1) (by decide +kernel) fk_12_10 sh_0 (mm_rrs st_0_0) rfl ?_
    refine mV_iload_n (k := 1) (by decide +kernel) rfl ?_
    refine mV_cV (as := [.int a1]) (rest := []) (mc1 := 0) (ms1 := 0) (mc := 0) (ms := 0) (by decide +kernel) md_X10_addInt lk_12_95 sh_1 rfl rfl rfl (Nat.le_of_ble_eq_true rfl) (mC.mono (mm_contV (fun G2 hK => ?_)) h)
    replace h := hK
    refine mV_aload_n (k := 0) (by decide +kernel) rfl ?_
    refine mV_gfr (r := some 1) (by decide +kernel) fk_12_10 sh_0 (mm_rrs st_0_0) rfl ?_
    refine mV_iload_n (k := 2) (by decide +kernel) rfl ?_
    refine mV_cV (as := [.int a2]) (rest := []) (mc1 := 0) (ms1 := 0) (mc := 0) (ms := 0) (by decide +kernel) md_X10_addInt lk_12_95 sh_1 rfl rfl rfl (Nat.le_of_ble_eq_true rfl) (mC.mono (mm_contV (fun G4 hK => ?_)) h)
    replace h := hK
    refine mV_aload_n (k := 0) (by decide +kernel) rfl ?_
    refine mV_gfr (r := some 1) (by decide +kernel) fk_12_10 sh_0 (mm_rrs st_0_0) rfl ?_
    refine mV_iload_n (k := 3) (by decide +kernel) rfl ?_
    refine mV_cV (as := [.int a3]) (rest := []) (mc1 := 0) (ms1 := 0) (mc := 0) (ms := 0) (by decide +kernel) md_X10_addInt lk_12_95 sh_1 rfl rfl rfl (Nat.le_of_ble_eq_true rfl) (mC.mono (mm_contV (fun G6 hK => ?_)) h)
    replace h := hK
    refine mV_aload_n (k := 0) (by decide +kernel) rfl ?_
    refine mV_gfr (r := some 1) (by decide +kernel) fk_12_10 sh_0 (mm_rrs st_0_0) rfl ?_
    refine mV_iload (i := 4) (by decide +kernel) rfl ?_
    refine mV_cV (as := [.int a4]) (rest := []) (mc1 := 0) (ms1 := 0) (mc := 0) (ms := 0) (by decide +kernel) md_X10_addInt lk_12_95 sh_1 rfl rfl rfl (Nat.le_of_ble_eq_true rfl) (mC.mono (mm_contV (fun G8 hK => ?_)) h)
    replace h := hK
    refine mV_aload_n (k := 0) (by decide +kernel) rfl ?_
    refine mV_gfr (r := some 1) (by decide +kernel) fk_12_10 sh_0 (mm_rrs st_0_0) rfl ?_
    refine mV_iload (i := 5) (by decide +kernel) rfl ?_
    refine mV_cV (as := [.int a5]) (rest := []) (mc1 := 0) (ms1 := 0) (mc := 0) (ms := 0) (by decide +kernel) md_X10_addInt lk_12_95 sh_1 rfl rfl rfl (Nat.le_of_ble_eq_true rfl) (mC.mono (mm_contV (fun G10 hK => ?_)) h)
    replace h := hK
    refine mV_aload_n (k := 0) (by decide +kernel) rfl ?_
    refine mV_gfr (r := some 1) (by decide +kernel) fk_12_10 sh_0 (mm_rrs st_0_0) rfl ?_
    refine mV_gfix (x := mg_i G10 1 4) (by decide +kernel) fk_12_92 sh_1 rfl ?_
    exact mV_iret (by decide +kernel) rfl h
  · replace h := h.2 hc
    refine mV_iconst (n := -1) (v := (-1)) (by decide +kernel) (by decide) ?_
    exact mV_iret (by decide +kernel) rfl h
set_option maxRecDepth 100000 in
set_option maxHeartbeats 4000000 in
theorem e_X12_back {l : Launch} {κ : mm_K} {d : Nat} {G : mm_G} {K : Int32 → mm_G → Prop} (a1 : Int32) (h : ((a1 < 0 → K (-1) G) ∧ (¬ a1 < 0 → ((a1 ≤ (mg_i G 1 4) → K ((mg_i G 1 4) - a1) (ms_i G 1 4 ((mg_i G 1 4) - a1))) ∧ (¬ a1 ≤ (mg_i G 1 4) → K (-1) G))))) : mC l κ true d 0 0 m_X12_back [.ref 0, .int a1] G (rI K) := by
  refine mC.of (by decide) (Nat.le_of_ble_eq_true rfl) [some (.ref 0), some (.int a1)] rfl ?_
  refine mV_iload_n (k := 1) (by decide +kernel) rfl ?_
  refine mV_if_lt (off := 14) (tgt := 15) (by decide +kernel) (by decide) (fun hc => ?_) (fun hc => ?_)
  · replace h := h.1 hc
    refine mV_iconst (n := -1) (v := (-1)) (by decide +kernel) (by decide) ?_
    exact mV_iret (by decide +kernel) rfl h
  · replace h := h.2 hc
    refine mV_iload_n (k := 1) (by decide +kernel) rfl ?_
    refine mV_aload_n (k := 0) (by decide +kernel) rfl ?_
    refine mV_gfr (r := some 1) (by decide +kernel) fk_12_10 sh_0 (mm_rrs st_0_0) rfl ?_
    refine mV_gfix (x := mg_i G 1 4) (by decide +kernel) fk_12_92 sh_1 rfl ?_
    refine mV_icmp_le (off := 5) (tgt := 17) (by decide +kernel) (by decide) (fun hc => ?_) (fun hc => ?_)
    · replace h := h.1 hc
      refine mV_aload_n (k := 0) (by decide +kernel) rfl ?_
      refine mV_gfr (r := some 1) (by decide +kernel) fk_12_10 sh_0 (mm_rrs st_0_0) rfl ?_
      refine mV_dup (by decide +kernel) rfl ?_
      refine mV_gfix (x := mg_i G 1 4) (by decide +kernel) fk_12_92 sh_1 rfl ?_
      refine mV_iload_n (k := 1) (by decide +kernel) rfl ?_
      refine mV_isub (by decide +kernel) ?_
      refine mV_pfi (by decide +kernel) fk_12_92 sh_1 ?_
      refine mV_aload_n (k := 0) (by decide +kernel) rfl ?_
      refine mV_gfr (r := some 1) (by decide +kernel) fk_12_10 sh_0 (mm_rrs st_0_0) rfl ?_
      refine mV_gfix (x := (mg_i G 1 4) - a1) (by decide +kernel) fk_12_92 sh_1 rfl ?_
      exact mV_iret (by decide +kernel) rfl h
    · replace h := h.2 hc
      refine mV_iconst (n := -1) (v := (-1)) (by decide +kernel) (by decide) ?_
      exact mV_iret (by decide +kernel) rfl h
set_option maxRecDepth 100000 in
set_option maxHeartbeats 4000000 in
theorem e_X12_read {l : Launch} {κ : mm_K} {d : Nat} {G : mm_G} {K : Int32 → mm_G → Prop}  (h : mC l κ true (d + 6) 64 704 m_X5_readTape [.ref 7] G (rV (fun G2 => ((¬ (mg_i G2 7 2) = 0 → ((¬ (mg_i G2 7 2) = 0 → K (mg_i G2 7 2) (ms_i (ms_i G2 1 4 (nI 0)) 0 11 (mg_i G2 7 3))) ∧ ((mg_i G2 7 2) = 0 → mC l κ true (d + 6) 0 0 m_X7_copy [.ref 50, .ref 8] (ms_i (ms_i G2 1 4 (nI 0)) 0 11 (mg_i G2 7 3)) (rV (fun G4 => mC l κ true (d + 6) 0 0 m_X11_copy [.ref 62, .ref 20] G4 (rV (fun G6 => mV l κ true (d + 7) 0 0 m_X12_read 80 [some (.ref 0), some (.int (nI 0))] [] G6 (rI K)))))))) ∧ ((mg_i G2 7 2) = 0 → ((¬ (mg_i G2 7 2) = 0 → K (mg_i G2 7 2) (ms_i (ms_i G2 1 4 (nI 0)) 0 11 (-1))) ∧ ((mg_i G2 7 2) = 0 → mC l κ true (d + 6) 0 0 m_X7_copy [.ref 50, .ref 8] (ms_i (ms_i G2 1 4 (nI 0)) 0 11 (-1)) (rV (fun G8 => mC l κ true (d + 6) 0 0 m_X11_copy [.ref 62, .ref 20] G8 (rV (fun G10 => mV l κ true (d + 7) 0 0 m_X12_read 80 [some (.ref 0), some (.int (nI 0))] [] G10 (rI K)))))))))))) : mC l κ true (d + 7) 64 704 m_X12_read [.ref 0] G (rI K) := by
  refine mC.of (by decide) (Nat.le_of_ble_eq_true rfl) [some (.ref 0), none] rfl ?_
  refine mV_aload_n (k := 0) (by decide +kernel) rfl ?_
  refine mV_gfr (r := some 7) (by decide +kernel) fk_12_21 sh_0 (mm_rrs st_0_1) rfl ?_
  refine mV_cV (as := []) (rest := []) (mc1 := 64) (ms1 := 704) (mc := 0) (ms := 0) (by decide +kernel) md_X5_readTape lk_12_99 sh_7 rfl rfl rfl (Nat.le_of_ble_eq_true rfl) (mC.mono (mm_contV (fun G2 hK => ?_)) h)
  replace h := hK
  refine mV_aload_n (k := 0) (by decide +kernel) rfl ?_
  refine mV_gfr (r := some 1) (by decide +kernel) fk_12_10 sh_0 (mm_rrs st_0_0) rfl ?_
  refine mV_iconst (n := 0) (v := nI 0) (by decide +kernel) (by decide) ?_
  refine mV_pfi (by decide +kernel) fk_12_92 sh_1 ?_
  refine mV_aload_n (k := 0) (by decide +kernel) rfl ?_
  refine mV_aload_n (k := 0) (by decide +kernel) rfl ?_
  refine mV_gfr (r := some 7) (by decide +kernel) fk_12_21 sh_0 (mm_rrs st_0_1) rfl ?_
  refine mV_gfix (x := mg_i G2 7 2) (by decide +kernel) fk_12_102 sh_7 rfl ?_
  refine mV_if_ne (off := 7) (tgt := 30) (by decide +kernel) (by decide) (fun hc => ?_) (fun hc => ?_)
  · replace h := h.1 hc
    refine mV_aload_n (k := 0) (by decide +kernel) rfl ?_
    refine mV_gfr (r := some 7) (by decide +kernel) fk_12_21 sh_0 (mm_rrs st_0_1) rfl ?_
    refine mV_gfix (x := mg_i G2 7 3) (by decide +kernel) fk_12_105 sh_7 rfl ?_
    refine mV_pfi (by decide +kernel) fk_12_88 sh_0 ?_
    refine mV_aload_n (k := 0) (by decide +kernel) rfl ?_
    refine mV_gfr (r := some 7) (by decide +kernel) fk_12_21 sh_0 (mm_rrs st_0_1) rfl ?_
    refine mV_gfix (x := mg_i G2 7 2) (by decide +kernel) fk_12_102 sh_7 rfl ?_
    refine mV_if_ne (off := 55) (tgt := 102) (by decide +kernel) (by decide) (fun hc => ?_) (fun hc => ?_)
    · replace h := h.1 hc
      refine mV_aload_n (k := 0) (by decide +kernel) rfl ?_
      refine mV_gfr (r := some 7) (by decide +kernel) fk_12_21 sh_0 (mm_rrs st_0_1) rfl ?_
      refine mV_gfix (x := mg_i G2 7 2) (by decide +kernel) fk_12_102 sh_7 rfl ?_
      exact mV_iret (by decide +kernel) rfl h
    · replace h := h.2 hc
      refine mV_aload_n (k := 0) (by decide +kernel) rfl ?_
      refine mV_gfr (r := some 50) (by decide +kernel) fk_12_28 sh_0 (mm_rrs st_0_2) rfl ?_
      refine mV_aload_n (k := 0) (by decide +kernel) rfl ?_
      refine mV_gfr (r := some 7) (by decide +kernel) fk_12_21 sh_0 (mm_rrs st_0_1) rfl ?_
      refine mV_gfr (r := some 8) (by decide +kernel) fk_12_106 sh_7 (mm_rrs st_7_0) rfl ?_
      refine mV_cV (as := [.ref 8]) (rest := []) (mc1 := 0) (ms1 := 0) (mc := 0) (ms := 0) (by decide +kernel) md_X7_copy lk_12_107 sh_50 rfl rfl rfl (Nat.le_of_ble_eq_true rfl) (mC.mono (mm_contV (fun G4 hK => ?_)) h)
      replace h := hK
      refine mV_aload_n (k := 0) (by decide +kernel) rfl ?_
      refine mV_gfr (r := some 62) (by decide +kernel) fk_12_35 sh_0 (mm_rrs st_0_3) rfl ?_
      refine mV_aload_n (k := 0) (by decide +kernel) rfl ?_
      refine mV_gfr (r := some 7) (by decide +kernel) fk_12_21 sh_0 (mm_rrs st_0_1) rfl ?_
      refine mV_gfr (r := some 20) (by decide +kernel) fk_12_111 sh_7 (mm_rrs st_7_1) rfl ?_
      refine mV_cV (as := [.ref 20]) (rest := []) (mc1 := 0) (ms1 := 0) (mc := 0) (ms := 0) (by decide +kernel) md_X11_copy lk_12_112 sh_62 rfl rfl rfl (Nat.le_of_ble_eq_true rfl) (mC.mono (mm_contV (fun G6 hK => ?_)) h)
      replace h := hK
      refine mV_iconst (n := 0) (v := nI 0) (by decide +kernel) (by decide) ?_
      refine mV_istore_n (k := 1) (ls' := [some (.ref 0), some (.int (nI 0))]) (by decide +kernel) (Nat.le_of_ble_eq_true rfl) rfl rfl ?_
      exact h
  · replace h := h.2 hc
    refine mV_iconst (n := -1) (v := (-1)) (by decide +kernel) (by decide) ?_
    refine mV_goto (off := 10) (tgt := 37) (by decide +kernel) (by decide) ?_
    refine mV_pfi (by decide +kernel) fk_12_88 sh_0 ?_
    refine mV_aload_n (k := 0) (by decide +kernel) rfl ?_
    refine mV_gfr (r := some 7) (by decide +kernel) fk_12_21 sh_0 (mm_rrs st_0_1) rfl ?_
    refine mV_gfix (x := mg_i G2 7 2) (by decide +kernel) fk_12_102 sh_7 rfl ?_
    refine mV_if_ne (off := 55) (tgt := 102) (by decide +kernel) (by decide) (fun hc => ?_) (fun hc => ?_)
    · replace h := h.1 hc
      refine mV_aload_n (k := 0) (by decide +kernel) rfl ?_
      refine mV_gfr (r := some 7) (by decide +kernel) fk_12_21 sh_0 (mm_rrs st_0_1) rfl ?_
      refine mV_gfix (x := mg_i G2 7 2) (by decide +kernel) fk_12_102 sh_7 rfl ?_
      exact mV_iret (by decide +kernel) rfl h
    · replace h := h.2 hc
      refine mV_aload_n (k := 0) (by decide +kernel) rfl ?_
      refine mV_gfr (r := some 50) (by decide +kernel) fk_12_28 sh_0 (mm_rrs st_0_2) rfl ?_
      refine mV_aload_n (k := 0) (by decide +kernel) rfl ?_
      refine mV_gfr (r := some 7) (by decide +kernel) fk_12_21 sh_0 (mm_rrs st_0_1) rfl ?_
      refine mV_gfr (r := some 8) (by decide +kernel) fk_12_106 sh_7 (mm_rrs st_7_0) rfl ?_
      refine mV_cV (as := [.ref 8]) (rest := []) (mc1 := 0) (ms1 := 0) (mc := 0) (ms := 0) (by decide +kernel) md_X7_copy lk_12_107 sh_50 rfl rfl rfl (Nat.le_of_ble_eq_true rfl) (mC.mono (mm_contV (fun G8 hK => ?_)) h)
      replace h := hK
      refine mV_aload_n (k := 0) (by decide +kernel) rfl ?_
      refine mV_gfr (r := some 62) (by decide +kernel) fk_12_35 sh_0 (mm_rrs st_0_3) rfl ?_
      refine mV_aload_n (k := 0) (by decide +kernel) rfl ?_
      refine mV_gfr (r := some 7) (by decide +kernel) fk_12_21 sh_0 (mm_rrs st_0_1) rfl ?_
      refine mV_gfr (r := some 20) (by decide +kernel) fk_12_111 sh_7 (mm_rrs st_7_1) rfl ?_
      refine mV_cV (as := [.ref 20]) (rest := []) (mc1 := 0) (ms1 := 0) (mc := 0) (ms := 0) (by decide +kernel) md_X11_copy lk_12_112 sh_62 rfl rfl rfl (Nat.le_of_ble_eq_true rfl) (mC.mono (mm_contV (fun G10 hK => ?_)) h)
      replace h := hK
      refine mV_iconst (n := 0) (v := nI 0) (by decide +kernel) (by decide) ?_
      refine mV_istore_n (k := 1) (ls' := [some (.ref 0), some (.int (nI 0))]) (by decide +kernel) (Nat.le_of_ble_eq_true rfl) rfl rfl ?_
      exact h
set_option maxRecDepth 100000 in
set_option maxHeartbeats 4000000 in
theorem p_X12_read_80 {l : Launch} {κ : mm_K} {d mc ms : Nat} {G : mm_G} {K : Int32 → mm_G → Prop} (v1 : Int32) (h : (((nI 3) ≤ v1 → mC l κ true (d + 6) 0 0 m_X12_rowsChanged [.ref 0] G (rV (fun G2 => K (mg_i G2 7 2) G2))) ∧ (¬ (nI 3) ≤ v1 → vp_in v1 3 ∧ mV l κ true (d + 7) mc ms m_X12_read 80 [some (.ref 0), some (.int (v1 + (nI 1)))] [] (ms_i G 225 v1.toNatClampNeg (vp_nar .boolean (nI 0))) (rI K)))) : mV l κ true (d + 7) mc ms m_X12_read 80 [some (.ref 0), some (.int v1)] [] G (rI K) := by
  refine mV_iload_n (k := 1) (by decide +kernel) rfl ?_
  refine mV_iconst (n := 3) (v := nI 3) (by decide +kernel) (by decide) ?_
  refine mV_icmp_ge (off := 16) (tgt := 98) (by decide +kernel) (by decide) (fun hc => ?_) (fun hc => ?_)
  · replace h := h.1 hc
    refine mV_aload_n (k := 0) (by decide +kernel) rfl ?_
    refine mV_bud (mc' := 0 + mc) (ms' := 0 + ms) (Nat.zero_add _) (Nat.zero_add _) ?_
    refine mV_cV (as := []) (rest := []) (mc1 := 0) (ms1 := 0) (mc := mc) (ms := ms) (by decide +kernel) md_X12_rowsChanged lk_12_115 sh_0 rfl rfl rfl (Nat.le_of_ble_eq_true rfl) (mC.mono (mm_contV (fun G2 hK => ?_)) h)
    replace h := hK
    refine mV_aload_n (k := 0) (by decide +kernel) rfl ?_
    refine mV_gfr (r := some 7) (by decide +kernel) fk_12_21 sh_0 (mm_rrs st_0_1) rfl ?_
    refine mV_gfix (x := mg_i G2 7 2) (by decide +kernel) fk_12_102 sh_7 rfl ?_
    exact mV_iret (by decide +kernel) rfl h
  · replace h := h.2 hc
    refine mV_aload_n (k := 0) (by decide +kernel) rfl ?_
    refine mV_gfr (r := some 225) (by decide +kernel) fk_12_84 sh_0 (mm_rrs st_0_10) rfl ?_
    refine mV_iload_n (k := 1) (by decide +kernel) rfl ?_
    refine mV_iconst (n := 0) (v := nI 0) (by decide +kernel) (by decide) ?_
    refine mV_zas (by decide +kernel) sh_225 h.1 ?_
    replace h := h.2
    refine mV_iincc (i := 1) (n := 1) (c := nI 1) (ls' := [some (.ref 0), some (.int (v1 + (nI 1)))]) (by decide +kernel) (by decide) rfl (Nat.le_of_ble_eq_true rfl) rfl rfl ?_
    refine mV_goto (off := -15) (tgt := 80) (by decide +kernel) (by decide) ?_
    exact h
set_option maxRecDepth 100000 in
set_option maxHeartbeats 4000000 in
theorem e_X12_place {l : Launch} {κ : mm_K} {d : Nat} {G : mm_G} {K : Int32 → mm_G → Prop}  (h : K (mg_i G 0 11) G) : mC l κ true d 0 0 m_X12_place [.ref 0] G (rI K) := by
  refine mC.of (by decide) (Nat.le_of_ble_eq_true rfl) [some (.ref 0)] rfl ?_
  refine mV_aload_n (k := 0) (by decide +kernel) rfl ?_
  refine mV_gfix (x := mg_i G 0 11) (by decide +kernel) fk_12_88 sh_0 rfl ?_
  exact mV_iret (by decide +kernel) rfl h
set_option maxRecDepth 100000 in
set_option maxHeartbeats 4000000 in
theorem e_X12_lines {l : Launch} {κ : mm_K} {d : Nat} {G : mm_G} {K : Int32 → mm_G → Prop} (a1 : Int32) (h : mC l κ true d 0 0 m_X12_hasRow [.ref 0, .int a1] G (rI (fun r1 G2 => ((r1 = 0 → K (-1) G2) ∧ (¬ r1 = 0 → vp_in a1 4 ∧ K (mg_i G2 (54 + 2 * a1.toNatClampNeg) 1) G2))))) : mC l κ true (d + 1) 0 0 m_X12_lines [.ref 0, .int a1] G (rI K) := by
  refine mC.of (by decide) (Nat.le_of_ble_eq_true rfl) [some (.ref 0), some (.int a1)] rfl ?_
  refine mV_aload_n (k := 0) (by decide +kernel) rfl ?_
  refine mV_iload_n (k := 1) (by decide +kernel) rfl ?_
  refine mV_cV (as := [.int a1]) (rest := []) (mc1 := 0) (ms1 := 0) (mc := 0) (ms := 0) (by decide +kernel) md_X12_hasRow lk_12_118 sh_0 rfl rfl rfl (Nat.le_of_ble_eq_true rfl) (mC.mono (mm_contI (fun r1 G2 hK => ?_)) h)
  replace h := hK
  refine mV_if_eq (off := 18) (tgt := 23) (by decide +kernel) (by decide) (fun hc => ?_) (fun hc => ?_)
  · replace h := h.1 hc
    refine mV_iconst (n := -1) (v := (-1)) (by decide +kernel) (by decide) ?_
    exact mV_iret (by decide +kernel) rfl h
  · replace h := h.2 hc
    refine mV_aload_n (k := 0) (by decide +kernel) rfl ?_
    refine mV_gfr (r := some 50) (by decide +kernel) fk_12_28 sh_0 (mm_rrs st_0_2) rfl ?_
    refine mV_gfr (r := some 51) (by decide +kernel) fk_12_122 sh_50 (mm_rrs st_50_0) rfl ?_
    refine mV_iload_n (k := 1) (by decide +kernel) rfl ?_
    have hj3 := h.1
    replace h := h.2
    refine mV_aal (t := 5) (r := some (54 + 2 * a1.toNatClampNeg)) (by decide +kernel) sh_51 (by decide) hj3 (mm_rrs (mm_rs50.2.2.2.2.2.2.2.1 _ (mm_ixlt hj3))) rfl ?_
    refine mV_gfix (x := mg_i G2 (54 + 2 * a1.toNatClampNeg) 1) (by decide +kernel) fk_12_126 (mm_rs50.2.2.2.2.2.2.2.2 _ (mm_ixlt hj3)).1 rfl ?_
    refine mV_goto (off := 4) (tgt := 24) (by decide +kernel) (by decide) ?_
    exact mV_iret (by decide +kernel) rfl h
set_option maxRecDepth 100000 in
set_option maxHeartbeats 4000000 in
theorem e_X12_line {l : Launch} {κ : mm_K} {d : Nat} {G : mm_G} {K : Int32 → mm_G → Prop} (a1 : Int32) (a2 : Int32) (a3 : Int32) (h : mC l κ true (d + 1) 0 0 m_X12_hasLine [.ref 0, .int a1, .int a2] G (rI (fun r1 G2 => ((¬ r1 = 0 → vp_in a1 4 ∧ vp_in a2 16 ∧ ∃ t5, mg_r G2 ((54 + 2 * a1.toNatClampNeg) + 1) a2.toNatClampNeg = some t5 ∧ LineAt t5 ∧ ((¬ a3 = 0 → ((¬ a3 = (nI 1) → ((¬ a3 = (nI 2) → K (-1) G2) ∧ (a3 = (nI 2) → (((mg_i G2 t5 1) = (nI 6) → vp_in a1 4 ∧ mC l κ true (d + 1) 0 0 m_X6_where [.ref (54 + 2 * a1.toNatClampNeg), .long (mg_l G2 t5 9), .int (nI 0)] G2 (rI (fun r7 G8 => ((0 ≤ r7 → K r7 G8) ∧ (¬ 0 ≤ r7 → K (-2) G8))))) ∧ (¬ (mg_i G2 t5 1) = (nI 6) → (((mg_i G2 t5 1) = (nI 7) → vp_in a1 4 ∧ mC l κ true (d + 1) 0 0 m_X6_where [.ref (54 + 2 * a1.toNatClampNeg), .long (mg_l G2 t5 9), .int (nI 0)] G2 (rI (fun r10 G11 => ((0 ≤ r10 → K r10 G11) ∧ (¬ 0 ≤ r10 → K (-2) G11))))) ∧ (¬ (mg_i G2 t5 1) = (nI 7) → K (-1) G2))))))) ∧ (a3 = (nI 1) → K (mg_i G2 t5 2) G2))) ∧ (a3 = 0 → K (mg_i G2 t5 1) G2))) ∧ (r1 = 0 → K (-1) G2))))) : mC l κ true (d + 2) 0 0 m_X12_line [.ref 0, .int a1, .int a2, .int a3] G (rI K) := by
  refine mC.of (by decide) (Nat.le_of_ble_eq_true rfl) [some (.ref 0), some (.int a1), some (.int a2), some (.int a3), none, none] rfl ?_
  refine mV_aload_n (k := 0) (by decide +kernel) rfl ?_
  refine mV_iload_n (k := 1) (by decide +kernel) rfl ?_
  refine mV_iload_n (k := 2) (by decide +kernel) rfl ?_
  refine mV_cV (as := [.int a1, .int a2]) (rest := []) (mc1 := 0) (ms1 := 0) (mc := 0) (ms := 0) (by decide +kernel) md_X12_hasLine lk_12_131 sh_0 rfl rfl rfl (Nat.le_of_ble_eq_true rfl) (mC.mono (mm_contI (fun r1 G2 hK => ?_)) h)
  replace h := hK
  refine mV_if_ne (off := 5) (tgt := 11) (by decide +kernel) (by decide) (fun hc => ?_) (fun hc => ?_)
  · replace h := h.1 hc
    refine mV_aload_n (k := 0) (by decide +kernel) rfl ?_
    refine mV_gfr (r := some 50) (by decide +kernel) fk_12_28 sh_0 (mm_rrs st_0_2) rfl ?_
    refine mV_gfr (r := some 51) (by decide +kernel) fk_12_122 sh_50 (mm_rrs st_50_0) rfl ?_
    refine mV_iload_n (k := 1) (by decide +kernel) rfl ?_
    have hj3 := h.1
    replace h := h.2
    refine mV_aal (t := 5) (r := some (54 + 2 * a1.toNatClampNeg)) (by decide +kernel) sh_51 (by decide) hj3 (mm_rrs (mm_rs50.2.2.2.2.2.2.2.1 _ (mm_ixlt hj3))) rfl ?_
    refine mV_gfr (r := some ((54 + 2 * a1.toNatClampNeg) + 1)) (by decide +kernel) fk_12_135 (mm_rs50.2.2.2.2.2.2.2.2 _ (mm_ixlt hj3)).1 (mm_rrs (mm_rs50.2.2.2.2.2.2.2.2 _ (mm_ixlt hj3)).2.2.1) rfl ?_
    refine mV_iload_n (k := 2) (by decide +kernel) rfl ?_
    have hj4 := h.1
    replace h := h.2
    obtain ⟨t5, hrt5, hat5, h⟩ := h
    refine mV_aal (t := 4) (r := some t5) (by decide +kernel) (mm_rs50.2.2.2.2.2.2.2.2 _ (mm_ixlt hj3)).2.1 (by decide) hj4 ((mm_rrd ((mm_rs50.2.2.2.2.2.2.2.2 _ (mm_ixlt hj3)).2.2.2 _ (mm_ixlt hj4))).trans hrt5) rfl ?_
    refine mV_astore (i := 4) (ls' := [some (.ref 0), some (.int a1), some (.int a2), some (.int a3), some (.ref t5), none]) (by decide +kernel) (Nat.le_of_ble_eq_true rfl) rfl rfl ?_
    refine mV_iload_n (k := 3) (by decide +kernel) rfl ?_
    refine mV_if_ne (off := 9) (tgt := 37) (by decide +kernel) (by decide) (fun hc => ?_) (fun hc => ?_)
    · replace h := h.1 hc
      refine mV_iload_n (k := 3) (by decide +kernel) rfl ?_
      refine mV_iconst (n := 1) (v := nI 1) (by decide +kernel) (by decide) ?_
      refine mV_icmp_ne (off := 9) (tgt := 48) (by decide +kernel) (by decide) (fun hc => ?_) (fun hc => ?_)
      · replace h := h.1 hc
        refine mV_iload_n (k := 3) (by decide +kernel) rfl ?_
        refine mV_iconst (n := 2) (v := nI 2) (by decide +kernel) (by decide) ?_
        refine mV_icmp_ne (off := 23) (tgt := 73) (by decide +kernel) (by decide) (fun hc => ?_) (fun hc => ?_)
        · replace h := h.1 hc
          refine mV_iconst (n := -1) (v := (-1)) (by decide +kernel) (by decide) ?_
          exact mV_iret (by decide +kernel) rfl h
        · replace h := h.2 hc
          refine mV_aload (i := 4) (by decide +kernel) rfl ?_
          refine mV_gfix (x := mg_i G2 t5 1) (by decide +kernel) fk_12_139 hat5 rfl ?_
          refine mV_bipush (n := 6) (v := nI 6) (by decide +kernel) (by decide) ?_
          refine mV_icmp_eq (off := 15) (tgt := 75) (by decide +kernel) (by decide) (fun hc => ?_) (fun hc => ?_)
          · replace h := h.1 hc
            refine mV_aload_n (k := 0) (by decide +kernel) rfl ?_
            refine mV_gfr (r := some 50) (by decide +kernel) fk_12_28 sh_0 (mm_rrs st_0_2) rfl ?_
            refine mV_gfr (r := some 51) (by decide +kernel) fk_12_122 sh_50 (mm_rrs st_50_0) rfl ?_
            refine mV_iload_n (k := 1) (by decide +kernel) rfl ?_
            have hj6 := h.1
            replace h := h.2
            refine mV_aal (t := 5) (r := some (54 + 2 * a1.toNatClampNeg)) (by decide +kernel) sh_51 (by decide) hj6 (mm_rrs (mm_rs50.2.2.2.2.2.2.2.1 _ (mm_ixlt hj6))) rfl ?_
            refine mV_aload (i := 4) (by decide +kernel) rfl ?_
            refine mV_gflx (x := mg_l G2 t5 9) (by decide +kernel) fk_12_146 hat5 rfl ?_
            refine mV_iconst (n := 0) (v := nI 0) (by decide +kernel) (by decide) ?_
            refine mV_cV (as := [.long (mg_l G2 t5 9), .int (nI 0)]) (rest := []) (mc1 := 0) (ms1 := 0) (mc := 0) (ms := 0) (by decide +kernel) md_X6_where lk_12_150 (mm_rs50.2.2.2.2.2.2.2.2 _ (mm_ixlt hj6)).1 rfl rfl rfl (Nat.le_of_ble_eq_true rfl) (mC.mono (mm_contI (fun r7 G8 hK => ?_)) h)
            replace h := hK
            refine mV_istore (i := 5) (ls' := [some (.ref 0), some (.int a1), some (.int a2), some (.int a3), some (.ref t5), some (.int r7)]) (by decide +kernel) (Nat.le_of_ble_eq_true rfl) rfl rfl ?_
            refine mV_iload (i := 5) (by decide +kernel) rfl ?_
            refine mV_if_ge (off := 8) (tgt := 105) (by decide +kernel) (by decide) (fun hc => ?_) (fun hc => ?_)
            · replace h := h.1 hc
              refine mV_iload (i := 5) (by decide +kernel) rfl ?_
              exact mV_iret (by decide +kernel) rfl h
            · replace h := h.2 hc
              refine mV_bipush (n := -2) (v := (-2)) (by decide +kernel) (by decide) ?_
              refine mV_goto (off := 5) (tgt := 107) (by decide +kernel) (by decide) ?_
              exact mV_iret (by decide +kernel) rfl h
          · replace h := h.2 hc
            refine mV_aload (i := 4) (by decide +kernel) rfl ?_
            refine mV_gfix (x := mg_i G2 t5 1) (by decide +kernel) fk_12_139 hat5 rfl ?_
            refine mV_bipush (n := 7) (v := nI 7) (by decide +kernel) (by decide) ?_
            refine mV_icmp_eq (off := 5) (tgt := 75) (by decide +kernel) (by decide) (fun hc => ?_) (fun hc => ?_)
            · replace h := h.1 hc
              refine mV_aload_n (k := 0) (by decide +kernel) rfl ?_
              refine mV_gfr (r := some 50) (by decide +kernel) fk_12_28 sh_0 (mm_rrs st_0_2) rfl ?_
              refine mV_gfr (r := some 51) (by decide +kernel) fk_12_122 sh_50 (mm_rrs st_50_0) rfl ?_
              refine mV_iload_n (k := 1) (by decide +kernel) rfl ?_
              have hj9 := h.1
              replace h := h.2
              refine mV_aal (t := 5) (r := some (54 + 2 * a1.toNatClampNeg)) (by decide +kernel) sh_51 (by decide) hj9 (mm_rrs (mm_rs50.2.2.2.2.2.2.2.1 _ (mm_ixlt hj9))) rfl ?_
              refine mV_aload (i := 4) (by decide +kernel) rfl ?_
              refine mV_gflx (x := mg_l G2 t5 9) (by decide +kernel) fk_12_146 hat5 rfl ?_
              refine mV_iconst (n := 0) (v := nI 0) (by decide +kernel) (by decide) ?_
              refine mV_cV (as := [.long (mg_l G2 t5 9), .int (nI 0)]) (rest := []) (mc1 := 0) (ms1 := 0) (mc := 0) (ms := 0) (by decide +kernel) md_X6_where lk_12_150 (mm_rs50.2.2.2.2.2.2.2.2 _ (mm_ixlt hj9)).1 rfl rfl rfl (Nat.le_of_ble_eq_true rfl) (mC.mono (mm_contI (fun r10 G11 hK => ?_)) h)
              replace h := hK
              refine mV_istore (i := 5) (ls' := [some (.ref 0), some (.int a1), some (.int a2), some (.int a3), some (.ref t5), some (.int r10)]) (by decide +kernel) (Nat.le_of_ble_eq_true rfl) rfl rfl ?_
              refine mV_iload (i := 5) (by decide +kernel) rfl ?_
              refine mV_if_ge (off := 8) (tgt := 105) (by decide +kernel) (by decide) (fun hc => ?_) (fun hc => ?_)
              · replace h := h.1 hc
                refine mV_iload (i := 5) (by decide +kernel) rfl ?_
                exact mV_iret (by decide +kernel) rfl h
              · replace h := h.2 hc
                refine mV_bipush (n := -2) (v := (-2)) (by decide +kernel) (by decide) ?_
                refine mV_goto (off := 5) (tgt := 107) (by decide +kernel) (by decide) ?_
                exact mV_iret (by decide +kernel) rfl h
            · replace h := h.2 hc
              refine mV_iconst (n := -1) (v := (-1)) (by decide +kernel) (by decide) ?_
              exact mV_iret (by decide +kernel) rfl h
      · replace h := h.2 hc
        refine mV_aload (i := 4) (by decide +kernel) rfl ?_
        refine mV_gfix (x := mg_i G2 t5 2) (by decide +kernel) fk_12_144 hat5 rfl ?_
        exact mV_iret (by decide +kernel) rfl h
    · replace h := h.2 hc
      refine mV_aload (i := 4) (by decide +kernel) rfl ?_
      refine mV_gfix (x := mg_i G2 t5 1) (by decide +kernel) fk_12_139 hat5 rfl ?_
      exact mV_iret (by decide +kernel) rfl h
  · replace h := h.2 hc
    refine mV_iconst (n := -1) (v := (-1)) (by decide +kernel) (by decide) ?_
    exact mV_iret (by decide +kernel) rfl h
set_option maxRecDepth 100000 in
set_option maxHeartbeats 4000000 in
theorem e_X12_run {l : Launch} {κ : mm_K} {d : Nat} {G : mm_G} {K : Int32 → mm_G → Prop} (a1 : Int32) (a2 : Int32) (a3 : Int32) (h : mC l κ true (d + 2) 0 0 m_X12_hasRun [.ref 0, .int a1, .int a2, .int a3] G (rI (fun r1 G2 => ((¬ r1 = 0 → vp_in a1 4 ∧ mC l κ true (d + 2) 0 0 m_X3_runs [.ref 91, .ref (54 + 2 * a1.toNatClampNeg), .int a2, .int a3, .null] G2 (rV (fun G5 => K (mg_i G5 92 2) G5))) ∧ (r1 = 0 → K (-1) G2))))) : mC l κ true (d + 3) 0 0 m_X12_run [.ref 0, .int a1, .int a2, .int a3] G (rI K) := by
  refine mC.of (by decide) (Nat.le_of_ble_eq_true rfl) [some (.ref 0), some (.int a1), some (.int a2), some (.int a3)] rfl ?_
  refine mV_aload_n (k := 0) (by decide +kernel) rfl ?_
  refine mV_iload_n (k := 1) (by decide +kernel) rfl ?_
  refine mV_iload_n (k := 2) (by decide +kernel) rfl ?_
  refine mV_iload_n (k := 3) (by decide +kernel) rfl ?_
  refine mV_cV (as := [.int a1, .int a2, .int a3]) (rest := []) (mc1 := 0) (ms1 := 0) (mc := 0) (ms := 0) (by decide +kernel) md_X12_hasRun lk_12_154 sh_0 rfl rfl rfl (Nat.le_of_ble_eq_true rfl) (mC.mono (mm_contI (fun r1 G2 hK => ?_)) h)
  replace h := hK
  refine mV_if_ne (off := 5) (tgt := 12) (by decide +kernel) (by decide) (fun hc => ?_) (fun hc => ?_)
  · replace h := h.1 hc
    refine mV_aload_n (k := 0) (by decide +kernel) rfl ?_
    refine mV_gfr (r := some 91) (by decide +kernel) fk_12_44 sh_0 (mm_rrs st_0_4) rfl ?_
    refine mV_aload_n (k := 0) (by decide +kernel) rfl ?_
    refine mV_gfr (r := some 50) (by decide +kernel) fk_12_28 sh_0 (mm_rrs st_0_2) rfl ?_
    refine mV_gfr (r := some 51) (by decide +kernel) fk_12_122 sh_50 (mm_rrs st_50_0) rfl ?_
    refine mV_iload_n (k := 1) (by decide +kernel) rfl ?_
    have hj3 := h.1
    replace h := h.2
    refine mV_aal (t := 5) (r := some (54 + 2 * a1.toNatClampNeg)) (by decide +kernel) sh_51 (by decide) hj3 (mm_rrs (mm_rs50.2.2.2.2.2.2.2.1 _ (mm_ixlt hj3))) rfl ?_
    refine mV_iload_n (k := 2) (by decide +kernel) rfl ?_
    refine mV_iload_n (k := 3) (by decide +kernel) rfl ?_
    refine mV_null (by decide +kernel) ?_
    refine mV_cV (as := [.ref (54 + 2 * a1.toNatClampNeg), .int a2, .int a3, .null]) (rest := []) (mc1 := 0) (ms1 := 0) (mc := 0) (ms := 0) (by decide +kernel) md_X3_runs lk_12_158 sh_91 rfl rfl rfl (Nat.le_of_ble_eq_true rfl) (mC.mono (mm_contV (fun G5 hK => ?_)) h)
    replace h := hK
    refine mV_aload_n (k := 0) (by decide +kernel) rfl ?_
    refine mV_gfr (r := some 91) (by decide +kernel) fk_12_44 sh_0 (mm_rrs st_0_4) rfl ?_
    refine mV_gfr (r := some 92) (by decide +kernel) fk_12_162 sh_91 (mm_rrs st_91_0) rfl ?_
    refine mV_gfix (x := mg_i G5 92 2) (by decide +kernel) fk_12_166 sh_92 rfl ?_
    exact mV_iret (by decide +kernel) rfl h
  · replace h := h.2 hc
    refine mV_iconst (n := -1) (v := (-1)) (by decide +kernel) (by decide) ?_
    exact mV_iret (by decide +kernel) rfl h
set_option maxRecDepth 100000 in
set_option maxHeartbeats 4000000 in
theorem e_X12_after {l : Launch} {κ : mm_K} {d : Nat} {G : mm_G} {K : Int32 → mm_G → Prop} (a1 : Int32) (a2 : Int32) (a3 : Int32) (a4 : Int32) (h : mC l κ true (d + 2) 0 0 m_X12_hasRun [.ref 0, .int a1, .int a2, .int a3] G (rI (fun r1 G2 => ((r1 = 0 → K (-1) G2) ∧ (¬ r1 = 0 → ((a4 < 0 → K (-1) G2) ∧ (¬ a4 < 0 → ((a4 ≤ (nI 5) → vp_in a1 4 ∧ mC l κ true (d + 2) 0 0 m_X3_runs [.ref 91, .ref (54 + 2 * a1.toNatClampNeg), .int a2, .int a3, .null] G2 (rV (fun G5 => ((¬ a4 = 0 → ((¬ a4 = (nI 1) → vp_in (a4 - (nI 2)) 4 ∧ K (mg_i G5 94 ((a4 - (nI 2)).toNatClampNeg)) G5) ∧ (a4 = (nI 1) → K (mg_i G5 91 3) G5))) ∧ (a4 = 0 → K (mg_i G5 92 1) G5))))) ∧ (¬ a4 ≤ (nI 5) → K (-1) G2))))))))) : mC l κ true (d + 3) 0 0 m_X12_after [.ref 0, .int a1, .int a2, .int a3, .int a4] G (rI K) := by
  refine mC.of (by decide) (Nat.le_of_ble_eq_true rfl) [some (.ref 0), some (.int a1), some (.int a2), some (.int a3), some (.int a4)] rfl ?_
  refine mV_aload_n (k := 0) (by decide +kernel) rfl ?_
  refine mV_iload_n (k := 1) (by decide +kernel) rfl ?_
  refine mV_iload_n (k := 2) (by decide +kernel) rfl ?_
  refine mV_iload_n (k := 3) (by decide +kernel) rfl ?_
  refine mV_cV (as := [.int a1, .int a2, .int a3]) (rest := []) (mc1 := 0) (ms1 := 0) (mc := 0) (ms := 0) (by decide +kernel) md_X12_hasRun lk_12_154 sh_0 rfl rfl rfl (Nat.le_of_ble_eq_true rfl) (mC.mono (mm_contI (fun r1 G2 hK => ?_)) h)
  replace h := hK
  refine mV_if_eq (off := 14) (tgt := 21) (by decide +kernel) (by decide) (fun hc => ?_) (fun hc => ?_)
  · replace h := h.1 hc
    refine mV_iconst (n := -1) (v := (-1)) (by decide +kernel) (by decide) ?_
    exact mV_iret (by decide +kernel) rfl h
  · replace h := h.2 hc
    refine mV_iload (i := 4) (by decide +kernel) rfl ?_
    refine mV_if_lt (off := 9) (tgt := 21) (by decide +kernel) (by decide) (fun hc => ?_) (fun hc => ?_)
    · replace h := h.1 hc
      refine mV_iconst (n := -1) (v := (-1)) (by decide +kernel) (by decide) ?_
      exact mV_iret (by decide +kernel) rfl h
    · replace h := h.2 hc
      refine mV_iload (i := 4) (by decide +kernel) rfl ?_
      refine mV_iconst (n := 5) (v := nI 5) (by decide +kernel) (by decide) ?_
      refine mV_icmp_le (off := 5) (tgt := 23) (by decide +kernel) (by decide) (fun hc => ?_) (fun hc => ?_)
      · replace h := h.1 hc
        refine mV_aload_n (k := 0) (by decide +kernel) rfl ?_
        refine mV_gfr (r := some 91) (by decide +kernel) fk_12_44 sh_0 (mm_rrs st_0_4) rfl ?_
        refine mV_aload_n (k := 0) (by decide +kernel) rfl ?_
        refine mV_gfr (r := some 50) (by decide +kernel) fk_12_28 sh_0 (mm_rrs st_0_2) rfl ?_
        refine mV_gfr (r := some 51) (by decide +kernel) fk_12_122 sh_50 (mm_rrs st_50_0) rfl ?_
        refine mV_iload_n (k := 1) (by decide +kernel) rfl ?_
        have hj3 := h.1
        replace h := h.2
        refine mV_aal (t := 5) (r := some (54 + 2 * a1.toNatClampNeg)) (by decide +kernel) sh_51 (by decide) hj3 (mm_rrs (mm_rs50.2.2.2.2.2.2.2.1 _ (mm_ixlt hj3))) rfl ?_
        refine mV_iload_n (k := 2) (by decide +kernel) rfl ?_
        refine mV_iload_n (k := 3) (by decide +kernel) rfl ?_
        refine mV_null (by decide +kernel) ?_
        refine mV_cV (as := [.ref (54 + 2 * a1.toNatClampNeg), .int a2, .int a3, .null]) (rest := []) (mc1 := 0) (ms1 := 0) (mc := 0) (ms := 0) (by decide +kernel) md_X3_runs lk_12_158 sh_91 rfl rfl rfl (Nat.le_of_ble_eq_true rfl) (mC.mono (mm_contV (fun G5 hK => ?_)) h)
        replace h := hK
        refine mV_iload (i := 4) (by decide +kernel) rfl ?_
        refine mV_if_ne (off := 14) (tgt := 58) (by decide +kernel) (by decide) (fun hc => ?_) (fun hc => ?_)
        · replace h := h.1 hc
          refine mV_iload (i := 4) (by decide +kernel) rfl ?_
          refine mV_iconst (n := 1) (v := nI 1) (by decide +kernel) (by decide) ?_
          refine mV_icmp_ne (off := 13) (tgt := 74) (by decide +kernel) (by decide) (fun hc => ?_) (fun hc => ?_)
          · replace h := h.1 hc
            refine mV_aload_n (k := 0) (by decide +kernel) rfl ?_
            refine mV_gfr (r := some 91) (by decide +kernel) fk_12_44 sh_0 (mm_rrs st_0_4) rfl ?_
            refine mV_gfr (r := some 94) (by decide +kernel) fk_12_175 sh_91 (mm_rrs st_91_1) rfl ?_
            refine mV_iload (i := 4) (by decide +kernel) rfl ?_
            refine mV_iconst (n := 2) (v := nI 2) (by decide +kernel) (by decide) ?_
            refine mV_isub (by decide +kernel) ?_
            refine mV_ialx (x := mg_i G5 94 ((a4 - (nI 2)).toNatClampNeg)) (by decide +kernel) sh_94 h.1 rfl ?_
            replace h := h.2
            exact mV_iret (by decide +kernel) rfl h
          · replace h := h.2 hc
            refine mV_aload_n (k := 0) (by decide +kernel) rfl ?_
            refine mV_gfr (r := some 91) (by decide +kernel) fk_12_44 sh_0 (mm_rrs st_0_4) rfl ?_
            refine mV_gfix (x := mg_i G5 91 3) (by decide +kernel) fk_12_172 sh_91 rfl ?_
            refine mV_goto (off := 15) (tgt := 86) (by decide +kernel) (by decide) ?_
            exact mV_iret (by decide +kernel) rfl h
        · replace h := h.2 hc
          refine mV_aload_n (k := 0) (by decide +kernel) rfl ?_
          refine mV_gfr (r := some 91) (by decide +kernel) fk_12_44 sh_0 (mm_rrs st_0_4) rfl ?_
          refine mV_gfr (r := some 92) (by decide +kernel) fk_12_162 sh_91 (mm_rrs st_91_0) rfl ?_
          refine mV_gfix (x := mg_i G5 92 1) (by decide +kernel) fk_12_171 sh_92 rfl ?_
          exact mV_iret (by decide +kernel) rfl h
      · replace h := h.2 hc
        refine mV_iconst (n := -1) (v := (-1)) (by decide +kernel) (by decide) ?_
        exact mV_iret (by decide +kernel) rfl h
set_option maxRecDepth 100000 in
set_option maxHeartbeats 4000000 in
theorem e_X12_out {l : Launch} {κ : mm_K} {d : Nat} {G : mm_G} {K : Int32 → mm_G → Prop} (a1 : Int32) (a2 : Int32) (a3 : Int32) (a4 : Int32) (h : mC l κ true (d + 2) 0 0 m_X12_hasRun [.ref 0, .int a1, .int a2, .int a3] G (rI (fun r1 G2 => ((¬ r1 = 0 → vp_in a1 4 ∧ mC l κ true (d + 2) 0 0 m_X3_runs [.ref 91, .ref (54 + 2 * a1.toNatClampNeg), .int a2, .int a3, .null] G2 (rV (fun G5 => ((a4 < 0 → K (-2147483648) G5) ∧ (¬ a4 < 0 → (((mg_i G5 92 1) ≤ a4 → K (-2147483648) G5) ∧ (¬ (mg_i G5 92 1) ≤ a4 → vp_in a4 8 ∧ K (mg_i G5 93 a4.toNatClampNeg) G5))))))) ∧ (r1 = 0 → K (-2147483648) G2))))) : mC l κ true (d + 3) 0 0 m_X12_out [.ref 0, .int a1, .int a2, .int a3, .int a4] G (rI K) := by
  refine mC.of (by decide) (Nat.le_of_ble_eq_true rfl) [some (.ref 0), some (.int a1), some (.int a2), some (.int a3), some (.int a4)] rfl ?_
  refine mV_aload_n (k := 0) (by decide +kernel) rfl ?_
  refine mV_iload_n (k := 1) (by decide +kernel) rfl ?_
  refine mV_iload_n (k := 2) (by decide +kernel) rfl ?_
  refine mV_iload_n (k := 3) (by decide +kernel) rfl ?_
  refine mV_cV (as := [.int a1, .int a2, .int a3]) (rest := []) (mc1 := 0) (ms1 := 0) (mc := 0) (ms := 0) (by decide +kernel) md_X12_hasRun lk_12_154 sh_0 rfl rfl rfl (Nat.le_of_ble_eq_true rfl) (mC.mono (mm_contI (fun r1 G2 hK => ?_)) h)
  replace h := hK
  refine mV_if_ne (off := 6) (tgt := 13) (by decide +kernel) (by decide) (fun hc => ?_) (fun hc => ?_)
  · replace h := h.1 hc
    refine mV_aload_n (k := 0) (by decide +kernel) rfl ?_
    refine mV_gfr (r := some 91) (by decide +kernel) fk_12_44 sh_0 (mm_rrs st_0_4) rfl ?_
    refine mV_aload_n (k := 0) (by decide +kernel) rfl ?_
    refine mV_gfr (r := some 50) (by decide +kernel) fk_12_28 sh_0 (mm_rrs st_0_2) rfl ?_
    refine mV_gfr (r := some 51) (by decide +kernel) fk_12_122 sh_50 (mm_rrs st_50_0) rfl ?_
    refine mV_iload_n (k := 1) (by decide +kernel) rfl ?_
    have hj3 := h.1
    replace h := h.2
    refine mV_aal (t := 5) (r := some (54 + 2 * a1.toNatClampNeg)) (by decide +kernel) sh_51 (by decide) hj3 (mm_rrs (mm_rs50.2.2.2.2.2.2.2.1 _ (mm_ixlt hj3))) rfl ?_
    refine mV_iload_n (k := 2) (by decide +kernel) rfl ?_
    refine mV_iload_n (k := 3) (by decide +kernel) rfl ?_
    refine mV_null (by decide +kernel) ?_
    refine mV_cV (as := [.ref (54 + 2 * a1.toNatClampNeg), .int a2, .int a3, .null]) (rest := []) (mc1 := 0) (ms1 := 0) (mc := 0) (ms := 0) (by decide +kernel) md_X3_runs lk_12_158 sh_91 rfl rfl rfl (Nat.le_of_ble_eq_true rfl) (mC.mono (mm_contV (fun G5 hK => ?_)) h)
    replace h := hK
    refine mV_iload (i := 4) (by decide +kernel) rfl ?_
    refine mV_if_lt (off := 34) (tgt := 68) (by decide +kernel) (by decide) (fun hc => ?_) (fun hc => ?_)
    · replace h := h.1 hc
      refine mV_ldc (idx := 179) (v := (-2147483648)) (by decide +kernel) (mm_t4 178 (by decide +kernel)) ?_
      exact mV_iret (by decide +kernel) rfl h
    · replace h := h.2 hc
      refine mV_iload (i := 4) (by decide +kernel) rfl ?_
      refine mV_aload_n (k := 0) (by decide +kernel) rfl ?_
      refine mV_gfr (r := some 91) (by decide +kernel) fk_12_44 sh_0 (mm_rrs st_0_4) rfl ?_
      refine mV_gfr (r := some 92) (by decide +kernel) fk_12_162 sh_91 (mm_rrs st_91_0) rfl ?_
      refine mV_gfix (x := mg_i G5 92 1) (by decide +kernel) fk_12_171 sh_92 rfl ?_
      refine mV_icmp_ge (off := 19) (tgt := 68) (by decide +kernel) (by decide) (fun hc => ?_) (fun hc => ?_)
      · replace h := h.1 hc
        refine mV_ldc (idx := 179) (v := (-2147483648)) (by decide +kernel) (mm_t4 178 (by decide +kernel)) ?_
        exact mV_iret (by decide +kernel) rfl h
      · replace h := h.2 hc
        refine mV_aload_n (k := 0) (by decide +kernel) rfl ?_
        refine mV_gfr (r := some 91) (by decide +kernel) fk_12_44 sh_0 (mm_rrs st_0_4) rfl ?_
        refine mV_gfr (r := some 92) (by decide +kernel) fk_12_162 sh_91 (mm_rrs st_91_0) rfl ?_
        refine mV_gfr (r := some 93) (by decide +kernel) fk_12_180 sh_92 (mm_rrs st_92_0) rfl ?_
        refine mV_iload (i := 4) (by decide +kernel) rfl ?_
        refine mV_ialx (x := mg_i G5 93 a4.toNatClampNeg) (by decide +kernel) sh_93 h.1 rfl ?_
        replace h := h.2
        refine mV_goto (off := 5) (tgt := 70) (by decide +kernel) (by decide) ?_
        exact mV_iret (by decide +kernel) rfl h
  · replace h := h.2 hc
    refine mV_ldc (idx := 179) (v := (-2147483648)) (by decide +kernel) (mm_t4 178 (by decide +kernel)) ?_
    exact mV_iret (by decide +kernel) rfl h
set_option maxRecDepth 100000 in
set_option maxHeartbeats 4000000 in
theorem e_X12_same {l : Launch} {κ : mm_K} {d : Nat} {G : mm_G} {K : Int32 → mm_G → Prop} (a1 : Int32) (a2 : Int32) (h : mC l κ true (d + 4) 0 0 m_X12_hasLost [.ref 0, .int a1, .int a2] G (rI (fun r1 G2 => ((¬ r1 = 0 → mC l κ true (d + 4) 0 0 m_X2_firstOther [.ref 98, .int a1, .int a2] G2 (rI (fun r3 G4 => ((¬ r3 = (-2) → K (nI 0) G4) ∧ (r3 = (-2) → K (nI 1) G4))))) ∧ (r1 = 0 → K (-1) G2))))) : mC l κ true (d + 5) 0 0 m_X12_same [.ref 0, .int a1, .int a2] G (rI K) := by
  refine mC.of (by decide) (Nat.le_of_ble_eq_true rfl) [some (.ref 0), some (.int a1), some (.int a2)] rfl ?_
  refine mV_aload_n (k := 0) (by decide +kernel) rfl ?_
  refine mV_iload_n (k := 1) (by decide +kernel) rfl ?_
  refine mV_iload_n (k := 2) (by decide +kernel) rfl ?_
  refine mV_cV (as := [.int a1, .int a2]) (rest := []) (mc1 := 0) (ms1 := 0) (mc := 0) (ms := 0) (by decide +kernel) md_X12_hasLost lk_12_183 sh_0 rfl rfl rfl (Nat.le_of_ble_eq_true rfl) (mC.mono (mm_contI (fun r1 G2 hK => ?_)) h)
  replace h := hK
  refine mV_if_ne (off := 5) (tgt := 11) (by decide +kernel) (by decide) (fun hc => ?_) (fun hc => ?_)
  · replace h := h.1 hc
    refine mV_aload_n (k := 0) (by decide +kernel) rfl ?_
    refine mV_gfr (r := some 98) (by decide +kernel) fk_12_53 sh_0 (mm_rrs st_0_5) rfl ?_
    refine mV_iload_n (k := 1) (by decide +kernel) rfl ?_
    refine mV_iload_n (k := 2) (by decide +kernel) rfl ?_
    refine mV_cV (as := [.int a1, .int a2]) (rest := []) (mc1 := 0) (ms1 := 0) (mc := 0) (ms := 0) (by decide +kernel) md_X2_firstOther lk_12_186 sh_98 rfl rfl rfl (Nat.le_of_ble_eq_true rfl) (mC.mono (mm_contI (fun r3 G4 hK => ?_)) h)
    replace h := hK
    refine mV_bipush (n := -2) (v := (-2)) (by decide +kernel) (by decide) ?_
    refine mV_icmp_ne (off := 7) (tgt := 29) (by decide +kernel) (by decide) (fun hc => ?_) (fun hc => ?_)
    · replace h := h.1 hc
      refine mV_iconst (n := 0) (v := nI 0) (by decide +kernel) (by decide) ?_
      exact mV_iret (by decide +kernel) rfl h
    · replace h := h.2 hc
      refine mV_iconst (n := 1) (v := nI 1) (by decide +kernel) (by decide) ?_
      refine mV_goto (off := 4) (tgt := 30) (by decide +kernel) (by decide) ?_
      exact mV_iret (by decide +kernel) rfl h
  · replace h := h.2 hc
    refine mV_iconst (n := -1) (v := (-1)) (by decide +kernel) (by decide) ?_
    exact mV_iret (by decide +kernel) rfl h
set_option maxRecDepth 100000 in
set_option maxHeartbeats 4000000 in
theorem e_X12_differs {l : Launch} {κ : mm_K} {d : Nat} {G : mm_G} {K : Int32 → mm_G → Prop} (a1 : Int32) (a2 : Int32) (h : mC l κ true (d + 4) 0 0 m_X12_hasLost [.ref 0, .int a1, .int a2] G (rI (fun r1 G2 => ((r1 = 0 → K (-1) G2) ∧ (¬ r1 = 0 → mC l κ true (d + 4) 0 0 m_X2_firstOther [.ref 98, .int a1, .int a2] G2 (rI (fun r3 G4 => K r3 G4))))))) : mC l κ true (d + 5) 0 0 m_X12_differs [.ref 0, .int a1, .int a2] G (rI K) := by
  refine mC.of (by decide) (Nat.le_of_ble_eq_true rfl) [some (.ref 0), some (.int a1), some (.int a2)] rfl ?_
  refine mV_aload_n (k := 0) (by decide +kernel) rfl ?_
  refine mV_iload_n (k := 1) (by decide +kernel) rfl ?_
  refine mV_iload_n (k := 2) (by decide +kernel) rfl ?_
  refine mV_cV (as := [.int a1, .int a2]) (rest := []) (mc1 := 0) (ms1 := 0) (mc := 0) (ms := 0) (by decide +kernel) md_X12_hasLost lk_12_183 sh_0 rfl rfl rfl (Nat.le_of_ble_eq_true rfl) (mC.mono (mm_contI (fun r1 G2 hK => ?_)) h)
  replace h := hK
  refine mV_if_eq (off := 15) (tgt := 21) (by decide +kernel) (by decide) (fun hc => ?_) (fun hc => ?_)
  · replace h := h.1 hc
    refine mV_iconst (n := -1) (v := (-1)) (by decide +kernel) (by decide) ?_
    exact mV_iret (by decide +kernel) rfl h
  · replace h := h.2 hc
    refine mV_aload_n (k := 0) (by decide +kernel) rfl ?_
    refine mV_gfr (r := some 98) (by decide +kernel) fk_12_53 sh_0 (mm_rrs st_0_5) rfl ?_
    refine mV_iload_n (k := 1) (by decide +kernel) rfl ?_
    refine mV_iload_n (k := 2) (by decide +kernel) rfl ?_
    refine mV_cV (as := [.int a1, .int a2]) (rest := []) (mc1 := 0) (ms1 := 0) (mc := 0) (ms := 0) (by decide +kernel) md_X2_firstOther lk_12_186 sh_98 rfl rfl rfl (Nat.le_of_ble_eq_true rfl) (mC.mono (mm_contI (fun r3 G4 hK => ?_)) h)
    replace h := hK
    refine mV_goto (off := 4) (tgt := 22) (by decide +kernel) (by decide) ?_
    exact mV_iret (by decide +kernel) rfl h
set_option maxRecDepth 100000 in
set_option maxHeartbeats 4000000 in
theorem e_X12_bears {l : Launch} {κ : mm_K} {d : Nat} {G : mm_G} {K : Int32 → mm_G → Prop} (a1 : Int32) (a2 : Int32) (h : mC l κ true (d + 5) 0 0 m_X12_hasRow [.ref 0, .int a1] G (rI (fun r1 G2 => ((r1 = 0 → K (-1) G2) ∧ (¬ r1 = 0 → ((a2 < 0 → K (-1) G2) ∧ (¬ a2 < 0 → ((a2 ≤ (nI 3) → mC l κ true (d + 5) 0 0 m_X2_firstBroken [.ref 98, .int a1, .int a2] G2 (rI (fun r3 G4 => ((¬ r3 = (-2) → K (nI 0) G4) ∧ (r3 = (-2) → K (nI 1) G4))))) ∧ (¬ a2 ≤ (nI 3) → K (-1) G2))))))))) : mC l κ true (d + 6) 0 0 m_X12_bears [.ref 0, .int a1, .int a2] G (rI K) := by
  refine mC.of (by decide) (Nat.le_of_ble_eq_true rfl) [some (.ref 0), some (.int a1), some (.int a2)] rfl ?_
  refine mV_aload_n (k := 0) (by decide +kernel) rfl ?_
  refine mV_iload_n (k := 1) (by decide +kernel) rfl ?_
  refine mV_cV (as := [.int a1]) (rest := []) (mc1 := 0) (ms1 := 0) (mc := 0) (ms := 0) (by decide +kernel) md_X12_hasRow lk_12_118 sh_0 rfl rfl rfl (Nat.le_of_ble_eq_true rfl) (mC.mono (mm_contI (fun r1 G2 hK => ?_)) h)
  replace h := hK
  refine mV_if_eq (off := 12) (tgt := 17) (by decide +kernel) (by decide) (fun hc => ?_) (fun hc => ?_)
  · replace h := h.1 hc
    refine mV_iconst (n := -1) (v := (-1)) (by decide +kernel) (by decide) ?_
    exact mV_iret (by decide +kernel) rfl h
  · replace h := h.2 hc
    refine mV_iload_n (k := 2) (by decide +kernel) rfl ?_
    refine mV_if_lt (off := 8) (tgt := 17) (by decide +kernel) (by decide) (fun hc => ?_) (fun hc => ?_)
    · replace h := h.1 hc
      refine mV_iconst (n := -1) (v := (-1)) (by decide +kernel) (by decide) ?_
      exact mV_iret (by decide +kernel) rfl h
    · replace h := h.2 hc
      refine mV_iload_n (k := 2) (by decide +kernel) rfl ?_
      refine mV_iconst (n := 3) (v := nI 3) (by decide +kernel) (by decide) ?_
      refine mV_icmp_le (off := 5) (tgt := 19) (by decide +kernel) (by decide) (fun hc => ?_) (fun hc => ?_)
      · replace h := h.1 hc
        refine mV_aload_n (k := 0) (by decide +kernel) rfl ?_
        refine mV_gfr (r := some 98) (by decide +kernel) fk_12_53 sh_0 (mm_rrs st_0_5) rfl ?_
        refine mV_iload_n (k := 1) (by decide +kernel) rfl ?_
        refine mV_iload_n (k := 2) (by decide +kernel) rfl ?_
        refine mV_cV (as := [.int a1, .int a2]) (rest := []) (mc1 := 0) (ms1 := 0) (mc := 0) (ms := 0) (by decide +kernel) md_X2_firstBroken lk_12_190 sh_98 rfl rfl rfl (Nat.le_of_ble_eq_true rfl) (mC.mono (mm_contI (fun r3 G4 hK => ?_)) h)
        replace h := hK
        refine mV_bipush (n := -2) (v := (-2)) (by decide +kernel) (by decide) ?_
        refine mV_icmp_ne (off := 7) (tgt := 37) (by decide +kernel) (by decide) (fun hc => ?_) (fun hc => ?_)
        · replace h := h.1 hc
          refine mV_iconst (n := 0) (v := nI 0) (by decide +kernel) (by decide) ?_
          exact mV_iret (by decide +kernel) rfl h
        · replace h := h.2 hc
          refine mV_iconst (n := 1) (v := nI 1) (by decide +kernel) (by decide) ?_
          refine mV_goto (off := 4) (tgt := 38) (by decide +kernel) (by decide) ?_
          exact mV_iret (by decide +kernel) rfl h
      · replace h := h.2 hc
        refine mV_iconst (n := -1) (v := (-1)) (by decide +kernel) (by decide) ?_
        exact mV_iret (by decide +kernel) rfl h
set_option maxRecDepth 100000 in
set_option maxHeartbeats 4000000 in
theorem e_X12_breaks {l : Launch} {κ : mm_K} {d : Nat} {G : mm_G} {K : Int32 → mm_G → Prop} (a1 : Int32) (a2 : Int32) (h : mC l κ true (d + 5) 0 0 m_X12_hasRow [.ref 0, .int a1] G (rI (fun r1 G2 => ((r1 = 0 → K (-1) G2) ∧ (¬ r1 = 0 → ((a2 < 0 → K (-1) G2) ∧ (¬ a2 < 0 → ((a2 ≤ (nI 3) → mC l κ true (d + 5) 0 0 m_X2_firstBroken [.ref 98, .int a1, .int a2] G2 (rI (fun r3 G4 => K r3 G4))) ∧ (¬ a2 ≤ (nI 3) → K (-1) G2))))))))) : mC l κ true (d + 6) 0 0 m_X12_breaks [.ref 0, .int a1, .int a2] G (rI K) := by
  refine mC.of (by decide) (Nat.le_of_ble_eq_true rfl) [some (.ref 0), some (.int a1), some (.int a2)] rfl ?_
  refine mV_aload_n (k := 0) (by decide +kernel) rfl ?_
  refine mV_iload_n (k := 1) (by decide +kernel) rfl ?_
  refine mV_cV (as := [.int a1]) (rest := []) (mc1 := 0) (ms1 := 0) (mc := 0) (ms := 0) (by decide +kernel) md_X12_hasRow lk_12_118 sh_0 rfl rfl rfl (Nat.le_of_ble_eq_true rfl) (mC.mono (mm_contI (fun r1 G2 hK => ?_)) h)
  replace h := hK
  refine mV_if_eq (off := 12) (tgt := 17) (by decide +kernel) (by decide) (fun hc => ?_) (fun hc => ?_)
  · replace h := h.1 hc
    refine mV_iconst (n := -1) (v := (-1)) (by decide +kernel) (by decide) ?_
    exact mV_iret (by decide +kernel) rfl h
  · replace h := h.2 hc
    refine mV_iload_n (k := 2) (by decide +kernel) rfl ?_
    refine mV_if_lt (off := 8) (tgt := 17) (by decide +kernel) (by decide) (fun hc => ?_) (fun hc => ?_)
    · replace h := h.1 hc
      refine mV_iconst (n := -1) (v := (-1)) (by decide +kernel) (by decide) ?_
      exact mV_iret (by decide +kernel) rfl h
    · replace h := h.2 hc
      refine mV_iload_n (k := 2) (by decide +kernel) rfl ?_
      refine mV_iconst (n := 3) (v := nI 3) (by decide +kernel) (by decide) ?_
      refine mV_icmp_le (off := 5) (tgt := 19) (by decide +kernel) (by decide) (fun hc => ?_) (fun hc => ?_)
      · replace h := h.1 hc
        refine mV_aload_n (k := 0) (by decide +kernel) rfl ?_
        refine mV_gfr (r := some 98) (by decide +kernel) fk_12_53 sh_0 (mm_rrs st_0_5) rfl ?_
        refine mV_iload_n (k := 1) (by decide +kernel) rfl ?_
        refine mV_iload_n (k := 2) (by decide +kernel) rfl ?_
        refine mV_cV (as := [.int a1, .int a2]) (rest := []) (mc1 := 0) (ms1 := 0) (mc := 0) (ms := 0) (by decide +kernel) md_X2_firstBroken lk_12_190 sh_98 rfl rfl rfl (Nat.le_of_ble_eq_true rfl) (mC.mono (mm_contI (fun r3 G4 hK => ?_)) h)
        replace h := hK
        exact mV_iret (by decide +kernel) rfl h
      · replace h := h.2 hc
        refine mV_iconst (n := -1) (v := (-1)) (by decide +kernel) (by decide) ?_
        exact mV_iret (by decide +kernel) rfl h
set_option maxRecDepth 100000 in
set_option maxHeartbeats 4000000 in
theorem e_X12_idle {l : Launch} {κ : mm_K} {d : Nat} {G : mm_G} {K : Int32 → mm_G → Prop} (a1 : Int32) (h : mC l κ true (d + 5) 0 0 m_X12_hasRow [.ref 0, .int a1] G (rI (fun r1 G2 => ((r1 = 0 → K (-1) G2) ∧ (¬ r1 = 0 → mC l κ true (d + 5) 0 0 m_X2_idleLines [.ref 98, .int a1] G2 (rI (fun r3 G4 => K r3 G4))))))) : mC l κ true (d + 6) 0 0 m_X12_idle [.ref 0, .int a1] G (rI K) := by
  refine mC.of (by decide) (Nat.le_of_ble_eq_true rfl) [some (.ref 0), some (.int a1)] rfl ?_
  refine mV_aload_n (k := 0) (by decide +kernel) rfl ?_
  refine mV_iload_n (k := 1) (by decide +kernel) rfl ?_
  refine mV_cV (as := [.int a1]) (rest := []) (mc1 := 0) (ms1 := 0) (mc := 0) (ms := 0) (by decide +kernel) md_X12_hasRow lk_12_118 sh_0 rfl rfl rfl (Nat.le_of_ble_eq_true rfl) (mC.mono (mm_contI (fun r1 G2 hK => ?_)) h)
  replace h := hK
  refine mV_if_eq (off := 14) (tgt := 19) (by decide +kernel) (by decide) (fun hc => ?_) (fun hc => ?_)
  · replace h := h.1 hc
    refine mV_iconst (n := -1) (v := (-1)) (by decide +kernel) (by decide) ?_
    exact mV_iret (by decide +kernel) rfl h
  · replace h := h.2 hc
    refine mV_aload_n (k := 0) (by decide +kernel) rfl ?_
    refine mV_gfr (r := some 98) (by decide +kernel) fk_12_53 sh_0 (mm_rrs st_0_5) rfl ?_
    refine mV_iload_n (k := 1) (by decide +kernel) rfl ?_
    refine mV_cV (as := [.int a1]) (rest := []) (mc1 := 0) (ms1 := 0) (mc := 0) (ms := 0) (by decide +kernel) md_X2_idleLines lk_12_193 sh_98 rfl rfl rfl (Nat.le_of_ble_eq_true rfl) (mC.mono (mm_contI (fun r3 G4 hK => ?_)) h)
    replace h := hK
    refine mV_goto (off := 4) (tgt := 20) (by decide +kernel) (by decide) ?_
    exact mV_iret (by decide +kernel) rfl h
set_option maxRecDepth 100000 in
set_option maxHeartbeats 4000000 in
theorem e_X12_harm {l : Launch} {κ : mm_K} {d : Nat} {G : mm_G} {K : Int32 → mm_G → Prop} (a1 : Int32) (a2 : Int32) (h : mC l κ true (d + 4) 0 0 m_X12_hasLine [.ref 0, .int a1, .int a2] G (rI (fun r1 G2 => ((r1 = 0 → K (-1) G2) ∧ (¬ r1 = 0 → mC l κ true (d + 4) 0 0 m_X2_harmOf [.ref 98, .int a1, .int a2] G2 (rI (fun r3 G4 => K r3 G4))))))) : mC l κ true (d + 5) 0 0 m_X12_harm [.ref 0, .int a1, .int a2] G (rI K) := by
  refine mC.of (by decide) (Nat.le_of_ble_eq_true rfl) [some (.ref 0), some (.int a1), some (.int a2)] rfl ?_
  refine mV_aload_n (k := 0) (by decide +kernel) rfl ?_
  refine mV_iload_n (k := 1) (by decide +kernel) rfl ?_
  refine mV_iload_n (k := 2) (by decide +kernel) rfl ?_
  refine mV_cV (as := [.int a1, .int a2]) (rest := []) (mc1 := 0) (ms1 := 0) (mc := 0) (ms := 0) (by decide +kernel) md_X12_hasLine lk_12_131 sh_0 rfl rfl rfl (Nat.le_of_ble_eq_true rfl) (mC.mono (mm_contI (fun r1 G2 hK => ?_)) h)
  replace h := hK
  refine mV_if_eq (off := 15) (tgt := 21) (by decide +kernel) (by decide) (fun hc => ?_) (fun hc => ?_)
  · replace h := h.1 hc
    refine mV_iconst (n := -1) (v := (-1)) (by decide +kernel) (by decide) ?_
    exact mV_iret (by decide +kernel) rfl h
  · replace h := h.2 hc
    refine mV_aload_n (k := 0) (by decide +kernel) rfl ?_
    refine mV_gfr (r := some 98) (by decide +kernel) fk_12_53 sh_0 (mm_rrs st_0_5) rfl ?_
    refine mV_iload_n (k := 1) (by decide +kernel) rfl ?_
    refine mV_iload_n (k := 2) (by decide +kernel) rfl ?_
    refine mV_cV (as := [.int a1, .int a2]) (rest := []) (mc1 := 0) (ms1 := 0) (mc := 0) (ms := 0) (by decide +kernel) md_X2_harmOf lk_12_197 sh_98 rfl rfl rfl (Nat.le_of_ble_eq_true rfl) (mC.mono (mm_contI (fun r3 G4 hK => ?_)) h)
    replace h := hK
    refine mV_goto (off := 4) (tgt := 22) (by decide +kernel) (by decide) ?_
    exact mV_iret (by decide +kernel) rfl h
set_option maxRecDepth 100000 in
set_option maxHeartbeats 4000000 in
theorem e_X12_worst {l : Launch} {κ : mm_K} {d : Nat} {G : mm_G} {K : Int32 → mm_G → Prop} (a1 : Int32) (h : mC l κ true (d + 5) 0 0 m_X12_hasRow [.ref 0, .int a1] G (rI (fun r1 G2 => ((r1 = 0 → K (-1) G2) ∧ (¬ r1 = 0 → mC l κ true (d + 5) 0 0 m_X2_worstLine [.ref 98, .int a1] G2 (rI (fun r3 G4 => K r3 G4))))))) : mC l κ true (d + 6) 0 0 m_X12_worst [.ref 0, .int a1] G (rI K) := by
  refine mC.of (by decide) (Nat.le_of_ble_eq_true rfl) [some (.ref 0), some (.int a1)] rfl ?_
  refine mV_aload_n (k := 0) (by decide +kernel) rfl ?_
  refine mV_iload_n (k := 1) (by decide +kernel) rfl ?_
  refine mV_cV (as := [.int a1]) (rest := []) (mc1 := 0) (ms1 := 0) (mc := 0) (ms := 0) (by decide +kernel) md_X12_hasRow lk_12_118 sh_0 rfl rfl rfl (Nat.le_of_ble_eq_true rfl) (mC.mono (mm_contI (fun r1 G2 hK => ?_)) h)
  replace h := hK
  refine mV_if_eq (off := 14) (tgt := 19) (by decide +kernel) (by decide) (fun hc => ?_) (fun hc => ?_)
  · replace h := h.1 hc
    refine mV_iconst (n := -1) (v := (-1)) (by decide +kernel) (by decide) ?_
    exact mV_iret (by decide +kernel) rfl h
  · replace h := h.2 hc
    refine mV_aload_n (k := 0) (by decide +kernel) rfl ?_
    refine mV_gfr (r := some 98) (by decide +kernel) fk_12_53 sh_0 (mm_rrs st_0_5) rfl ?_
    refine mV_iload_n (k := 1) (by decide +kernel) rfl ?_
    refine mV_cV (as := [.int a1]) (rest := []) (mc1 := 0) (ms1 := 0) (mc := 0) (ms := 0) (by decide +kernel) md_X2_worstLine lk_12_200 sh_98 rfl rfl rfl (Nat.le_of_ble_eq_true rfl) (mC.mono (mm_contI (fun r3 G4 hK => ?_)) h)
    replace h := hK
    refine mV_goto (off := 4) (tgt := 20) (by decide +kernel) (by decide) ?_
    exact mV_iret (by decide +kernel) rfl h
set_option maxRecDepth 100000 in
set_option maxHeartbeats 4000000 in
theorem e_X12_pair {l : Launch} {κ : mm_K} {d : Nat} {G : mm_G} {K : Int32 → mm_G → Prop} (a1 : Int32) (h : mC l κ true (d + 6) 0 0 m_X12_hasRow [.ref 0, .int a1] G (rI (fun r1 G2 => ((r1 = 0 → K (-1) G2) ∧ (¬ r1 = 0 → mC l κ true (d + 6) 0 0 m_X2_firstPair [.ref 98, .int a1] G2 (rI (fun r3 G4 => K r3 G4))))))) : mC l κ true (d + 7) 0 0 m_X12_pair [.ref 0, .int a1] G (rI K) := by
  refine mC.of (by decide) (Nat.le_of_ble_eq_true rfl) [some (.ref 0), some (.int a1)] rfl ?_
  refine mV_aload_n (k := 0) (by decide +kernel) rfl ?_
  refine mV_iload_n (k := 1) (by decide +kernel) rfl ?_
  refine mV_cV (as := [.int a1]) (rest := []) (mc1 := 0) (ms1 := 0) (mc := 0) (ms := 0) (by decide +kernel) md_X12_hasRow lk_12_118 sh_0 rfl rfl rfl (Nat.le_of_ble_eq_true rfl) (mC.mono (mm_contI (fun r1 G2 hK => ?_)) h)
  replace h := hK
  refine mV_if_eq (off := 14) (tgt := 19) (by decide +kernel) (by decide) (fun hc => ?_) (fun hc => ?_)
  · replace h := h.1 hc
    refine mV_iconst (n := -1) (v := (-1)) (by decide +kernel) (by decide) ?_
    exact mV_iret (by decide +kernel) rfl h
  · replace h := h.2 hc
    refine mV_aload_n (k := 0) (by decide +kernel) rfl ?_
    refine mV_gfr (r := some 98) (by decide +kernel) fk_12_53 sh_0 (mm_rrs st_0_5) rfl ?_
    refine mV_iload_n (k := 1) (by decide +kernel) rfl ?_
    refine mV_cV (as := [.int a1]) (rest := []) (mc1 := 0) (ms1 := 0) (mc := 0) (ms := 0) (by decide +kernel) md_X2_firstPair lk_12_203 sh_98 rfl rfl rfl (Nat.le_of_ble_eq_true rfl) (mC.mono (mm_contI (fun r3 G4 hK => ?_)) h)
    replace h := hK
    refine mV_goto (off := 4) (tgt := 20) (by decide +kernel) (by decide) ?_
    exact mV_iret (by decide +kernel) rfl h
set_option maxRecDepth 100000 in
set_option maxHeartbeats 4000000 in
theorem e_X12_mends {l : Launch} {κ : mm_K} {d : Nat} {G : mm_G} {K : Int32 → mm_G → Prop} (a1 : Int32) (h : mC l κ true (d + 4) 0 0 m_X12_hasRow [.ref 0, .int a1] G (rI (fun r1 G2 => ((¬ r1 = 0 → vp_in a1 4 ∧ (((mg_i G2 (54 + 2 * a1.toNatClampNeg) 1) < (nI 16) → mC l κ true (d + 4) 0 0 m_X2_mendingLines [.ref 98, .int a1] G2 (rI (fun r4 G5 => K r4 G5))) ∧ (¬ (mg_i G2 (54 + 2 * a1.toNatClampNeg) 1) < (nI 16) → K (-2) G2))) ∧ (r1 = 0 → K (-1) G2))))) : mC l κ true (d + 5) 0 0 m_X12_mends [.ref 0, .int a1] G (rI K) := by
  refine mC.of (by decide) (Nat.le_of_ble_eq_true rfl) [some (.ref 0), some (.int a1)] rfl ?_
  refine mV_aload_n (k := 0) (by decide +kernel) rfl ?_
  refine mV_iload_n (k := 1) (by decide +kernel) rfl ?_
  refine mV_cV (as := [.int a1]) (rest := []) (mc1 := 0) (ms1 := 0) (mc := 0) (ms := 0) (by decide +kernel) md_X12_hasRow lk_12_118 sh_0 rfl rfl rfl (Nat.le_of_ble_eq_true rfl) (mC.mono (mm_contI (fun r1 G2 hK => ?_)) h)
  replace h := hK
  refine mV_if_ne (off := 5) (tgt := 10) (by decide +kernel) (by decide) (fun hc => ?_) (fun hc => ?_)
  · replace h := h.1 hc
    refine mV_aload_n (k := 0) (by decide +kernel) rfl ?_
    refine mV_gfr (r := some 50) (by decide +kernel) fk_12_28 sh_0 (mm_rrs st_0_2) rfl ?_
    refine mV_gfr (r := some 51) (by decide +kernel) fk_12_122 sh_50 (mm_rrs st_50_0) rfl ?_
    refine mV_iload_n (k := 1) (by decide +kernel) rfl ?_
    have hj3 := h.1
    replace h := h.2
    refine mV_aal (t := 5) (r := some (54 + 2 * a1.toNatClampNeg)) (by decide +kernel) sh_51 (by decide) hj3 (mm_rrs (mm_rs50.2.2.2.2.2.2.2.1 _ (mm_ixlt hj3))) rfl ?_
    refine mV_gfix (x := mg_i G2 (54 + 2 * a1.toNatClampNeg) 1) (by decide +kernel) fk_12_126 (mm_rs50.2.2.2.2.2.2.2.2 _ (mm_ixlt hj3)).1 rfl ?_
    refine mV_bipush (n := 16) (v := nI 16) (by decide +kernel) (by decide) ?_
    refine mV_icmp_lt (off := 8) (tgt := 32) (by decide +kernel) (by decide) (fun hc => ?_) (fun hc => ?_)
    · replace h := h.1 hc
      refine mV_aload_n (k := 0) (by decide +kernel) rfl ?_
      refine mV_gfr (r := some 98) (by decide +kernel) fk_12_53 sh_0 (mm_rrs st_0_5) rfl ?_
      refine mV_iload_n (k := 1) (by decide +kernel) rfl ?_
      refine mV_cV (as := [.int a1]) (rest := []) (mc1 := 0) (ms1 := 0) (mc := 0) (ms := 0) (by decide +kernel) md_X2_mendingLines lk_12_206 sh_98 rfl rfl rfl (Nat.le_of_ble_eq_true rfl) (mC.mono (mm_contI (fun r4 G5 hK => ?_)) h)
      replace h := hK
      exact mV_iret (by decide +kernel) rfl h
    · replace h := h.2 hc
      refine mV_bipush (n := -2) (v := (-2)) (by decide +kernel) (by decide) ?_
      refine mV_goto (off := 11) (tgt := 40) (by decide +kernel) (by decide) ?_
      exact mV_iret (by decide +kernel) rfl h
  · replace h := h.2 hc
    refine mV_iconst (n := -1) (v := (-1)) (by decide +kernel) (by decide) ?_
    exact mV_iret (by decide +kernel) rfl h
set_option maxRecDepth 100000 in
set_option maxHeartbeats 4000000 in
theorem e_X12_reached {l : Launch} {κ : mm_K} {d : Nat} {G : mm_G} {K : Int32 → mm_G → Prop} (a1 : Int32) (h : mC l κ true (d + 4) 0 0 m_X12_hasRow [.ref 0, .int a1] G (rI (fun r1 G2 => ((r1 = 0 → K (-1) G2) ∧ (¬ r1 = 0 → mC l κ true (d + 4) 0 0 m_X2_reachedLines [.ref 98, .int a1] G2 (rI (fun r3 G4 => K r3 G4))))))) : mC l κ true (d + 5) 0 0 m_X12_reached [.ref 0, .int a1] G (rI K) := by
  refine mC.of (by decide) (Nat.le_of_ble_eq_true rfl) [some (.ref 0), some (.int a1)] rfl ?_
  refine mV_aload_n (k := 0) (by decide +kernel) rfl ?_
  refine mV_iload_n (k := 1) (by decide +kernel) rfl ?_
  refine mV_cV (as := [.int a1]) (rest := []) (mc1 := 0) (ms1 := 0) (mc := 0) (ms := 0) (by decide +kernel) md_X12_hasRow lk_12_118 sh_0 rfl rfl rfl (Nat.le_of_ble_eq_true rfl) (mC.mono (mm_contI (fun r1 G2 hK => ?_)) h)
  replace h := hK
  refine mV_if_eq (off := 14) (tgt := 19) (by decide +kernel) (by decide) (fun hc => ?_) (fun hc => ?_)
  · replace h := h.1 hc
    refine mV_iconst (n := -1) (v := (-1)) (by decide +kernel) (by decide) ?_
    exact mV_iret (by decide +kernel) rfl h
  · replace h := h.2 hc
    refine mV_aload_n (k := 0) (by decide +kernel) rfl ?_
    refine mV_gfr (r := some 98) (by decide +kernel) fk_12_53 sh_0 (mm_rrs st_0_5) rfl ?_
    refine mV_iload_n (k := 1) (by decide +kernel) rfl ?_
    refine mV_cV (as := [.int a1]) (rest := []) (mc1 := 0) (ms1 := 0) (mc := 0) (ms := 0) (by decide +kernel) md_X2_reachedLines lk_12_209 sh_98 rfl rfl rfl (Nat.le_of_ble_eq_true rfl) (mC.mono (mm_contI (fun r3 G4 hK => ?_)) h)
    replace h := hK
    refine mV_goto (off := 4) (tgt := 20) (by decide +kernel) (by decide) ?_
    exact mV_iret (by decide +kernel) rfl h
set_option maxRecDepth 100000 in
set_option maxHeartbeats 4000000 in
theorem e_X12_step {l : Launch} {κ : mm_K} {d : Nat} {G : mm_G} {K : Int32 → mm_G → Prop} (a1 : Int32) (a2 : Int32) (a3 : Int32) (a4 : Int32) (h : mC l κ true (d + 2) 0 0 m_X12_hasRun [.ref 0, .int a1, .int a2, .int a3] G (rI (fun r1 G2 => ((¬ r1 = 0 → vp_in a1 4 ∧ mC l κ true (d + 2) 0 0 m_X3_runs [.ref 91, .ref (54 + 2 * a1.toNatClampNeg), .int a2, .int a3, .null] G2 (rV (fun G5 => ((a4 < 0 → K (-1) G5) ∧ (¬ a4 < 0 → (((mg_i G5 91 3) ≤ a4 → K (-1) G5) ∧ (¬ (mg_i G5 91 3) ≤ a4 → vp_in a4 300 ∧ K (mg_i G5 95 a4.toNatClampNeg) G5))))))) ∧ (r1 = 0 → K (-1) G2))))) : mC l κ true (d + 3) 0 0 m_X12_step [.ref 0, .int a1, .int a2, .int a3, .int a4] G (rI K) := by
  refine mC.of (by decide) (Nat.le_of_ble_eq_true rfl) [some (.ref 0), some (.int a1), some (.int a2), some (.int a3), some (.int a4)] rfl ?_
  refine mV_aload_n (k := 0) (by decide +kernel) rfl ?_
  refine mV_iload_n (k := 1) (by decide +kernel) rfl ?_
  refine mV_iload_n (k := 2) (by decide +kernel) rfl ?_
  refine mV_iload_n (k := 3) (by decide +kernel) rfl ?_
  refine mV_cV (as := [.int a1, .int a2, .int a3]) (rest := []) (mc1 := 0) (ms1 := 0) (mc := 0) (ms := 0) (by decide +kernel) md_X12_hasRun lk_12_154 sh_0 rfl rfl rfl (Nat.le_of_ble_eq_true rfl) (mC.mono (mm_contI (fun r1 G2 hK => ?_)) h)
  replace h := hK
  refine mV_if_ne (off := 5) (tgt := 12) (by decide +kernel) (by decide) (fun hc => ?_) (fun hc => ?_)
  · replace h := h.1 hc
    refine mV_aload_n (k := 0) (by decide +kernel) rfl ?_
    refine mV_gfr (r := some 91) (by decide +kernel) fk_12_44 sh_0 (mm_rrs st_0_4) rfl ?_
    refine mV_aload_n (k := 0) (by decide +kernel) rfl ?_
    refine mV_gfr (r := some 50) (by decide +kernel) fk_12_28 sh_0 (mm_rrs st_0_2) rfl ?_
    refine mV_gfr (r := some 51) (by decide +kernel) fk_12_122 sh_50 (mm_rrs st_50_0) rfl ?_
    refine mV_iload_n (k := 1) (by decide +kernel) rfl ?_
    have hj3 := h.1
    replace h := h.2
    refine mV_aal (t := 5) (r := some (54 + 2 * a1.toNatClampNeg)) (by decide +kernel) sh_51 (by decide) hj3 (mm_rrs (mm_rs50.2.2.2.2.2.2.2.1 _ (mm_ixlt hj3))) rfl ?_
    refine mV_iload_n (k := 2) (by decide +kernel) rfl ?_
    refine mV_iload_n (k := 3) (by decide +kernel) rfl ?_
    refine mV_null (by decide +kernel) ?_
    refine mV_cV (as := [.ref (54 + 2 * a1.toNatClampNeg), .int a2, .int a3, .null]) (rest := []) (mc1 := 0) (ms1 := 0) (mc := 0) (ms := 0) (by decide +kernel) md_X3_runs lk_12_158 sh_91 rfl rfl rfl (Nat.le_of_ble_eq_true rfl) (mC.mono (mm_contV (fun G5 hK => ?_)) h)
    replace h := hK
    refine mV_iload (i := 4) (by decide +kernel) rfl ?_
    refine mV_if_lt (off := 28) (tgt := 61) (by decide +kernel) (by decide) (fun hc => ?_) (fun hc => ?_)
    · replace h := h.1 hc
      refine mV_iconst (n := -1) (v := (-1)) (by decide +kernel) (by decide) ?_
      exact mV_iret (by decide +kernel) rfl h
    · replace h := h.2 hc
      refine mV_iload (i := 4) (by decide +kernel) rfl ?_
      refine mV_aload_n (k := 0) (by decide +kernel) rfl ?_
      refine mV_gfr (r := some 91) (by decide +kernel) fk_12_44 sh_0 (mm_rrs st_0_4) rfl ?_
      refine mV_gfix (x := mg_i G5 91 3) (by decide +kernel) fk_12_172 sh_91 rfl ?_
      refine mV_icmp_ge (off := 16) (tgt := 61) (by decide +kernel) (by decide) (fun hc => ?_) (fun hc => ?_)
      · replace h := h.1 hc
        refine mV_iconst (n := -1) (v := (-1)) (by decide +kernel) (by decide) ?_
        exact mV_iret (by decide +kernel) rfl h
      · replace h := h.2 hc
        refine mV_aload_n (k := 0) (by decide +kernel) rfl ?_
        refine mV_gfr (r := some 91) (by decide +kernel) fk_12_44 sh_0 (mm_rrs st_0_4) rfl ?_
        refine mV_gfr (r := some 95) (by decide +kernel) fk_12_212 sh_91 (mm_rrs st_91_2) rfl ?_
        refine mV_iload (i := 4) (by decide +kernel) rfl ?_
        refine mV_ialx (x := mg_i G5 95 a4.toNatClampNeg) (by decide +kernel) sh_95 h.1 rfl ?_
        replace h := h.2
        refine mV_goto (off := 4) (tgt := 62) (by decide +kernel) (by decide) ?_
        exact mV_iret (by decide +kernel) rfl h
  · replace h := h.2 hc
    refine mV_iconst (n := -1) (v := (-1)) (by decide +kernel) (by decide) ?_
    exact mV_iret (by decide +kernel) rfl h
set_option maxRecDepth 100000 in
set_option maxHeartbeats 4000000 in
theorem e_X12_life {l : Launch} {κ : mm_K} {d : Nat} {G : mm_G} {K : Int32 → mm_G → Prop} (a1 : Int32) (a2 : Int32) (a3 : Int32) (h : mC l κ true (d + 5) 0 0 m_X12_hasRow [.ref 0, .int a1] G (rI (fun r1 G2 => ((r1 = 0 → K (-1) G2) ∧ (¬ r1 = 0 → ((a2 < 0 → K (-1) G2) ∧ (¬ a2 < 0 → ((a2 ≤ (nI 3) → mC l κ true (d + 5) 0 0 m_X2_lifeBy [.ref 98, .int a1, .int a2, .int a3] G2 (rI (fun r3 G4 => K r3 G4))) ∧ (¬ a2 ≤ (nI 3) → K (-1) G2))))))))) : mC l κ true (d + 6) 0 0 m_X12_life [.ref 0, .int a1, .int a2, .int a3] G (rI K) := by
  refine mC.of (by decide) (Nat.le_of_ble_eq_true rfl) [some (.ref 0), some (.int a1), some (.int a2), some (.int a3)] rfl ?_
  refine mV_aload_n (k := 0) (by decide +kernel) rfl ?_
  refine mV_iload_n (k := 1) (by decide +kernel) rfl ?_
  refine mV_cV (as := [.int a1]) (rest := []) (mc1 := 0) (ms1 := 0) (mc := 0) (ms := 0) (by decide +kernel) md_X12_hasRow lk_12_118 sh_0 rfl rfl rfl (Nat.le_of_ble_eq_true rfl) (mC.mono (mm_contI (fun r1 G2 hK => ?_)) h)
  replace h := hK
  refine mV_if_eq (off := 12) (tgt := 17) (by decide +kernel) (by decide) (fun hc => ?_) (fun hc => ?_)
  · replace h := h.1 hc
    refine mV_iconst (n := -1) (v := (-1)) (by decide +kernel) (by decide) ?_
    exact mV_iret (by decide +kernel) rfl h
  · replace h := h.2 hc
    refine mV_iload_n (k := 2) (by decide +kernel) rfl ?_
    refine mV_if_lt (off := 8) (tgt := 17) (by decide +kernel) (by decide) (fun hc => ?_) (fun hc => ?_)
    · replace h := h.1 hc
      refine mV_iconst (n := -1) (v := (-1)) (by decide +kernel) (by decide) ?_
      exact mV_iret (by decide +kernel) rfl h
    · replace h := h.2 hc
      refine mV_iload_n (k := 2) (by decide +kernel) rfl ?_
      refine mV_iconst (n := 3) (v := nI 3) (by decide +kernel) (by decide) ?_
      refine mV_icmp_le (off := 5) (tgt := 19) (by decide +kernel) (by decide) (fun hc => ?_) (fun hc => ?_)
      · replace h := h.1 hc
        refine mV_aload_n (k := 0) (by decide +kernel) rfl ?_
        refine mV_gfr (r := some 98) (by decide +kernel) fk_12_53 sh_0 (mm_rrs st_0_5) rfl ?_
        refine mV_iload_n (k := 1) (by decide +kernel) rfl ?_
        refine mV_iload_n (k := 2) (by decide +kernel) rfl ?_
        refine mV_iload_n (k := 3) (by decide +kernel) rfl ?_
        refine mV_cV (as := [.int a1, .int a2, .int a3]) (rest := []) (mc1 := 0) (ms1 := 0) (mc := 0) (ms := 0) (by decide +kernel) md_X2_lifeBy lk_12_215 sh_98 rfl rfl rfl (Nat.le_of_ble_eq_true rfl) (mC.mono (mm_contI (fun r3 G4 hK => ?_)) h)
        replace h := hK
        exact mV_iret (by decide +kernel) rfl h
      · replace h := h.2 hc
        refine mV_iconst (n := -1) (v := (-1)) (by decide +kernel) (by decide) ?_
        exact mV_iret (by decide +kernel) rfl h
set_option maxRecDepth 100000 in
set_option maxHeartbeats 4000000 in
theorem e_X12_soonest {l : Launch} {κ : mm_K} {d : Nat} {G : mm_G} {K : Int32 → mm_G → Prop} (a1 : Int32) (h : mC l κ true (d + 6) 0 0 m_X12_hasRow [.ref 0, .int a1] G (rI (fun r1 G2 => ((¬ r1 = 0 → mC l κ true (d + 6) 0 0 m_X12_isSmall [.ref 0, .int a1] G2 (rI (fun r3 G4 => ((r3 = 0 → K (-2) G4) ∧ (¬ r3 = 0 → mC l κ true (d + 6) 0 0 m_X4_fewestThatBreak [.ref 168, .int a1] G4 (rI (fun r5 G6 => K r5 G6))))))) ∧ (r1 = 0 → K (-1) G2))))) : mC l κ true (d + 7) 0 0 m_X12_soonest [.ref 0, .int a1] G (rI K) := by
  refine mC.of (by decide) (Nat.le_of_ble_eq_true rfl) [some (.ref 0), some (.int a1)] rfl ?_
  refine mV_aload_n (k := 0) (by decide +kernel) rfl ?_
  refine mV_iload_n (k := 1) (by decide +kernel) rfl ?_
  refine mV_cV (as := [.int a1]) (rest := []) (mc1 := 0) (ms1 := 0) (mc := 0) (ms := 0) (by decide +kernel) md_X12_hasRow lk_12_118 sh_0 rfl rfl rfl (Nat.le_of_ble_eq_true rfl) (mC.mono (mm_contI (fun r1 G2 hK => ?_)) h)
  replace h := hK
  refine mV_if_ne (off := 5) (tgt := 10) (by decide +kernel) (by decide) (fun hc => ?_) (fun hc => ?_)
  · replace h := h.1 hc
    refine mV_aload_n (k := 0) (by decide +kernel) rfl ?_
    refine mV_iload_n (k := 1) (by decide +kernel) rfl ?_
    refine mV_cV (as := [.int a1]) (rest := []) (mc1 := 0) (ms1 := 0) (mc := 0) (ms := 0) (by decide +kernel) md_X12_isSmall lk_12_219 sh_0 rfl rfl rfl (Nat.le_of_ble_eq_true rfl) (mC.mono (mm_contI (fun r3 G4 hK => ?_)) h)
    replace h := hK
    refine mV_if_eq (off := 14) (tgt := 29) (by decide +kernel) (by decide) (fun hc => ?_) (fun hc => ?_)
    · replace h := h.1 hc
      refine mV_bipush (n := -2) (v := (-2)) (by decide +kernel) (by decide) ?_
      exact mV_iret (by decide +kernel) rfl h
    · replace h := h.2 hc
      refine mV_aload_n (k := 0) (by decide +kernel) rfl ?_
      refine mV_gfr (r := some 168) (by decide +kernel) fk_12_62 sh_0 (mm_rrs st_0_6) rfl ?_
      refine mV_iload_n (k := 1) (by decide +kernel) rfl ?_
      refine mV_cV (as := [.int a1]) (rest := []) (mc1 := 0) (ms1 := 0) (mc := 0) (ms := 0) (by decide +kernel) md_X4_fewestThatBreak lk_12_222 sh_168 rfl rfl rfl (Nat.le_of_ble_eq_true rfl) (mC.mono (mm_contI (fun r5 G6 hK => ?_)) h)
      replace h := hK
      refine mV_goto (off := 5) (tgt := 31) (by decide +kernel) (by decide) ?_
      exact mV_iret (by decide +kernel) rfl h
  · replace h := h.2 hc
    refine mV_iconst (n := -1) (v := (-1)) (by decide +kernel) (by decide) ?_
    exact mV_iret (by decide +kernel) rfl h
set_option maxRecDepth 100000 in
set_option maxHeartbeats 4000000 in
theorem e_X12_ways {l : Launch} {κ : mm_K} {d : Nat} {G : mm_G} {K : Int64 → mm_G → Prop} (a1 : Int32) (a2 : Int32) (h : mC l κ true (d + 6) 0 0 m_X12_hasRow [.ref 0, .int a1] G (rI (fun r1 G2 => ((r1 = 0 → K (-1) G2) ∧ (¬ r1 = 0 → ((a2 < 0 → K (-1) G2) ∧ (¬ a2 < 0 → vp_in a1 4 ∧ ((a2 ≤ (mg_i G2 (54 + 2 * a1.toNatClampNeg) 1) → mC l κ true (d + 6) 0 0 m_X12_isSmall [.ref 0, .int a1] G2 (rI (fun r4 G5 => ((r4 = 0 → K (-2) G5) ∧ (¬ r4 = 0 → mC l κ true (d + 6) 0 0 m_X4_waysOf [.ref 168, .int a1, .int a2] G5 (rL (fun r6 G7 => K r6 G7))))))) ∧ (¬ a2 ≤ (mg_i G2 (54 + 2 * a1.toNatClampNeg) 1) → K (-1) G2))))))))) : mC l κ true (d + 7) 0 0 m_X12_ways [.ref 0, .int a1, .int a2] G (rL K) := by
  refine mC.of (by decide) (Nat.le_of_ble_eq_true rfl) [some (.ref 0), some (.int a1), some (.int a2)] rfl ?_
  refine mV_aload_n (k := 0) (by decide +kernel) rfl ?_
  refine mV_iload_n (k := 1) (by decide +kernel) rfl ?_
  refine mV_cV (as := [.int a1]) (rest := []) (mc1 := 0) (ms1 := 0) (mc := 0) (ms := 0) (by decide +kernel) md_X12_hasRow lk_12_118 sh_0 rfl rfl rfl (Nat.le_of_ble_eq_true rfl) (mC.mono (mm_contI (fun r1 G2 hK => ?_)) h)
  replace h := hK
  refine mV_if_eq (off := 23) (tgt := 28) (by decide +kernel) (by decide) (fun hc => ?_) (fun hc => ?_)
  · replace h := h.1 hc
    refine mV_ldc2 (idx := 225) (v := (-1)) (by decide +kernel) (mm_t5 90 (by decide +kernel)) ?_
    exact mV_lret (by decide +kernel) rfl h
  · replace h := h.2 hc
    refine mV_iload_n (k := 2) (by decide +kernel) rfl ?_
    refine mV_if_lt (off := 19) (tgt := 28) (by decide +kernel) (by decide) (fun hc => ?_) (fun hc => ?_)
    · replace h := h.1 hc
      refine mV_ldc2 (idx := 225) (v := (-1)) (by decide +kernel) (mm_t5 90 (by decide +kernel)) ?_
      exact mV_lret (by decide +kernel) rfl h
    · replace h := h.2 hc
      refine mV_iload_n (k := 2) (by decide +kernel) rfl ?_
      refine mV_aload_n (k := 0) (by decide +kernel) rfl ?_
      refine mV_gfr (r := some 50) (by decide +kernel) fk_12_28 sh_0 (mm_rrs st_0_2) rfl ?_
      refine mV_gfr (r := some 51) (by decide +kernel) fk_12_122 sh_50 (mm_rrs st_50_0) rfl ?_
      refine mV_iload_n (k := 1) (by decide +kernel) rfl ?_
      have hj3 := h.1
      replace h := h.2
      refine mV_aal (t := 5) (r := some (54 + 2 * a1.toNatClampNeg)) (by decide +kernel) sh_51 (by decide) hj3 (mm_rrs (mm_rs50.2.2.2.2.2.2.2.1 _ (mm_ixlt hj3))) rfl ?_
      refine mV_gfix (x := mg_i G2 (54 + 2 * a1.toNatClampNeg) 1) (by decide +kernel) fk_12_126 (mm_rs50.2.2.2.2.2.2.2.2 _ (mm_ixlt hj3)).1 rfl ?_
      refine mV_icmp_le (off := 7) (tgt := 32) (by decide +kernel) (by decide) (fun hc => ?_) (fun hc => ?_)
      · replace h := h.1 hc
        refine mV_aload_n (k := 0) (by decide +kernel) rfl ?_
        refine mV_iload_n (k := 1) (by decide +kernel) rfl ?_
        refine mV_cV (as := [.int a1]) (rest := []) (mc1 := 0) (ms1 := 0) (mc := 0) (ms := 0) (by decide +kernel) md_X12_isSmall lk_12_219 sh_0 rfl rfl rfl (Nat.le_of_ble_eq_true rfl) (mC.mono (mm_contI (fun r4 G5 hK => ?_)) h)
        replace h := hK
        refine mV_if_eq (off := 15) (tgt := 52) (by decide +kernel) (by decide) (fun hc => ?_) (fun hc => ?_)
        · replace h := h.1 hc
          refine mV_ldc2 (idx := 231) (v := (-2)) (by decide +kernel) (mm_t5 101 (by decide +kernel)) ?_
          exact mV_lret (by decide +kernel) rfl h
        · replace h := h.2 hc
          refine mV_aload_n (k := 0) (by decide +kernel) rfl ?_
          refine mV_gfr (r := some 168) (by decide +kernel) fk_12_62 sh_0 (mm_rrs st_0_6) rfl ?_
          refine mV_iload_n (k := 1) (by decide +kernel) rfl ?_
          refine mV_iload_n (k := 2) (by decide +kernel) rfl ?_
          refine mV_cV (as := [.int a1, .int a2]) (rest := []) (mc1 := 0) (ms1 := 0) (mc := 0) (ms := 0) (by decide +kernel) md_X4_waysOf lk_12_227 sh_168 rfl rfl rfl (Nat.le_of_ble_eq_true rfl) (mC.mono (mm_contL (fun r6 G7 hK => ?_)) h)
          replace h := hK
          refine mV_goto (off := 6) (tgt := 55) (by decide +kernel) (by decide) ?_
          exact mV_lret (by decide +kernel) rfl h
      · replace h := h.2 hc
        refine mV_ldc2 (idx := 225) (v := (-1)) (by decide +kernel) (mm_t5 90 (by decide +kernel)) ?_
        exact mV_lret (by decide +kernel) rfl h
set_option maxRecDepth 100000 in
set_option maxHeartbeats 4000000 in
theorem e_X12_mean {l : Launch} {κ : mm_K} {d : Nat} {G : mm_G} {K : Int64 → mm_G → Prop} (a1 : Int32) (a2 : Int32) (h : mC l κ true (d + 6) 0 0 m_X12_hasRow [.ref 0, .int a1] G (rI (fun r1 G2 => ((¬ r1 = 0 → mC l κ true (d + 6) 0 0 m_X12_isSmall [.ref 0, .int a1] G2 (rI (fun r3 G4 => ((r3 = 0 → K (-2) G4) ∧ (¬ r3 = 0 → mC l κ true (d + 6) 0 0 m_X4_meanOf [.ref 168, .int a1, .int a2] G4 (rL (fun r5 G6 => K r5 G6))))))) ∧ (r1 = 0 → K (-1) G2))))) : mC l κ true (d + 7) 0 0 m_X12_mean [.ref 0, .int a1, .int a2] G (rL K) := by
  refine mC.of (by decide) (Nat.le_of_ble_eq_true rfl) [some (.ref 0), some (.int a1), some (.int a2)] rfl ?_
  refine mV_aload_n (k := 0) (by decide +kernel) rfl ?_
  refine mV_iload_n (k := 1) (by decide +kernel) rfl ?_
  refine mV_cV (as := [.int a1]) (rest := []) (mc1 := 0) (ms1 := 0) (mc := 0) (ms := 0) (by decide +kernel) md_X12_hasRow lk_12_118 sh_0 rfl rfl rfl (Nat.le_of_ble_eq_true rfl) (mC.mono (mm_contI (fun r1 G2 hK => ?_)) h)
  replace h := hK
  refine mV_if_ne (off := 7) (tgt := 12) (by decide +kernel) (by decide) (fun hc => ?_) (fun hc => ?_)
  · replace h := h.1 hc
    refine mV_aload_n (k := 0) (by decide +kernel) rfl ?_
    refine mV_iload_n (k := 1) (by decide +kernel) rfl ?_
    refine mV_cV (as := [.int a1]) (rest := []) (mc1 := 0) (ms1 := 0) (mc := 0) (ms := 0) (by decide +kernel) md_X12_isSmall lk_12_219 sh_0 rfl rfl rfl (Nat.le_of_ble_eq_true rfl) (mC.mono (mm_contI (fun r3 G4 hK => ?_)) h)
    replace h := hK
    refine mV_if_eq (off := 15) (tgt := 32) (by decide +kernel) (by decide) (fun hc => ?_) (fun hc => ?_)
    · replace h := h.1 hc
      refine mV_ldc2 (idx := 231) (v := (-2)) (by decide +kernel) (mm_t5 101 (by decide +kernel)) ?_
      exact mV_lret (by decide +kernel) rfl h
    · replace h := h.2 hc
      refine mV_aload_n (k := 0) (by decide +kernel) rfl ?_
      refine mV_gfr (r := some 168) (by decide +kernel) fk_12_62 sh_0 (mm_rrs st_0_6) rfl ?_
      refine mV_iload_n (k := 1) (by decide +kernel) rfl ?_
      refine mV_iload_n (k := 2) (by decide +kernel) rfl ?_
      refine mV_cV (as := [.int a1, .int a2]) (rest := []) (mc1 := 0) (ms1 := 0) (mc := 0) (ms := 0) (by decide +kernel) md_X4_meanOf lk_12_233 sh_168 rfl rfl rfl (Nat.le_of_ble_eq_true rfl) (mC.mono (mm_contL (fun r5 G6 hK => ?_)) h)
      replace h := hK
      refine mV_goto (off := 6) (tgt := 35) (by decide +kernel) (by decide) ?_
      exact mV_lret (by decide +kernel) rfl h
  · replace h := h.2 hc
    refine mV_ldc2 (idx := 225) (v := (-1)) (by decide +kernel) (mm_t5 90 (by decide +kernel)) ?_
    exact mV_lret (by decide +kernel) rfl h
set_option maxRecDepth 100000 in
set_option maxHeartbeats 4000000 in
theorem e_X12_core {l : Launch} {κ : mm_K} {d : Nat} {G : mm_G} {K : Int32 → mm_G → Prop} (a1 : Int32) (a2 : Int32) (h : mC l κ true (d + 6) 0 0 m_X12_hasRow [.ref 0, .int a1] G (rI (fun r1 G2 => ((r1 = 0 → K (-1) G2) ∧ (¬ r1 = 0 → ((a2 < 0 → K (-1) G2) ∧ (¬ a2 < 0 → ((a2 ≤ (nI 1) → mC l κ true (d + 6) 0 0 m_X12_isSmall [.ref 0, .int a1] G2 (rI (fun r3 G4 => ((¬ r3 = 0 → mC l κ true (d + 6) 0 0 m_X4_coreOf [.ref 168, .int a1] G4 (rI (fun r5 G6 => ((¬ a2 = 0 → K r5 G6) ∧ (a2 = 0 → mC l κ true (d + 6) 0 0 m_J6_bitCount_0f7a4 [.int r5] G6 (rI (fun r7 G8 => K r7 G8))))))) ∧ (r3 = 0 → K (-2) G4))))) ∧ (¬ a2 ≤ (nI 1) → K (-1) G2))))))))) : mC l κ true (d + 7) 0 0 m_X12_core [.ref 0, .int a1, .int a2] G (rI K) := by
  refine mC.of (by decide) (Nat.le_of_ble_eq_true rfl) [some (.ref 0), some (.int a1), some (.int a2), none] rfl ?_
  refine mV_aload_n (k := 0) (by decide +kernel) rfl ?_
  refine mV_iload_n (k := 1) (by decide +kernel) rfl ?_
  refine mV_cV (as := [.int a1]) (rest := []) (mc1 := 0) (ms1 := 0) (mc := 0) (ms := 0) (by decide +kernel) md_X12_hasRow lk_12_118 sh_0 rfl rfl rfl (Nat.le_of_ble_eq_true rfl) (mC.mono (mm_contI (fun r1 G2 hK => ?_)) h)
  replace h := hK
  refine mV_if_eq (off := 12) (tgt := 17) (by decide +kernel) (by decide) (fun hc => ?_) (fun hc => ?_)
  · replace h := h.1 hc
    refine mV_iconst (n := -1) (v := (-1)) (by decide +kernel) (by decide) ?_
    exact mV_iret (by decide +kernel) rfl h
  · replace h := h.2 hc
    refine mV_iload_n (k := 2) (by decide +kernel) rfl ?_
    refine mV_if_lt (off := 8) (tgt := 17) (by decide +kernel) (by decide) (fun hc => ?_) (fun hc => ?_)
    · replace h := h.1 hc
      refine mV_iconst (n := -1) (v := (-1)) (by decide +kernel) (by decide) ?_
      exact mV_iret (by decide +kernel) rfl h
    · replace h := h.2 hc
      refine mV_iload_n (k := 2) (by decide +kernel) rfl ?_
      refine mV_iconst (n := 1) (v := nI 1) (by decide +kernel) (by decide) ?_
      refine mV_icmp_le (off := 5) (tgt := 19) (by decide +kernel) (by decide) (fun hc => ?_) (fun hc => ?_)
      · replace h := h.1 hc
        refine mV_aload_n (k := 0) (by decide +kernel) rfl ?_
        refine mV_iload_n (k := 1) (by decide +kernel) rfl ?_
        refine mV_cV (as := [.int a1]) (rest := []) (mc1 := 0) (ms1 := 0) (mc := 0) (ms := 0) (by decide +kernel) md_X12_isSmall lk_12_219 sh_0 rfl rfl rfl (Nat.le_of_ble_eq_true rfl) (mC.mono (mm_contI (fun r3 G4 hK => ?_)) h)
        replace h := hK
        refine mV_if_ne (off := 6) (tgt := 30) (by decide +kernel) (by decide) (fun hc => ?_) (fun hc => ?_)
        · replace h := h.1 hc
          refine mV_aload_n (k := 0) (by decide +kernel) rfl ?_
          refine mV_gfr (r := some 168) (by decide +kernel) fk_12_62 sh_0 (mm_rrs st_0_6) rfl ?_
          refine mV_iload_n (k := 1) (by decide +kernel) rfl ?_
          refine mV_cV (as := [.int a1]) (rest := []) (mc1 := 0) (ms1 := 0) (mc := 0) (ms := 0) (by decide +kernel) md_X4_coreOf lk_12_237 sh_168 rfl rfl rfl (Nat.le_of_ble_eq_true rfl) (mC.mono (mm_contI (fun r5 G6 hK => ?_)) h)
          replace h := hK
          refine mV_istore_n (k := 3) (ls' := [some (.ref 0), some (.int a1), some (.int a2), some (.int r5)]) (by decide +kernel) (Nat.le_of_ble_eq_true rfl) rfl rfl ?_
          refine mV_iload_n (k := 2) (by decide +kernel) rfl ?_
          refine mV_if_ne (off := 10) (tgt := 50) (by decide +kernel) (by decide) (fun hc => ?_) (fun hc => ?_)
          · replace h := h.1 hc
            refine mV_iload_n (k := 3) (by decide +kernel) rfl ?_
            exact mV_iret (by decide +kernel) rfl h
          · replace h := h.2 hc
            refine mV_iload_n (k := 3) (by decide +kernel) rfl ?_
            refine mV_cS (as := [.int r5]) (rest := []) (mc1 := 0) (ms1 := 0) (mc := 0) (ms := 0) (by decide +kernel) md_J6_bitCount_0f7a4 lk_12_240 rfl rfl (Nat.le_of_ble_eq_true rfl) (mC.mono (mm_contI (fun r7 G8 hK => ?_)) h)
            replace h := hK
            refine mV_goto (off := 4) (tgt := 51) (by decide +kernel) (by decide) ?_
            exact mV_iret (by decide +kernel) rfl h
        · replace h := h.2 hc
          refine mV_bipush (n := -2) (v := (-2)) (by decide +kernel) (by decide) ?_
          exact mV_iret (by decide +kernel) rfl h
      · replace h := h.2 hc
        refine mV_iconst (n := -1) (v := (-1)) (by decide +kernel) (by decide) ?_
        exact mV_iret (by decide +kernel) rfl h
set_option maxRecDepth 100000 in
set_option maxHeartbeats 4000000 in
theorem e_X12_does {l : Launch} {κ : mm_K} {d : Nat} {G : mm_G} {K : Int32 → mm_G → Prop} (a1 : Int32) (a2 : Int32) (h : mC l κ true (d + 3) 0 0 m_X12_hasLost [.ref 0, .int a1, .int a2] G (rI (fun r1 G2 => ((¬ r1 = 0 → vp_in a1 4 ∧ mC l κ true (d + 3) 0 0 m_X8_doesTable [.ref 171, .ref (54 + 2 * a1.toNatClampNeg), .int a2] G2 (rI (fun r4 G5 => ((r4 = 0 → K (nI 0) G5) ∧ (¬ r4 = 0 → K (nI 1) G5))))) ∧ (r1 = 0 → K (-1) G2))))) : mC l κ true (d + 4) 0 0 m_X12_does [.ref 0, .int a1, .int a2] G (rI K) := by
  refine mC.of (by decide) (Nat.le_of_ble_eq_true rfl) [some (.ref 0), some (.int a1), some (.int a2)] rfl ?_
  refine mV_aload_n (k := 0) (by decide +kernel) rfl ?_
  refine mV_iload_n (k := 1) (by decide +kernel) rfl ?_
  refine mV_iload_n (k := 2) (by decide +kernel) rfl ?_
  refine mV_cV (as := [.int a1, .int a2]) (rest := []) (mc1 := 0) (ms1 := 0) (mc := 0) (ms := 0) (by decide +kernel) md_X12_hasLost lk_12_183 sh_0 rfl rfl rfl (Nat.le_of_ble_eq_true rfl) (mC.mono (mm_contI (fun r1 G2 hK => ?_)) h)
  replace h := hK
  refine mV_if_ne (off := 5) (tgt := 11) (by decide +kernel) (by decide) (fun hc => ?_) (fun hc => ?_)
  · replace h := h.1 hc
    refine mV_aload_n (k := 0) (by decide +kernel) rfl ?_
    refine mV_gfr (r := some 171) (by decide +kernel) fk_12_69 sh_0 (mm_rrs st_0_7) rfl ?_
    refine mV_aload_n (k := 0) (by decide +kernel) rfl ?_
    refine mV_gfr (r := some 50) (by decide +kernel) fk_12_28 sh_0 (mm_rrs st_0_2) rfl ?_
    refine mV_gfr (r := some 51) (by decide +kernel) fk_12_122 sh_50 (mm_rrs st_50_0) rfl ?_
    refine mV_iload_n (k := 1) (by decide +kernel) rfl ?_
    have hj3 := h.1
    replace h := h.2
    refine mV_aal (t := 5) (r := some (54 + 2 * a1.toNatClampNeg)) (by decide +kernel) sh_51 (by decide) hj3 (mm_rrs (mm_rs50.2.2.2.2.2.2.2.1 _ (mm_ixlt hj3))) rfl ?_
    refine mV_iload_n (k := 2) (by decide +kernel) rfl ?_
    refine mV_cV (as := [.ref (54 + 2 * a1.toNatClampNeg), .int a2]) (rest := []) (mc1 := 0) (ms1 := 0) (mc := 0) (ms := 0) (by decide +kernel) md_X8_doesTable lk_12_245 sh_171 rfl rfl rfl (Nat.le_of_ble_eq_true rfl) (mC.mono (mm_contI (fun r4 G5 hK => ?_)) h)
    replace h := hK
    refine mV_if_eq (off := 7) (tgt := 35) (by decide +kernel) (by decide) (fun hc => ?_) (fun hc => ?_)
    · replace h := h.1 hc
      refine mV_iconst (n := 0) (v := nI 0) (by decide +kernel) (by decide) ?_
      exact mV_iret (by decide +kernel) rfl h
    · replace h := h.2 hc
      refine mV_iconst (n := 1) (v := nI 1) (by decide +kernel) (by decide) ?_
      refine mV_goto (off := 4) (tgt := 36) (by decide +kernel) (by decide) ?_
      exact mV_iret (by decide +kernel) rfl h
  · replace h := h.2 hc
    refine mV_iconst (n := -1) (v := (-1)) (by decide +kernel) (by decide) ?_
    exact mV_iret (by decide +kernel) rfl h
set_option maxRecDepth 100000 in
set_option maxHeartbeats 4000000 in
theorem e_X12_sought {l : Launch} {κ : mm_K} {d : Nat} {G : mm_G} {K : Int32 → mm_G → Prop} (a1 : Int32) (a2 : Int32) (a3 : Int32) (h : mC l κ true (d + 6) 0 0 m_X12_canSeek [.ref 0, .int a1, .int a2, .int a3] G (rI (fun r1 G2 => ((r1 = 0 → K (-1) G2) ∧ (¬ r1 = 0 → mC l κ true (d + 6) 0 0 m_X8_seek [.ref 171, .int a1, .int a2, .int a3] G2 (rI (fun r3 G4 => K r3 G4))))))) : mC l κ true (d + 7) 0 0 m_X12_sought [.ref 0, .int a1, .int a2, .int a3] G (rI K) := by
  refine mC.of (by decide) (Nat.le_of_ble_eq_true rfl) [some (.ref 0), some (.int a1), some (.int a2), some (.int a3)] rfl ?_
  refine mV_aload_n (k := 0) (by decide +kernel) rfl ?_
  refine mV_iload_n (k := 1) (by decide +kernel) rfl ?_
  refine mV_iload_n (k := 2) (by decide +kernel) rfl ?_
  refine mV_iload_n (k := 3) (by decide +kernel) rfl ?_
  refine mV_cV (as := [.int a1, .int a2, .int a3]) (rest := []) (mc1 := 0) (ms1 := 0) (mc := 0) (ms := 0) (by decide +kernel) md_X12_canSeek lk_12_249 sh_0 rfl rfl rfl (Nat.le_of_ble_eq_true rfl) (mC.mono (mm_contI (fun r1 G2 hK => ?_)) h)
  replace h := hK
  refine mV_if_eq (off := 16) (tgt := 23) (by decide +kernel) (by decide) (fun hc => ?_) (fun hc => ?_)
  · replace h := h.1 hc
    refine mV_iconst (n := -1) (v := (-1)) (by decide +kernel) (by decide) ?_
    exact mV_iret (by decide +kernel) rfl h
  · replace h := h.2 hc
    refine mV_aload_n (k := 0) (by decide +kernel) rfl ?_
    refine mV_gfr (r := some 171) (by decide +kernel) fk_12_69 sh_0 (mm_rrs st_0_7) rfl ?_
    refine mV_iload_n (k := 1) (by decide +kernel) rfl ?_
    refine mV_iload_n (k := 2) (by decide +kernel) rfl ?_
    refine mV_iload_n (k := 3) (by decide +kernel) rfl ?_
    refine mV_cV (as := [.int a1, .int a2, .int a3]) (rest := []) (mc1 := 0) (ms1 := 0) (mc := 0) (ms := 0) (by decide +kernel) md_X8_seek lk_12_252 sh_171 rfl rfl rfl (Nat.le_of_ble_eq_true rfl) (mC.mono (mm_contI (fun r3 G4 hK => ?_)) h)
    replace h := hK
    refine mV_goto (off := 4) (tgt := 24) (by decide +kernel) (by decide) ?_
    exact mV_iret (by decide +kernel) rfl h
set_option maxRecDepth 100000 in
set_option maxHeartbeats 4000000 in
theorem e_X12_soughtAt {l : Launch} {κ : mm_K} {d : Nat} {G : mm_G} {K : Int32 → mm_G → Prop} (a1 : Int32) (a2 : Int32) (a3 : Int32) (a4 : Int32) (h : mC l κ true (d + 6) 0 0 m_X12_canSeek [.ref 0, .int a1, .int a2, .int a3] G (rI (fun r1 G2 => ((¬ r1 = 0 → mC l κ true (d + 6) 0 0 m_X8_seek [.ref 171, .int a1, .int a2, .int a3] G2 (rI (fun r3 G4 => ((a4 < 0 → K (-1) G4) ∧ (¬ a4 < 0 → ((r3 ≤ a4 → K (-1) G4) ∧ (¬ r3 ≤ a4 → (((nI 5) ≤ a4 → K (-1) G4) ∧ (¬ (nI 5) ≤ a4 → vp_in a4 5 ∧ K (mg_i G4 172 a4.toNatClampNeg) G4))))))))) ∧ (r1 = 0 → K (-1) G2))))) : mC l κ true (d + 7) 0 0 m_X12_soughtAt [.ref 0, .int a1, .int a2, .int a3, .int a4] G (rI K) := by
  refine mC.of (by decide) (Nat.le_of_ble_eq_true rfl) [some (.ref 0), some (.int a1), some (.int a2), some (.int a3), some (.int a4), none] rfl ?_
  refine mV_aload_n (k := 0) (by decide +kernel) rfl ?_
  refine mV_iload_n (k := 1) (by decide +kernel) rfl ?_
  refine mV_iload_n (k := 2) (by decide +kernel) rfl ?_
  refine mV_iload_n (k := 3) (by decide +kernel) rfl ?_
  refine mV_cV (as := [.int a1, .int a2, .int a3]) (rest := []) (mc1 := 0) (ms1 := 0) (mc := 0) (ms := 0) (by decide +kernel) md_X12_canSeek lk_12_249 sh_0 rfl rfl rfl (Nat.le_of_ble_eq_true rfl) (mC.mono (mm_contI (fun r1 G2 hK => ?_)) h)
  replace h := hK
  refine mV_if_ne (off := 5) (tgt := 12) (by decide +kernel) (by decide) (fun hc => ?_) (fun hc => ?_)
  · replace h := h.1 hc
    refine mV_aload_n (k := 0) (by decide +kernel) rfl ?_
    refine mV_gfr (r := some 171) (by decide +kernel) fk_12_69 sh_0 (mm_rrs st_0_7) rfl ?_
    refine mV_iload_n (k := 1) (by decide +kernel) rfl ?_
    refine mV_iload_n (k := 2) (by decide +kernel) rfl ?_
    refine mV_iload_n (k := 3) (by decide +kernel) rfl ?_
    refine mV_cV (as := [.int a1, .int a2, .int a3]) (rest := []) (mc1 := 0) (ms1 := 0) (mc := 0) (ms := 0) (by decide +kernel) md_X8_seek lk_12_252 sh_171 rfl rfl rfl (Nat.le_of_ble_eq_true rfl) (mC.mono (mm_contI (fun r3 G4 hK => ?_)) h)
    replace h := hK
    refine mV_istore (i := 5) (ls' := [some (.ref 0), some (.int a1), some (.int a2), some (.int a3), some (.int a4), some (.int r3)]) (by decide +kernel) (Nat.le_of_ble_eq_true rfl) rfl rfl ?_
    refine mV_iload (i := 4) (by decide +kernel) rfl ?_
    refine mV_if_lt (off := 29) (tgt := 55) (by decide +kernel) (by decide) (fun hc => ?_) (fun hc => ?_)
    · replace h := h.1 hc
      refine mV_iconst (n := -1) (v := (-1)) (by decide +kernel) (by decide) ?_
      exact mV_iret (by decide +kernel) rfl h
    · replace h := h.2 hc
      refine mV_iload (i := 4) (by decide +kernel) rfl ?_
      refine mV_iload (i := 5) (by decide +kernel) rfl ?_
      refine mV_icmp_ge (off := 22) (tgt := 55) (by decide +kernel) (by decide) (fun hc => ?_) (fun hc => ?_)
      · replace h := h.1 hc
        refine mV_iconst (n := -1) (v := (-1)) (by decide +kernel) (by decide) ?_
        exact mV_iret (by decide +kernel) rfl h
      · replace h := h.2 hc
        refine mV_iload (i := 4) (by decide +kernel) rfl ?_
        refine mV_iconst (n := 5) (v := nI 5) (by decide +kernel) (by decide) ?_
        refine mV_icmp_ge (off := 16) (tgt := 55) (by decide +kernel) (by decide) (fun hc => ?_) (fun hc => ?_)
        · replace h := h.1 hc
          refine mV_iconst (n := -1) (v := (-1)) (by decide +kernel) (by decide) ?_
          exact mV_iret (by decide +kernel) rfl h
        · replace h := h.2 hc
          refine mV_aload_n (k := 0) (by decide +kernel) rfl ?_
          refine mV_gfr (r := some 171) (by decide +kernel) fk_12_69 sh_0 (mm_rrs st_0_7) rfl ?_
          refine mV_gfr (r := some 172) (by decide +kernel) fk_12_255 sh_171 (mm_rrs st_171_0) rfl ?_
          refine mV_iload (i := 4) (by decide +kernel) rfl ?_
          refine mV_ialx (x := mg_i G4 172 a4.toNatClampNeg) (by decide +kernel) sh_172 h.1 rfl ?_
          replace h := h.2
          refine mV_goto (off := 4) (tgt := 56) (by decide +kernel) (by decide) ?_
          exact mV_iret (by decide +kernel) rfl h
  · replace h := h.2 hc
    refine mV_iconst (n := -1) (v := (-1)) (by decide +kernel) (by decide) ?_
    exact mV_iret (by decide +kernel) rfl h
set_option maxRecDepth 100000 in
set_option maxHeartbeats 4000000 in
theorem e_X12_put {l : Launch} {κ : mm_K} {d : Nat} {G : mm_G} {K : Int32 → mm_G → Prop} (a1 : Int32) (a2 : Int32) (a3 : Int32) (h : mC l κ true (d + 1) 0 0 m_X12_hasLine [.ref 0, .int a1, .int a2] G (rI (fun r1 G2 => ((¬ r1 = 0 → vp_in a1 4 ∧ (((nI 16) ≤ (mg_i G2 (54 + 2 * a1.toNatClampNeg) 1) → K (-1) G2) ∧ (¬ (nI 16) ≤ (mg_i G2 (54 + 2 * a1.toNatClampNeg) 1) → ((a3 < 0 → K (-1) G2) ∧ (¬ a3 < 0 → ((a3 ≤ (mg_i G2 (54 + 2 * a1.toNatClampNeg) 1) → vp_in a2 16 ∧ ∃ t5, mg_r G2 ((54 + 2 * a1.toNatClampNeg) + 1) a2.toNatClampNeg = some t5 ∧ LineAt t5 ∧ mC l κ true (d + 1) 0 0 m_X6_insert [.ref (54 + 2 * a1.toNatClampNeg), .ref t5, .int a3] G2 (rV (fun G7 => mC l κ true (d + 1) 0 0 m_X12_rowsChanged [.ref 0] (ms_i G7 50 4 (nI 0)) (rV (fun G9 => K (mg_i G9 (54 + 2 * a1.toNatClampNeg) 1) G9))))) ∧ (¬ a3 ≤ (mg_i G2 (54 + 2 * a1.toNatClampNeg) 1) → K (-1) G2))))))) ∧ (r1 = 0 → K (-1) G2))))) : mC l κ true (d + 2) 0 0 m_X12_put [.ref 0, .int a1, .int a2, .int a3] G (rI K) := by
  refine mC.of (by decide) (Nat.le_of_ble_eq_true rfl) [some (.ref 0), some (.int a1), some (.int a2), some (.int a3), none] rfl ?_
  refine mV_aload_n (k := 0) (by decide +kernel) rfl ?_
  refine mV_iload_n (k := 1) (by decide +kernel) rfl ?_
  refine mV_iload_n (k := 2) (by decide +kernel) rfl ?_
  refine mV_cV (as := [.int a1, .int a2]) (rest := []) (mc1 := 0) (ms1 := 0) (mc := 0) (ms := 0) (by decide +kernel) md_X12_hasLine lk_12_131 sh_0 rfl rfl rfl (Nat.le_of_ble_eq_true rfl) (mC.mono (mm_contI (fun r1 G2 hK => ?_)) h)
  replace h := hK
  refine mV_if_ne (off := 5) (tgt := 11) (by decide +kernel) (by decide) (fun hc => ?_) (fun hc => ?_)
  · replace h := h.1 hc
    refine mV_aload_n (k := 0) (by decide +kernel) rfl ?_
    refine mV_gfr (r := some 50) (by decide +kernel) fk_12_28 sh_0 (mm_rrs st_0_2) rfl ?_
    refine mV_gfr (r := some 51) (by decide +kernel) fk_12_122 sh_50 (mm_rrs st_50_0) rfl ?_
    refine mV_iload_n (k := 1) (by decide +kernel) rfl ?_
    have hj3 := h.1
    replace h := h.2
    refine mV_aal (t := 5) (r := some (54 + 2 * a1.toNatClampNeg)) (by decide +kernel) sh_51 (by decide) hj3 (mm_rrs (mm_rs50.2.2.2.2.2.2.2.1 _ (mm_ixlt hj3))) rfl ?_
    refine mV_astore (i := 4) (ls' := [some (.ref 0), some (.int a1), some (.int a2), some (.int a3), some (.ref (54 + 2 * a1.toNatClampNeg))]) (by decide +kernel) (Nat.le_of_ble_eq_true rfl) rfl rfl ?_
    refine mV_aload (i := 4) (by decide +kernel) rfl ?_
    refine mV_gfix (x := mg_i G2 (54 + 2 * a1.toNatClampNeg) 1) (by decide +kernel) fk_12_126 (mm_rs50.2.2.2.2.2.2.2.2 _ (mm_ixlt hj3)).1 rfl ?_
    refine mV_bipush (n := 16) (v := nI 16) (by decide +kernel) (by decide) ?_
    refine mV_icmp_ge (off := 16) (tgt := 45) (by decide +kernel) (by decide) (fun hc => ?_) (fun hc => ?_)
    · replace h := h.1 hc
      refine mV_iconst (n := -1) (v := (-1)) (by decide +kernel) (by decide) ?_
      exact mV_iret (by decide +kernel) rfl h
    · replace h := h.2 hc
      refine mV_iload_n (k := 3) (by decide +kernel) rfl ?_
      refine mV_if_lt (off := 12) (tgt := 45) (by decide +kernel) (by decide) (fun hc => ?_) (fun hc => ?_)
      · replace h := h.1 hc
        refine mV_iconst (n := -1) (v := (-1)) (by decide +kernel) (by decide) ?_
        exact mV_iret (by decide +kernel) rfl h
      · replace h := h.2 hc
        refine mV_iload_n (k := 3) (by decide +kernel) rfl ?_
        refine mV_aload (i := 4) (by decide +kernel) rfl ?_
        refine mV_gfix (x := mg_i G2 (54 + 2 * a1.toNatClampNeg) 1) (by decide +kernel) fk_12_126 (mm_rs50.2.2.2.2.2.2.2.2 _ (mm_ixlt hj3)).1 rfl ?_
        refine mV_icmp_le (off := 5) (tgt := 47) (by decide +kernel) (by decide) (fun hc => ?_) (fun hc => ?_)
        · replace h := h.1 hc
          refine mV_aload (i := 4) (by decide +kernel) rfl ?_
          refine mV_aload (i := 4) (by decide +kernel) rfl ?_
          refine mV_gfr (r := some ((54 + 2 * a1.toNatClampNeg) + 1)) (by decide +kernel) fk_12_135 (mm_rs50.2.2.2.2.2.2.2.2 _ (mm_ixlt hj3)).1 (mm_rrs (mm_rs50.2.2.2.2.2.2.2.2 _ (mm_ixlt hj3)).2.2.1) rfl ?_
          refine mV_iload_n (k := 2) (by decide +kernel) rfl ?_
          have hj4 := h.1
          replace h := h.2
          obtain ⟨t5, hrt5, hat5, h⟩ := h
          refine mV_aal (t := 4) (r := some t5) (by decide +kernel) (mm_rs50.2.2.2.2.2.2.2.2 _ (mm_ixlt hj3)).2.1 (by decide) hj4 ((mm_rrd ((mm_rs50.2.2.2.2.2.2.2.2 _ (mm_ixlt hj3)).2.2.2 _ (mm_ixlt hj4))).trans hrt5) rfl ?_
          refine mV_iload_n (k := 3) (by decide +kernel) rfl ?_
          refine mV_cV (as := [.ref t5, .int a3]) (rest := []) (mc1 := 0) (ms1 := 0) (mc := 0) (ms := 0) (by decide +kernel) md_X6_insert lk_12_256 (mm_rs50.2.2.2.2.2.2.2.2 _ (mm_ixlt hj3)).1 rfl rfl rfl (Nat.le_of_ble_eq_true rfl) (mC.mono (mm_contV (fun G7 hK => ?_)) h)
          replace h := hK
          refine mV_aload_n (k := 0) (by decide +kernel) rfl ?_
          refine mV_gfr (r := some 50) (by decide +kernel) fk_12_28 sh_0 (mm_rrs st_0_2) rfl ?_
          refine mV_iconst (n := 0) (v := nI 0) (by decide +kernel) (by decide) ?_
          refine mV_pfi (by decide +kernel) fk_12_260 sh_50 ?_
          refine mV_aload_n (k := 0) (by decide +kernel) rfl ?_
          refine mV_cV (as := []) (rest := []) (mc1 := 0) (ms1 := 0) (mc := 0) (ms := 0) (by decide +kernel) md_X12_rowsChanged lk_12_115 sh_0 rfl rfl rfl (Nat.le_of_ble_eq_true rfl) (mC.mono (mm_contV (fun G9 hK => ?_)) h)
          replace h := hK
          refine mV_aload (i := 4) (by decide +kernel) rfl ?_
          refine mV_gfix (x := mg_i G9 (54 + 2 * a1.toNatClampNeg) 1) (by decide +kernel) fk_12_126 (mm_rs50.2.2.2.2.2.2.2.2 _ (mm_ixlt hj3)).1 rfl ?_
          exact mV_iret (by decide +kernel) rfl h
        · replace h := h.2 hc
          refine mV_iconst (n := -1) (v := (-1)) (by decide +kernel) (by decide) ?_
          exact mV_iret (by decide +kernel) rfl h
  · replace h := h.2 hc
    refine mV_iconst (n := -1) (v := (-1)) (by decide +kernel) (by decide) ?_
    exact mV_iret (by decide +kernel) rfl h
set_option maxRecDepth 100000 in
set_option maxHeartbeats 4000000 in
theorem e_X12_take {l : Launch} {κ : mm_K} {d : Nat} {G : mm_G} {K : Int32 → mm_G → Prop} (a1 : Int32) (a2 : Int32) (h : mC l κ true (d + 1) 0 0 m_X12_hasLine [.ref 0, .int a1, .int a2] G (rI (fun r1 G2 => ((¬ r1 = 0 → vp_in a1 4 ∧ mC l κ true (d + 1) 0 0 m_X6_remove [.ref (54 + 2 * a1.toNatClampNeg), .int a2] G2 (rV (fun G5 => mC l κ true (d + 1) 0 0 m_X12_rowsChanged [.ref 0] (ms_i G5 50 4 (nI 0)) (rV (fun G7 => vp_in a1 4 ∧ K (mg_i G7 (54 + 2 * a1.toNatClampNeg) 1) G7))))) ∧ (r1 = 0 → K (-1) G2))))) : mC l κ true (d + 2) 0 0 m_X12_take [.ref 0, .int a1, .int a2] G (rI K) := by
  refine mC.of (by decide) (Nat.le_of_ble_eq_true rfl) [some (.ref 0), some (.int a1), some (.int a2)] rfl ?_
  refine mV_aload_n (k := 0) (by decide +kernel) rfl ?_
  refine mV_iload_n (k := 1) (by decide +kernel) rfl ?_
  refine mV_iload_n (k := 2) (by decide +kernel) rfl ?_
  refine mV_cV (as := [.int a1, .int a2]) (rest := []) (mc1 := 0) (ms1 := 0) (mc := 0) (ms := 0) (by decide +kernel) md_X12_hasLine lk_12_131 sh_0 rfl rfl rfl (Nat.le_of_ble_eq_true rfl) (mC.mono (mm_contI (fun r1 G2 hK => ?_)) h)
  replace h := hK
  refine mV_if_ne (off := 5) (tgt := 11) (by decide +kernel) (by decide) (fun hc => ?_) (fun hc => ?_)
  · replace h := h.1 hc
    refine mV_aload_n (k := 0) (by decide +kernel) rfl ?_
    refine mV_gfr (r := some 50) (by decide +kernel) fk_12_28 sh_0 (mm_rrs st_0_2) rfl ?_
    refine mV_gfr (r := some 51) (by decide +kernel) fk_12_122 sh_50 (mm_rrs st_50_0) rfl ?_
    refine mV_iload_n (k := 1) (by decide +kernel) rfl ?_
    have hj3 := h.1
    replace h := h.2
    refine mV_aal (t := 5) (r := some (54 + 2 * a1.toNatClampNeg)) (by decide +kernel) sh_51 (by decide) hj3 (mm_rrs (mm_rs50.2.2.2.2.2.2.2.1 _ (mm_ixlt hj3))) rfl ?_
    refine mV_iload_n (k := 2) (by decide +kernel) rfl ?_
    refine mV_cV (as := [.int a2]) (rest := []) (mc1 := 0) (ms1 := 0) (mc := 0) (ms := 0) (by decide +kernel) md_X6_remove lk_12_263 (mm_rs50.2.2.2.2.2.2.2.2 _ (mm_ixlt hj3)).1 rfl rfl rfl (Nat.le_of_ble_eq_true rfl) (mC.mono (mm_contV (fun G5 hK => ?_)) h)
    replace h := hK
    refine mV_aload_n (k := 0) (by decide +kernel) rfl ?_
    refine mV_gfr (r := some 50) (by decide +kernel) fk_12_28 sh_0 (mm_rrs st_0_2) rfl ?_
    refine mV_iconst (n := 0) (v := nI 0) (by decide +kernel) (by decide) ?_
    refine mV_pfi (by decide +kernel) fk_12_260 sh_50 ?_
    refine mV_aload_n (k := 0) (by decide +kernel) rfl ?_
    refine mV_cV (as := []) (rest := []) (mc1 := 0) (ms1 := 0) (mc := 0) (ms := 0) (by decide +kernel) md_X12_rowsChanged lk_12_115 sh_0 rfl rfl rfl (Nat.le_of_ble_eq_true rfl) (mC.mono (mm_contV (fun G7 hK => ?_)) h)
    replace h := hK
    refine mV_aload_n (k := 0) (by decide +kernel) rfl ?_
    refine mV_gfr (r := some 50) (by decide +kernel) fk_12_28 sh_0 (mm_rrs st_0_2) rfl ?_
    refine mV_gfr (r := some 51) (by decide +kernel) fk_12_122 sh_50 (mm_rrs st_50_0) rfl ?_
    refine mV_iload_n (k := 1) (by decide +kernel) rfl ?_
    have hj8 := h.1
    replace h := h.2
    refine mV_aal (t := 5) (r := some (54 + 2 * a1.toNatClampNeg)) (by decide +kernel) sh_51 (by decide) hj8 (mm_rrs (mm_rs50.2.2.2.2.2.2.2.1 _ (mm_ixlt hj8))) rfl ?_
    refine mV_gfix (x := mg_i G7 (54 + 2 * a1.toNatClampNeg) 1) (by decide +kernel) fk_12_126 (mm_rs50.2.2.2.2.2.2.2.2 _ (mm_ixlt hj8)).1 rfl ?_
    exact mV_iret (by decide +kernel) rfl h
  · replace h := h.2 hc
    refine mV_iconst (n := -1) (v := (-1)) (by decide +kernel) (by decide) ?_
    exact mV_iret (by decide +kernel) rfl h
set_option maxRecDepth 100000 in
set_option maxHeartbeats 4000000 in
theorem e_X12_see {l : Launch} {κ : mm_K} {d : Nat} {G : mm_G} {K : Int32 → mm_G → Prop} (a1 : Int32) (a2 : Int32) (a3 : Int32) (h : mC l κ true (d + 2) 0 0 m_X12_hasRun [.ref 0, .int a1, .int a3, .int a2] G (rI (fun r1 G2 => ((r1 = 0 → K (-1) G2) ∧ (¬ r1 = 0 → (((mg_i G2 50 4) < (nI 20) → (((mg_i G2 50 4) ≤ 0 → vp_in (mg_i G2 50 4) 20 ∧ vp_in (mg_i G2 50 4) 20 ∧ K (mg_i G2 50 4) (ms_i (ms_i (ms_i (ms_i G2 50 5 a1) 52 ((mg_i G2 50 4).toNatClampNeg) a2) 53 ((mg_i G2 50 4).toNatClampNeg) a3) 50 4 ((mg_i G2 50 4) + (nI 1)))) ∧ (¬ (mg_i G2 50 4) ≤ 0 → (((mg_i G2 50 5) = a1 → vp_in (mg_i G2 50 4) 20 ∧ vp_in (mg_i G2 50 4) 20 ∧ K (mg_i G2 50 4) (ms_i (ms_i (ms_i (ms_i G2 50 5 a1) 52 ((mg_i G2 50 4).toNatClampNeg) a2) 53 ((mg_i G2 50 4).toNatClampNeg) a3) 50 4 ((mg_i G2 50 4) + (nI 1)))) ∧ (¬ (mg_i G2 50 5) = a1 → K (-1) G2))))) ∧ (¬ (mg_i G2 50 4) < (nI 20) → K (-1) G2))))))) : mC l κ true (d + 3) 0 0 m_X12_see [.ref 0, .int a1, .int a2, .int a3] G (rI K) := by
  refine mC.of (by decide) (Nat.le_of_ble_eq_true rfl) [some (.ref 0), some (.int a1), some (.int a2), some (.int a3), none] rfl ?_
  refine mV_aload_n (k := 0) (by decide +kernel) rfl ?_
  refine mV_iload_n (k := 1) (by decide +kernel) rfl ?_
  refine mV_iload_n (k := 3) (by decide +kernel) rfl ?_
  refine mV_iload_n (k := 2) (by decide +kernel) rfl ?_
  refine mV_cV (as := [.int a1, .int a3, .int a2]) (rest := []) (mc1 := 0) (ms1 := 0) (mc := 0) (ms := 0) (by decide +kernel) md_X12_hasRun lk_12_154 sh_0 rfl rfl rfl (Nat.le_of_ble_eq_true rfl) (mC.mono (mm_contI (fun r1 G2 hK => ?_)) h)
  replace h := hK
  refine mV_if_eq (off := 15) (tgt := 22) (by decide +kernel) (by decide) (fun hc => ?_) (fun hc => ?_)
  · replace h := h.1 hc
    refine mV_iconst (n := -1) (v := (-1)) (by decide +kernel) (by decide) ?_
    exact mV_iret (by decide +kernel) rfl h
  · replace h := h.2 hc
    refine mV_aload_n (k := 0) (by decide +kernel) rfl ?_
    refine mV_gfr (r := some 50) (by decide +kernel) fk_12_28 sh_0 (mm_rrs st_0_2) rfl ?_
    refine mV_gfix (x := mg_i G2 50 4) (by decide +kernel) fk_12_260 sh_50 rfl ?_
    refine mV_bipush (n := 20) (v := nI 20) (by decide +kernel) (by decide) ?_
    refine mV_icmp_lt (off := 5) (tgt := 24) (by decide +kernel) (by decide) (fun hc => ?_) (fun hc => ?_)
    · replace h := h.1 hc
      refine mV_aload_n (k := 0) (by decide +kernel) rfl ?_
      refine mV_gfr (r := some 50) (by decide +kernel) fk_12_28 sh_0 (mm_rrs st_0_2) rfl ?_
      refine mV_gfix (x := mg_i G2 50 4) (by decide +kernel) fk_12_260 sh_50 rfl ?_
      refine mV_if_le (off := 16) (tgt := 47) (by decide +kernel) (by decide) (fun hc => ?_) (fun hc => ?_)
      · replace h := h.1 hc
        refine mV_aload_n (k := 0) (by decide +kernel) rfl ?_
        refine mV_gfr (r := some 50) (by decide +kernel) fk_12_28 sh_0 (mm_rrs st_0_2) rfl ?_
        refine mV_gfix (x := mg_i G2 50 4) (by decide +kernel) fk_12_260 sh_50 rfl ?_
        refine mV_istore (i := 4) (ls' := [some (.ref 0), some (.int a1), some (.int a2), some (.int a3), some (.int (mg_i G2 50 4))]) (by decide +kernel) (Nat.le_of_ble_eq_true rfl) rfl rfl ?_
        refine mV_aload_n (k := 0) (by decide +kernel) rfl ?_
        refine mV_gfr (r := some 50) (by decide +kernel) fk_12_28 sh_0 (mm_rrs st_0_2) rfl ?_
        refine mV_iload_n (k := 1) (by decide +kernel) rfl ?_
        refine mV_pfi (by decide +kernel) fk_12_266 sh_50 ?_
        refine mV_aload_n (k := 0) (by decide +kernel) rfl ?_
        refine mV_gfr (r := some 50) (by decide +kernel) fk_12_28 sh_0 (mm_rrs st_0_2) rfl ?_
        refine mV_gfr (r := some 52) (by decide +kernel) fk_12_269 sh_50 (mm_rrs st_50_2) rfl ?_
        refine mV_iload (i := 4) (by decide +kernel) rfl ?_
        refine mV_iload_n (k := 2) (by decide +kernel) rfl ?_
        refine mV_ias (by decide +kernel) sh_52 h.1 ?_
        replace h := h.2
        refine mV_aload_n (k := 0) (by decide +kernel) rfl ?_
        refine mV_gfr (r := some 50) (by decide +kernel) fk_12_28 sh_0 (mm_rrs st_0_2) rfl ?_
        refine mV_gfr (r := some 53) (by decide +kernel) fk_12_272 sh_50 (mm_rrs st_50_3) rfl ?_
        refine mV_iload (i := 4) (by decide +kernel) rfl ?_
        refine mV_iload_n (k := 3) (by decide +kernel) rfl ?_
        refine mV_ias (by decide +kernel) sh_53 h.1 ?_
        replace h := h.2
        refine mV_aload_n (k := 0) (by decide +kernel) rfl ?_
        refine mV_gfr (r := some 50) (by decide +kernel) fk_12_28 sh_0 (mm_rrs st_0_2) rfl ?_
        refine mV_iload (i := 4) (by decide +kernel) rfl ?_
        refine mV_iconst (n := 1) (v := nI 1) (by decide +kernel) (by decide) ?_
        refine mV_iadd (by decide +kernel) ?_
        refine mV_pfi (by decide +kernel) fk_12_260 sh_50 ?_
        refine mV_iload (i := 4) (by decide +kernel) rfl ?_
        exact mV_iret (by decide +kernel) rfl h
      · replace h := h.2 hc
        refine mV_aload_n (k := 0) (by decide +kernel) rfl ?_
        refine mV_gfr (r := some 50) (by decide +kernel) fk_12_28 sh_0 (mm_rrs st_0_2) rfl ?_
        refine mV_gfix (x := mg_i G2 50 5) (by decide +kernel) fk_12_266 sh_50 rfl ?_
        refine mV_iload_n (k := 1) (by decide +kernel) rfl ?_
        refine mV_icmp_eq (off := 5) (tgt := 47) (by decide +kernel) (by decide) (fun hc => ?_) (fun hc => ?_)
        · replace h := h.1 hc
          refine mV_aload_n (k := 0) (by decide +kernel) rfl ?_
          refine mV_gfr (r := some 50) (by decide +kernel) fk_12_28 sh_0 (mm_rrs st_0_2) rfl ?_
          refine mV_gfix (x := mg_i G2 50 4) (by decide +kernel) fk_12_260 sh_50 rfl ?_
          refine mV_istore (i := 4) (ls' := [some (.ref 0), some (.int a1), some (.int a2), some (.int a3), some (.int (mg_i G2 50 4))]) (by decide +kernel) (Nat.le_of_ble_eq_true rfl) rfl rfl ?_
          refine mV_aload_n (k := 0) (by decide +kernel) rfl ?_
          refine mV_gfr (r := some 50) (by decide +kernel) fk_12_28 sh_0 (mm_rrs st_0_2) rfl ?_
          refine mV_iload_n (k := 1) (by decide +kernel) rfl ?_
          refine mV_pfi (by decide +kernel) fk_12_266 sh_50 ?_
          refine mV_aload_n (k := 0) (by decide +kernel) rfl ?_
          refine mV_gfr (r := some 50) (by decide +kernel) fk_12_28 sh_0 (mm_rrs st_0_2) rfl ?_
          refine mV_gfr (r := some 52) (by decide +kernel) fk_12_269 sh_50 (mm_rrs st_50_2) rfl ?_
          refine mV_iload (i := 4) (by decide +kernel) rfl ?_
          refine mV_iload_n (k := 2) (by decide +kernel) rfl ?_
          refine mV_ias (by decide +kernel) sh_52 h.1 ?_
          replace h := h.2
          refine mV_aload_n (k := 0) (by decide +kernel) rfl ?_
          refine mV_gfr (r := some 50) (by decide +kernel) fk_12_28 sh_0 (mm_rrs st_0_2) rfl ?_
          refine mV_gfr (r := some 53) (by decide +kernel) fk_12_272 sh_50 (mm_rrs st_50_3) rfl ?_
          refine mV_iload (i := 4) (by decide +kernel) rfl ?_
          refine mV_iload_n (k := 3) (by decide +kernel) rfl ?_
          refine mV_ias (by decide +kernel) sh_53 h.1 ?_
          replace h := h.2
          refine mV_aload_n (k := 0) (by decide +kernel) rfl ?_
          refine mV_gfr (r := some 50) (by decide +kernel) fk_12_28 sh_0 (mm_rrs st_0_2) rfl ?_
          refine mV_iload (i := 4) (by decide +kernel) rfl ?_
          refine mV_iconst (n := 1) (v := nI 1) (by decide +kernel) (by decide) ?_
          refine mV_iadd (by decide +kernel) ?_
          refine mV_pfi (by decide +kernel) fk_12_260 sh_50 ?_
          refine mV_iload (i := 4) (by decide +kernel) rfl ?_
          exact mV_iret (by decide +kernel) rfl h
        · replace h := h.2 hc
          refine mV_iconst (n := -1) (v := (-1)) (by decide +kernel) (by decide) ?_
          exact mV_iret (by decide +kernel) rfl h
    · replace h := h.2 hc
      refine mV_iconst (n := -1) (v := (-1)) (by decide +kernel) (by decide) ?_
      exact mV_iret (by decide +kernel) rfl h
set_option maxRecDepth 100000 in
set_option maxHeartbeats 4000000 in
theorem e_X12_forget {l : Launch} {κ : mm_K} {d : Nat} {G : mm_G} {K : Int32 → mm_G → Prop}  (h : K (mg_i G 50 4) (ms_i G 50 4 (nI 0))) : mC l κ true d 0 0 m_X12_forget [.ref 0] G (rI K) := by
  refine mC.of (by decide) (Nat.le_of_ble_eq_true rfl) [some (.ref 0), none] rfl ?_
  refine mV_aload_n (k := 0) (by decide +kernel) rfl ?_
  refine mV_gfr (r := some 50) (by decide +kernel) fk_12_28 sh_0 (mm_rrs st_0_2) rfl ?_
  refine mV_gfix (x := mg_i G 50 4) (by decide +kernel) fk_12_260 sh_50 rfl ?_
  refine mV_istore_n (k := 1) (ls' := [some (.ref 0), some (.int (mg_i G 50 4))]) (by decide +kernel) (Nat.le_of_ble_eq_true rfl) rfl rfl ?_
  refine mV_aload_n (k := 0) (by decide +kernel) rfl ?_
  refine mV_gfr (r := some 50) (by decide +kernel) fk_12_28 sh_0 (mm_rrs st_0_2) rfl ?_
  refine mV_iconst (n := 0) (v := nI 0) (by decide +kernel) (by decide) ?_
  refine mV_pfi (by decide +kernel) fk_12_260 sh_50 ?_
  refine mV_iload_n (k := 1) (by decide +kernel) rfl ?_
  exact mV_iret (by decide +kernel) rfl h
set_option maxRecDepth 100000 in
set_option maxHeartbeats 4000000 in
theorem e_X12_suspects {l : Launch} {κ : mm_K} {d : Nat} {G : mm_G} {K : Int32 → mm_G → Prop} (a1 : Int32) (a2 : Int32) (a3 : Int32) (h : mC l κ true (d + 4) 0 0 m_X12_canSuspect [.ref 0, .int a1, .int a2, .int a3] G (rI (fun r1 G2 => ((r1 = 0 → K (-1) G2) ∧ (¬ r1 = 0 → mC l κ true (d + 4) 0 0 m_X9_narrow [.ref 175, .int a1, .int a2, .int a3] G2 (rI (fun r3 G4 => K r3 G4))))))) : mC l κ true (d + 5) 0 0 m_X12_suspects [.ref 0, .int a1, .int a2, .int a3] G (rI K) := by
  refine mC.of (by decide) (Nat.le_of_ble_eq_true rfl) [some (.ref 0), some (.int a1), some (.int a2), some (.int a3)] rfl ?_
  refine mV_aload_n (k := 0) (by decide +kernel) rfl ?_
  refine mV_iload_n (k := 1) (by decide +kernel) rfl ?_
  refine mV_iload_n (k := 2) (by decide +kernel) rfl ?_
  refine mV_iload_n (k := 3) (by decide +kernel) rfl ?_
  refine mV_cV (as := [.int a1, .int a2, .int a3]) (rest := []) (mc1 := 0) (ms1 := 0) (mc := 0) (ms := 0) (by decide +kernel) md_X12_canSuspect lk_12_275 sh_0 rfl rfl rfl (Nat.le_of_ble_eq_true rfl) (mC.mono (mm_contI (fun r1 G2 hK => ?_)) h)
  replace h := hK
  refine mV_if_eq (off := 16) (tgt := 23) (by decide +kernel) (by decide) (fun hc => ?_) (fun hc => ?_)
  · replace h := h.1 hc
    refine mV_iconst (n := -1) (v := (-1)) (by decide +kernel) (by decide) ?_
    exact mV_iret (by decide +kernel) rfl h
  · replace h := h.2 hc
    refine mV_aload_n (k := 0) (by decide +kernel) rfl ?_
    refine mV_gfr (r := some 175) (by decide +kernel) fk_12_76 sh_0 (mm_rrs st_0_8) rfl ?_
    refine mV_iload_n (k := 1) (by decide +kernel) rfl ?_
    refine mV_iload_n (k := 2) (by decide +kernel) rfl ?_
    refine mV_iload_n (k := 3) (by decide +kernel) rfl ?_
    refine mV_cV (as := [.int a1, .int a2, .int a3]) (rest := []) (mc1 := 0) (ms1 := 0) (mc := 0) (ms := 0) (by decide +kernel) md_X9_narrow lk_12_278 sh_175 rfl rfl rfl (Nat.le_of_ble_eq_true rfl) (mC.mono (mm_contI (fun r3 G4 hK => ?_)) h)
    replace h := hK
    refine mV_goto (off := 4) (tgt := 24) (by decide +kernel) (by decide) ?_
    exact mV_iret (by decide +kernel) rfl h
set_option maxRecDepth 100000 in
set_option maxHeartbeats 4000000 in
theorem e_X12_suspect {l : Launch} {κ : mm_K} {d : Nat} {G : mm_G} {K : Int32 → mm_G → Prop} (a1 : Int32) (a2 : Int32) (a3 : Int32) (a4 : Int32) (h : mC l κ true (d + 4) 0 0 m_X12_canSuspect [.ref 0, .int a1, .int a2, .int a3] G (rI (fun r1 G2 => ((¬ r1 = 0 → mC l κ true (d + 4) 0 0 m_X9_narrow [.ref 175, .int a1, .int a2, .int a3] G2 (rI (fun r3 G4 => ((a4 < 0 → K (-1) G4) ∧ (¬ a4 < 0 → ((r3 ≤ a4 → K (-1) G4) ∧ (¬ r3 ≤ a4 → vp_in a4 120 ∧ vp_in (mg_i G4 177 a4.toNatClampNeg) 120 ∧ K (mg_i G4 176 ((mg_i G4 177 a4.toNatClampNeg).toNatClampNeg)) G4))))))) ∧ (r1 = 0 → K (-1) G2))))) : mC l κ true (d + 5) 0 0 m_X12_suspect [.ref 0, .int a1, .int a2, .int a3, .int a4] G (rI K) := by
  refine mC.of (by decide) (Nat.le_of_ble_eq_true rfl) [some (.ref 0), some (.int a1), some (.int a2), some (.int a3), some (.int a4), none] rfl ?_
  refine mV_aload_n (k := 0) (by decide +kernel) rfl ?_
  refine mV_iload_n (k := 1) (by decide +kernel) rfl ?_
  refine mV_iload_n (k := 2) (by decide +kernel) rfl ?_
  refine mV_iload_n (k := 3) (by decide +kernel) rfl ?_
  refine mV_cV (as := [.int a1, .int a2, .int a3]) (rest := []) (mc1 := 0) (ms1 := 0) (mc := 0) (ms := 0) (by decide +kernel) md_X12_canSuspect lk_12_275 sh_0 rfl rfl rfl (Nat.le_of_ble_eq_true rfl) (mC.mono (mm_contI (fun r1 G2 hK => ?_)) h)
  replace h := hK
  refine mV_if_ne (off := 5) (tgt := 12) (by decide +kernel) (by decide) (fun hc => ?_) (fun hc => ?_)
  · replace h := h.1 hc
    refine mV_aload_n (k := 0) (by decide +kernel) rfl ?_
    refine mV_gfr (r := some 175) (by decide +kernel) fk_12_76 sh_0 (mm_rrs st_0_8) rfl ?_
    refine mV_iload_n (k := 1) (by decide +kernel) rfl ?_
    refine mV_iload_n (k := 2) (by decide +kernel) rfl ?_
    refine mV_iload_n (k := 3) (by decide +kernel) rfl ?_
    refine mV_cV (as := [.int a1, .int a2, .int a3]) (rest := []) (mc1 := 0) (ms1 := 0) (mc := 0) (ms := 0) (by decide +kernel) md_X9_narrow lk_12_278 sh_175 rfl rfl rfl (Nat.le_of_ble_eq_true rfl) (mC.mono (mm_contI (fun r3 G4 hK => ?_)) h)
    replace h := hK
    refine mV_istore (i := 5) (ls' := [some (.ref 0), some (.int a1), some (.int a2), some (.int a3), some (.int a4), some (.int r3)]) (by decide +kernel) (Nat.le_of_ble_eq_true rfl) rfl rfl ?_
    refine mV_iload (i := 4) (by decide +kernel) rfl ?_
    refine mV_if_lt (off := 31) (tgt := 57) (by decide +kernel) (by decide) (fun hc => ?_) (fun hc => ?_)
    · replace h := h.1 hc
      refine mV_iconst (n := -1) (v := (-1)) (by decide +kernel) (by decide) ?_
      exact mV_iret (by decide +kernel) rfl h
    · replace h := h.2 hc
      refine mV_iload (i := 4) (by decide +kernel) rfl ?_
      refine mV_iload (i := 5) (by decide +kernel) rfl ?_
      refine mV_icmp_ge (off := 24) (tgt := 57) (by decide +kernel) (by decide) (fun hc => ?_) (fun hc => ?_)
      · replace h := h.1 hc
        refine mV_iconst (n := -1) (v := (-1)) (by decide +kernel) (by decide) ?_
        exact mV_iret (by decide +kernel) rfl h
      · replace h := h.2 hc
        refine mV_aload_n (k := 0) (by decide +kernel) rfl ?_
        refine mV_gfr (r := some 175) (by decide +kernel) fk_12_76 sh_0 (mm_rrs st_0_8) rfl ?_
        refine mV_gfr (r := some 176) (by decide +kernel) fk_12_281 sh_175 (mm_rrs st_175_0) rfl ?_
        refine mV_aload_n (k := 0) (by decide +kernel) rfl ?_
        refine mV_gfr (r := some 175) (by decide +kernel) fk_12_76 sh_0 (mm_rrs st_0_8) rfl ?_
        refine mV_gfr (r := some 177) (by decide +kernel) fk_12_284 sh_175 (mm_rrs st_175_1) rfl ?_
        refine mV_iload (i := 4) (by decide +kernel) rfl ?_
        refine mV_ialx (x := mg_i G4 177 a4.toNatClampNeg) (by decide +kernel) sh_177 h.1 rfl ?_
        replace h := h.2
        refine mV_ialx (x := mg_i G4 176 ((mg_i G4 177 a4.toNatClampNeg).toNatClampNeg)) (by decide +kernel) sh_176 h.1 rfl ?_
        replace h := h.2
        refine mV_goto (off := 4) (tgt := 58) (by decide +kernel) (by decide) ?_
        exact mV_iret (by decide +kernel) rfl h
  · replace h := h.2 hc
    refine mV_iconst (n := -1) (v := (-1)) (by decide +kernel) (by decide) ?_
    exact mV_iret (by decide +kernel) rfl h
set_option maxRecDepth 100000 in
set_option maxHeartbeats 4000000 in
theorem e_X12_next {l : Launch} {κ : mm_K} {d : Nat} {G : mm_G} {K : Int32 → mm_G → Prop} (a1 : Int32) (a2 : Int32) (a3 : Int32) (h : mC l κ true (d + 5) 0 0 m_X12_canSuspect [.ref 0, .int a1, .int a2, .int a3] G (rI (fun r1 G2 => ((r1 = 0 → K (-1) G2) ∧ (¬ r1 = 0 → mC l κ true (d + 5) 0 0 m_X9_bestTrial [.ref 175, .int a1, .int a2, .int a3] G2 (rI (fun r3 G4 => K r3 G4))))))) : mC l κ true (d + 6) 0 0 m_X12_next [.ref 0, .int a1, .int a2, .int a3] G (rI K) := by
  refine mC.of (by decide) (Nat.le_of_ble_eq_true rfl) [some (.ref 0), some (.int a1), some (.int a2), some (.int a3)] rfl ?_
  refine mV_aload_n (k := 0) (by decide +kernel) rfl ?_
  refine mV_iload_n (k := 1) (by decide +kernel) rfl ?_
  refine mV_iload_n (k := 2) (by decide +kernel) rfl ?_
  refine mV_iload_n (k := 3) (by decide +kernel) rfl ?_
  refine mV_cV (as := [.int a1, .int a2, .int a3]) (rest := []) (mc1 := 0) (ms1 := 0) (mc := 0) (ms := 0) (by decide +kernel) md_X12_canSuspect lk_12_275 sh_0 rfl rfl rfl (Nat.le_of_ble_eq_true rfl) (mC.mono (mm_contI (fun r1 G2 hK => ?_)) h)
  replace h := hK
  refine mV_if_eq (off := 16) (tgt := 23) (by decide +kernel) (by decide) (fun hc => ?_) (fun hc => ?_)
  · replace h := h.1 hc
    refine mV_iconst (n := -1) (v := (-1)) (by decide +kernel) (by decide) ?_
    exact mV_iret (by decide +kernel) rfl h
  · replace h := h.2 hc
    refine mV_aload_n (k := 0) (by decide +kernel) rfl ?_
    refine mV_gfr (r := some 175) (by decide +kernel) fk_12_76 sh_0 (mm_rrs st_0_8) rfl ?_
    refine mV_iload_n (k := 1) (by decide +kernel) rfl ?_
    refine mV_iload_n (k := 2) (by decide +kernel) rfl ?_
    refine mV_iload_n (k := 3) (by decide +kernel) rfl ?_
    refine mV_cV (as := [.int a1, .int a2, .int a3]) (rest := []) (mc1 := 0) (ms1 := 0) (mc := 0) (ms := 0) (by decide +kernel) md_X9_bestTrial lk_12_287 sh_175 rfl rfl rfl (Nat.le_of_ble_eq_true rfl) (mC.mono (mm_contI (fun r3 G4 hK => ?_)) h)
    replace h := hK
    refine mV_goto (off := 4) (tgt := 24) (by decide +kernel) (by decide) ?_
    exact mV_iret (by decide +kernel) rfl h
set_option maxRecDepth 100000 in
set_option maxHeartbeats 4000000 in
theorem e_X12_most {l : Launch} {κ : mm_K} {d : Nat} {G : mm_G} {K : Int32 → mm_G → Prop} (a1 : Int32) (a2 : Int32) (a3 : Int32) (h : mC l κ true (d + 5) 0 0 m_X12_canSuspect [.ref 0, .int a1, .int a2, .int a3] G (rI (fun r1 G2 => ((r1 = 0 → K (-1) G2) ∧ (¬ r1 = 0 → mC l κ true (d + 5) 0 0 m_X9_fewestTrials [.ref 175, .int a1, .int a2, .int a3] G2 (rI (fun r3 G4 => K r3 G4))))))) : mC l κ true (d + 6) 0 0 m_X12_most [.ref 0, .int a1, .int a2, .int a3] G (rI K) := by
  refine mC.of (by decide) (Nat.le_of_ble_eq_true rfl) [some (.ref 0), some (.int a1), some (.int a2), some (.int a3)] rfl ?_
  refine mV_aload_n (k := 0) (by decide +kernel) rfl ?_
  refine mV_iload_n (k := 1) (by decide +kernel) rfl ?_
  refine mV_iload_n (k := 2) (by decide +kernel) rfl ?_
  refine mV_iload_n (k := 3) (by decide +kernel) rfl ?_
  refine mV_cV (as := [.int a1, .int a2, .int a3]) (rest := []) (mc1 := 0) (ms1 := 0) (mc := 0) (ms := 0) (by decide +kernel) md_X12_canSuspect lk_12_275 sh_0 rfl rfl rfl (Nat.le_of_ble_eq_true rfl) (mC.mono (mm_contI (fun r1 G2 hK => ?_)) h)
  replace h := hK
  refine mV_if_eq (off := 16) (tgt := 23) (by decide +kernel) (by decide) (fun hc => ?_) (fun hc => ?_)
  · replace h := h.1 hc
    refine mV_iconst (n := -1) (v := (-1)) (by decide +kernel) (by decide) ?_
    exact mV_iret (by decide +kernel) rfl h
  · replace h := h.2 hc
    refine mV_aload_n (k := 0) (by decide +kernel) rfl ?_
    refine mV_gfr (r := some 175) (by decide +kernel) fk_12_76 sh_0 (mm_rrs st_0_8) rfl ?_
    refine mV_iload_n (k := 1) (by decide +kernel) rfl ?_
    refine mV_iload_n (k := 2) (by decide +kernel) rfl ?_
    refine mV_iload_n (k := 3) (by decide +kernel) rfl ?_
    refine mV_cV (as := [.int a1, .int a2, .int a3]) (rest := []) (mc1 := 0) (ms1 := 0) (mc := 0) (ms := 0) (by decide +kernel) md_X9_fewestTrials lk_12_290 sh_175 rfl rfl rfl (Nat.le_of_ble_eq_true rfl) (mC.mono (mm_contI (fun r3 G4 hK => ?_)) h)
    replace h := hK
    refine mV_goto (off := 4) (tgt := 24) (by decide +kernel) (by decide) ?_
    exact mV_iret (by decide +kernel) rfl h
set_option maxRecDepth 100000 in
set_option maxHeartbeats 4000000 in
theorem e_X12_hold {l : Launch} {κ : mm_K} {d : Nat} {G : mm_G} {K : Int32 → mm_G → Prop} (a1 : Int32) (h : ((a1 < 0 → K (nI 0) G) ∧ (¬ a1 < 0 → ((a1 < (nI 3) → vp_in a1 3 ∧ mC l κ true (d + 1) 0 0 m_X7_copy [.ref (189 + 12 * a1.toNatClampNeg), .ref 50] G (rV (fun G3 => vp_in a1 3 ∧ K (nI 1) (ms_i G3 225 a1.toNatClampNeg (vp_nar .boolean (nI 1)))))) ∧ (¬ a1 < (nI 3) → K (nI 0) G))))) : mC l κ true (d + 2) 0 0 m_X12_hold [.ref 0, .int a1] G (rI K) := by
  refine mC.of (by decide) (Nat.le_of_ble_eq_true rfl) [some (.ref 0), some (.int a1)] rfl ?_
  refine mV_iload_n (k := 1) (by decide +kernel) rfl ?_
  refine mV_if_lt (off := 8) (tgt := 9) (by decide +kernel) (by decide) (fun hc => ?_) (fun hc => ?_)
  · replace h := h.1 hc
    refine mV_iconst (n := 0) (v := nI 0) (by decide +kernel) (by decide) ?_
    exact mV_zret (by decide +kernel) rfl (by decide) h
  · replace h := h.2 hc
    refine mV_iload_n (k := 1) (by decide +kernel) rfl ?_
    refine mV_iconst (n := 3) (v := nI 3) (by decide +kernel) (by decide) ?_
    refine mV_icmp_lt (off := 5) (tgt := 11) (by decide +kernel) (by decide) (fun hc => ?_) (fun hc => ?_)
    · replace h := h.1 hc
      refine mV_aload_n (k := 0) (by decide +kernel) rfl ?_
      refine mV_gfr (r := some 188) (by decide +kernel) fk_12_80 sh_0 (mm_rrs st_0_9) rfl ?_
      refine mV_iload_n (k := 1) (by decide +kernel) rfl ?_
      have hj1 := h.1
      replace h := h.2
      refine mV_aal (t := 6) (r := some (189 + 12 * a1.toNatClampNeg)) (by decide +kernel) sh_188 (by decide) hj1 (mm_rrs (mm_rsS _ (mm_ixlt hj1)).2) rfl ?_
      refine mV_aload_n (k := 0) (by decide +kernel) rfl ?_
      refine mV_gfr (r := some 50) (by decide +kernel) fk_12_28 sh_0 (mm_rrs st_0_2) rfl ?_
      refine mV_cV (as := [.ref 50]) (rest := []) (mc1 := 0) (ms1 := 0) (mc := 0) (ms := 0) (by decide +kernel) md_X7_copy lk_12_107 (mm_rsP (mm_rsS _ (mm_ixlt hj1)).1).1 rfl rfl rfl (Nat.le_of_ble_eq_true rfl) (mC.mono (mm_contV (fun G3 hK => ?_)) h)
      replace h := hK
      refine mV_aload_n (k := 0) (by decide +kernel) rfl ?_
      refine mV_gfr (r := some 225) (by decide +kernel) fk_12_84 sh_0 (mm_rrs st_0_10) rfl ?_
      refine mV_iload_n (k := 1) (by decide +kernel) rfl ?_
      refine mV_iconst (n := 1) (v := nI 1) (by decide +kernel) (by decide) ?_
      refine mV_zas (by decide +kernel) sh_225 h.1 ?_
      replace h := h.2
      refine mV_iconst (n := 1) (v := nI 1) (by decide +kernel) (by decide) ?_
      exact mV_zret (by decide +kernel) rfl (by decide) h
    · replace h := h.2 hc
      refine mV_iconst (n := 0) (v := nI 0) (by decide +kernel) (by decide) ?_
      exact mV_zret (by decide +kernel) rfl (by decide) h
set_option maxRecDepth 100000 in
set_option maxHeartbeats 4000000 in
theorem e_X12_restore {l : Launch} {κ : mm_K} {d : Nat} {G : mm_G} {K : Int32 → mm_G → Prop} (a1 : Int32) (h : ((a1 < 0 → K (nI 0) G) ∧ (¬ a1 < 0 → (((nI 3) ≤ a1 → K (nI 0) G) ∧ (¬ (nI 3) ≤ a1 → vp_in a1 3 ∧ ((¬ (mg_i G 225 a1.toNatClampNeg) = 0 → vp_in a1 3 ∧ mC l κ true (d + 1) 0 0 m_X7_copy [.ref 50, .ref (189 + 12 * a1.toNatClampNeg)] G (rV (fun G3 => mC l κ true (d + 1) 0 0 m_X12_rowsChanged [.ref 0] G3 (rV (fun G5 => K (nI 1) G5))))) ∧ ((mg_i G 225 a1.toNatClampNeg) = 0 → K (nI 0) G))))))) : mC l κ true (d + 2) 0 0 m_X12_restore [.ref 0, .int a1] G (rI K) := by
  refine mC.of (by decide) (Nat.le_of_ble_eq_true rfl) [some (.ref 0), some (.int a1)] rfl ?_
  refine mV_iload_n (k := 1) (by decide +kernel) rfl ?_
  refine mV_if_lt (off := 17) (tgt := 18) (by decide +kernel) (by decide) (fun hc => ?_) (fun hc => ?_)
  · replace h := h.1 hc
    refine mV_iconst (n := 0) (v := nI 0) (by decide +kernel) (by decide) ?_
    exact mV_zret (by decide +kernel) rfl (by decide) h
  · replace h := h.2 hc
    refine mV_iload_n (k := 1) (by decide +kernel) rfl ?_
    refine mV_iconst (n := 3) (v := nI 3) (by decide +kernel) (by decide) ?_
    refine mV_icmp_ge (off := 12) (tgt := 18) (by decide +kernel) (by decide) (fun hc => ?_) (fun hc => ?_)
    · replace h := h.1 hc
      refine mV_iconst (n := 0) (v := nI 0) (by decide +kernel) (by decide) ?_
      exact mV_zret (by decide +kernel) rfl (by decide) h
    · replace h := h.2 hc
      refine mV_aload_n (k := 0) (by decide +kernel) rfl ?_
      refine mV_gfr (r := some 225) (by decide +kernel) fk_12_84 sh_0 (mm_rrs st_0_10) rfl ?_
      refine mV_iload_n (k := 1) (by decide +kernel) rfl ?_
      refine mV_zalx (x := mg_i G 225 a1.toNatClampNeg) (by decide +kernel) sh_225 h.1 rfl ?_
      replace h := h.2
      refine mV_if_ne (off := 5) (tgt := 20) (by decide +kernel) (by decide) (fun hc => ?_) (fun hc => ?_)
      · replace h := h.1 hc
        refine mV_aload_n (k := 0) (by decide +kernel) rfl ?_
        refine mV_gfr (r := some 50) (by decide +kernel) fk_12_28 sh_0 (mm_rrs st_0_2) rfl ?_
        refine mV_aload_n (k := 0) (by decide +kernel) rfl ?_
        refine mV_gfr (r := some 188) (by decide +kernel) fk_12_80 sh_0 (mm_rrs st_0_9) rfl ?_
        refine mV_iload_n (k := 1) (by decide +kernel) rfl ?_
        have hj1 := h.1
        replace h := h.2
        refine mV_aal (t := 6) (r := some (189 + 12 * a1.toNatClampNeg)) (by decide +kernel) sh_188 (by decide) hj1 (mm_rrs (mm_rsS _ (mm_ixlt hj1)).2) rfl ?_
        refine mV_cV (as := [.ref (189 + 12 * a1.toNatClampNeg)]) (rest := []) (mc1 := 0) (ms1 := 0) (mc := 0) (ms := 0) (by decide +kernel) md_X7_copy lk_12_107 sh_50 rfl rfl rfl (Nat.le_of_ble_eq_true rfl) (mC.mono (mm_contV (fun G3 hK => ?_)) h)
        replace h := hK
        refine mV_aload_n (k := 0) (by decide +kernel) rfl ?_
        refine mV_cV (as := []) (rest := []) (mc1 := 0) (ms1 := 0) (mc := 0) (ms := 0) (by decide +kernel) md_X12_rowsChanged lk_12_115 sh_0 rfl rfl rfl (Nat.le_of_ble_eq_true rfl) (mC.mono (mm_contV (fun G5 hK => ?_)) h)
        replace h := hK
        refine mV_iconst (n := 1) (v := nI 1) (by decide +kernel) (by decide) ?_
        exact mV_zret (by decide +kernel) rfl (by decide) h
      · replace h := h.2 hc
        refine mV_iconst (n := 0) (v := nI 0) (by decide +kernel) (by decide) ?_
        exact mV_zret (by decide +kernel) rfl (by decide) h
set_option maxRecDepth 100000 in
set_option maxHeartbeats 4000000 in
theorem e_X12_count {l : Launch} {κ : mm_K} {d : Nat} {G : mm_G} {K : Int32 → mm_G → Prop} (a1 : Int32) (h : ((a1 = nI 0 → K (mg_i G 50 1) G) ∧ (a1 = nI 1 → K (mg_i G 62 4) G) ∧ (a1 = nI 2 → mC l κ true (d + 1) 0 0 m_X11_tableSize [.ref 62] G (rI (fun r3 G4 => K r3 G4))) ∧ (a1 = nI 3 → K (mg_i G 62 5) G) ∧ (a1 = nI 4 → K (mg_i G 50 4) G) ∧ (a1 = nI 5 → K (mg_i G 1 4) G) ∧ (a1 = nI 6 → mC l κ true (d + 1) 0 0 m_X12_heldSlots [.ref 0] G (rI (fun r5 G6 => K r5 G6))) ∧ ((a1.toInt < 0 ∨ 6 < a1.toInt) → mC l κ true (d + 1) 0 0 m_X12_numbersOf [.ref 0, .int a1] G (rI (fun r1 G2 => K r1 G2))))) : mC l κ true (d + 2) 0 0 m_X12_count [.ref 0, .int a1] G (rI K) := by
  refine mC.of (by decide) (Nat.le_of_ble_eq_true rfl) [some (.ref 0), some (.int a1)] rfl ?_
  refine mV_iload_n (k := 1) (by decide +kernel) rfl ?_
  have hsw : (a1.toInt < 0 ∨ 6 < a1.toInt) ∨ a1.toInt = 0 ∨ a1.toInt = 1 ∨ a1.toInt = 2 ∨ a1.toInt = 3 ∨ a1.toInt = 4 ∨ a1.toInt = 5 ∨ a1.toInt = 6 := by omega
  rcases hsw with hc | hc | hc | hc | hc | hc | hc | hc
  · replace h := h.2.2.2.2.2.2.2 hc
    refine mV_tabOut (dflt := 96) (lo := 0) (hi := 6) (offs := #[43, 51, 59, 67, 75, 83, 91]) (len := 43) (tgt := 97) (by decide +kernel) hc (by decide) ?_
    refine mV_aload_n (k := 0) (by decide +kernel) rfl ?_
    refine mV_iload_n (k := 1) (by decide +kernel) rfl ?_
    refine mV_cV (as := [.int a1]) (rest := []) (mc1 := 0) (ms1 := 0) (mc := 0) (ms := 0) (by decide +kernel) md_X12_numbersOf lk_12_305 sh_0 rfl rfl rfl (Nat.le_of_ble_eq_true rfl) (mC.mono (mm_contI (fun r1 G2 hK => ?_)) h)
    replace h := hK
    exact mV_iret (by decide +kernel) rfl h
  · replace h := h.1 (mm_eqI hc (by decide))
    refine mV_tabIn (dflt := 96) (lo := 0) (hi := 6) (offs := #[43, 51, 59, 67, 75, 83, 91]) (len := 43) (off := 43) (tgt := 44) (by decide +kernel) (by rw [hc]; decide) (by rw [hc]; decide) (by rw [hc]; rfl) (by decide) ?_
    refine mV_aload_n (k := 0) (by decide +kernel) rfl ?_
    refine mV_gfr (r := some 50) (by decide +kernel) fk_12_28 sh_0 (mm_rrs st_0_2) rfl ?_
    refine mV_gfix (x := mg_i G 50 1) (by decide +kernel) fk_12_293 sh_50 rfl ?_
    exact mV_iret (by decide +kernel) rfl h
  · replace h := h.2.1 (mm_eqI hc (by decide))
    refine mV_tabIn (dflt := 96) (lo := 0) (hi := 6) (offs := #[43, 51, 59, 67, 75, 83, 91]) (len := 43) (off := 51) (tgt := 52) (by decide +kernel) (by rw [hc]; decide) (by rw [hc]; decide) (by rw [hc]; rfl) (by decide) ?_
    refine mV_aload_n (k := 0) (by decide +kernel) rfl ?_
    refine mV_gfr (r := some 62) (by decide +kernel) fk_12_35 sh_0 (mm_rrs st_0_3) rfl ?_
    refine mV_gfix (x := mg_i G 62 4) (by decide +kernel) fk_12_294 sh_62 rfl ?_
    exact mV_iret (by decide +kernel) rfl h
  · replace h := h.2.2.1 (mm_eqI hc (by decide))
    refine mV_tabIn (dflt := 96) (lo := 0) (hi := 6) (offs := #[43, 51, 59, 67, 75, 83, 91]) (len := 43) (off := 59) (tgt := 60) (by decide +kernel) (by rw [hc]; decide) (by rw [hc]; decide) (by rw [hc]; rfl) (by decide) ?_
    refine mV_aload_n (k := 0) (by decide +kernel) rfl ?_
    refine mV_gfr (r := some 62) (by decide +kernel) fk_12_35 sh_0 (mm_rrs st_0_3) rfl ?_
    refine mV_cV (as := []) (rest := []) (mc1 := 0) (ms1 := 0) (mc := 0) (ms := 0) (by decide +kernel) md_X11_tableSize lk_12_295 sh_62 rfl rfl rfl (Nat.le_of_ble_eq_true rfl) (mC.mono (mm_contI (fun r3 G4 hK => ?_)) h)
    replace h := hK
    exact mV_iret (by decide +kernel) rfl h
  · replace h := h.2.2.2.1 (mm_eqI hc (by decide))
    refine mV_tabIn (dflt := 96) (lo := 0) (hi := 6) (offs := #[43, 51, 59, 67, 75, 83, 91]) (len := 43) (off := 67) (tgt := 68) (by decide +kernel) (by rw [hc]; decide) (by rw [hc]; decide) (by rw [hc]; rfl) (by decide) ?_
    refine mV_aload_n (k := 0) (by decide +kernel) rfl ?_
    refine mV_gfr (r := some 62) (by decide +kernel) fk_12_35 sh_0 (mm_rrs st_0_3) rfl ?_
    refine mV_gfix (x := mg_i G 62 5) (by decide +kernel) fk_12_299 sh_62 rfl ?_
    exact mV_iret (by decide +kernel) rfl h
  · replace h := h.2.2.2.2.1 (mm_eqI hc (by decide))
    refine mV_tabIn (dflt := 96) (lo := 0) (hi := 6) (offs := #[43, 51, 59, 67, 75, 83, 91]) (len := 43) (off := 75) (tgt := 76) (by decide +kernel) (by rw [hc]; decide) (by rw [hc]; decide) (by rw [hc]; rfl) (by decide) ?_
    refine mV_aload_n (k := 0) (by decide +kernel) rfl ?_
    refine mV_gfr (r := some 50) (by decide +kernel) fk_12_28 sh_0 (mm_rrs st_0_2) rfl ?_
    refine mV_gfix (x := mg_i G 50 4) (by decide +kernel) fk_12_260 sh_50 rfl ?_
    exact mV_iret (by decide +kernel) rfl h
  · replace h := h.2.2.2.2.2.1 (mm_eqI hc (by decide))
    refine mV_tabIn (dflt := 96) (lo := 0) (hi := 6) (offs := #[43, 51, 59, 67, 75, 83, 91]) (len := 43) (off := 83) (tgt := 84) (by decide +kernel) (by rw [hc]; decide) (by rw [hc]; decide) (by rw [hc]; rfl) (by decide) ?_
    refine mV_aload_n (k := 0) (by decide +kernel) rfl ?_
    refine mV_gfr (r := some 1) (by decide +kernel) fk_12_10 sh_0 (mm_rrs st_0_0) rfl ?_
    refine mV_gfix (x := mg_i G 1 4) (by decide +kernel) fk_12_92 sh_1 rfl ?_
    exact mV_iret (by decide +kernel) rfl h
  · replace h := h.2.2.2.2.2.2.1 (mm_eqI hc (by decide))
    refine mV_tabIn (dflt := 96) (lo := 0) (hi := 6) (offs := #[43, 51, 59, 67, 75, 83, 91]) (len := 43) (off := 91) (tgt := 92) (by decide +kernel) (by rw [hc]; decide) (by rw [hc]; decide) (by rw [hc]; rfl) (by decide) ?_
    refine mV_aload_n (k := 0) (by decide +kernel) rfl ?_
    refine mV_cV (as := []) (rest := []) (mc1 := 0) (ms1 := 0) (mc := 0) (ms := 0) (by decide +kernel) md_X12_heldSlots lk_12_302 sh_0 rfl rfl rfl (Nat.le_of_ble_eq_true rfl) (mC.mono (mm_contI (fun r5 G6 hK => ?_)) h)
    replace h := hK
    exact mV_iret (by decide +kernel) rfl h
set_option maxRecDepth 100000 in
set_option maxHeartbeats 4000000 in
theorem e_X12_heldSlots {l : Launch} {κ : mm_K} {d : Nat} {G : mm_G} {K : Int32 → mm_G → Prop}  (h : mV l κ true d 0 0 m_X12_heldSlots 4 [some (.ref 0), some (.int (nI 0)), some (.int (nI 0))] [] G (rI K)) : mC l κ true d 0 0 m_X12_heldSlots [.ref 0] G (rI K) := by
  refine mC.of (by decide) (Nat.le_of_ble_eq_true rfl) [some (.ref 0), none, none] rfl ?_
  refine mV_iconst (n := 0) (v := nI 0) (by decide +kernel) (by decide) ?_
  refine mV_istore_n (k := 1) (ls' := [some (.ref 0), some (.int (nI 0)), none]) (by decide +kernel) (Nat.le_of_ble_eq_true rfl) rfl rfl ?_
  refine mV_iconst (n := 0) (v := nI 0) (by decide +kernel) (by decide) ?_
  refine mV_istore_n (k := 2) (ls' := [some (.ref 0), some (.int (nI 0)), some (.int (nI 0))]) (by decide +kernel) (Nat.le_of_ble_eq_true rfl) rfl rfl ?_
  exact h
set_option maxRecDepth 100000 in
set_option maxHeartbeats 4000000 in
theorem p_X12_heldSlots_4 {l : Launch} {κ : mm_K} {d : Nat} {G : mm_G} {K : Int32 → mm_G → Prop} (v1 : Int32) (v2 : Int32) (h : (((nI 3) ≤ v2 → K v1 G) ∧ (¬ (nI 3) ≤ v2 → vp_in v2 3 ∧ (((mg_i G 225 v2.toNatClampNeg) = 0 → mV l κ true d 0 0 m_X12_heldSlots 4 [some (.ref 0), some (.int v1), some (.int (v2 + (nI 1)))] [] G (rI K)) ∧ (¬ (mg_i G 225 v2.toNatClampNeg) = 0 → mV l κ true d 0 0 m_X12_heldSlots 4 [some (.ref 0), some (.int (v1 + (nI 1))), some (.int (v2 + (nI 1)))] [] G (rI K)))))) : mV l κ true d 0 0 m_X12_heldSlots 4 [some (.ref 0), some (.int v1), some (.int v2)] [] G (rI K) := by
  refine mV_iload_n (k := 2) (by decide +kernel) rfl ?_
  refine mV_iconst (n := 3) (v := nI 3) (by decide +kernel) (by decide) ?_
  refine mV_icmp_ge (off := 21) (tgt := 27) (by decide +kernel) (by decide) (fun hc => ?_) (fun hc => ?_)
  · replace h := h.1 hc
    refine mV_iload_n (k := 1) (by decide +kernel) rfl ?_
    exact mV_iret (by decide +kernel) rfl h
  · replace h := h.2 hc
    refine mV_aload_n (k := 0) (by decide +kernel) rfl ?_
    refine mV_gfr (r := some 225) (by decide +kernel) fk_12_84 sh_0 (mm_rrs st_0_10) rfl ?_
    refine mV_iload_n (k := 2) (by decide +kernel) rfl ?_
    refine mV_zalx (x := mg_i G 225 v2.toNatClampNeg) (by decide +kernel) sh_225 h.1 rfl ?_
    replace h := h.2
    refine mV_if_eq (off := 6) (tgt := 21) (by decide +kernel) (by decide) (fun hc => ?_) (fun hc => ?_)
    · replace h := h.1 hc
      refine mV_iincc (i := 2) (n := 1) (c := nI 1) (ls' := [some (.ref 0), some (.int v1), some (.int (v2 + (nI 1)))]) (by decide +kernel) (by decide) rfl (Nat.le_of_ble_eq_true rfl) rfl rfl ?_
      refine mV_goto (off := -20) (tgt := 4) (by decide +kernel) (by decide) ?_
      exact h
    · replace h := h.2 hc
      refine mV_iincc (i := 1) (n := 1) (c := nI 1) (ls' := [some (.ref 0), some (.int (v1 + (nI 1))), some (.int v2)]) (by decide +kernel) (by decide) rfl (Nat.le_of_ble_eq_true rfl) rfl rfl ?_
      refine mV_iincc (i := 2) (n := 1) (c := nI 1) (ls' := [some (.ref 0), some (.int (v1 + (nI 1))), some (.int (v2 + (nI 1)))]) (by decide +kernel) (by decide) rfl (Nat.le_of_ble_eq_true rfl) rfl rfl ?_
      refine mV_goto (off := -20) (tgt := 4) (by decide +kernel) (by decide) ?_
      exact h
set_option maxRecDepth 100000 in
set_option maxHeartbeats 4000000 in
theorem e_X12_numbersOf {l : Launch} {κ : mm_K} {d : Nat} {G : mm_G} {K : Int32 → mm_G → Prop} (a1 : Int32) (h : ((a1 < (nI 10) → ((a1 < (nI 20) → K (-1) G) ∧ (¬ a1 < (nI 20) → mC l κ true d 0 0 m_X12_hasTrial [.ref 0, .int (a1 - (nI 20))] G (rI (fun r1 G2 => ((r1 = 0 → K (-1) G2) ∧ (¬ r1 = 0 → vp_in (a1 - (nI 20)) 8 ∧ (((mg_i G2 74 ((a1 - (nI 20)).toNatClampNeg)) = 0 → K (-2) G2) ∧ (¬ (mg_i G2 74 ((a1 - (nI 20)).toNatClampNeg)) = 0 → vp_in (a1 - (nI 20)) 8 ∧ K (mg_i G2 (75 + 2 * (a1 - (nI 20)).toNatClampNeg) 1) G2))))))))) ∧ (¬ a1 < (nI 10) → mC l κ true d 0 0 m_X12_hasTrial [.ref 0, .int (a1 - (nI 10))] G (rI (fun r4 G5 => ((r4 = 0 → ((a1 < (nI 20) → K (-1) G5) ∧ (¬ a1 < (nI 20) → mC l κ true d 0 0 m_X12_hasTrial [.ref 0, .int (a1 - (nI 20))] G5 (rI (fun r6 G7 => ((r6 = 0 → K (-1) G7) ∧ (¬ r6 = 0 → vp_in (a1 - (nI 20)) 8 ∧ (((mg_i G7 74 ((a1 - (nI 20)).toNatClampNeg)) = 0 → K (-2) G7) ∧ (¬ (mg_i G7 74 ((a1 - (nI 20)).toNatClampNeg)) = 0 → vp_in (a1 - (nI 20)) 8 ∧ K (mg_i G7 (75 + 2 * (a1 - (nI 20)).toNatClampNeg) 1) G7))))))))) ∧ (¬ r4 = 0 → vp_in (a1 - (nI 10)) 8 ∧ K (mg_i G5 72 ((a1 - (nI 10)).toNatClampNeg)) G5))))))) : mC l κ true (d + 1) 0 0 m_X12_numbersOf [.ref 0, .int a1] G (rI K) := by
  refine mC.of (by decide) (Nat.le_of_ble_eq_true rfl) [some (.ref 0), some (.int a1)] rfl ?_
  refine mV_iload_n (k := 1) (by decide +kernel) rfl ?_
  refine mV_bipush (n := 10) (v := nI 10) (by decide +kernel) (by decide) ?_
  refine mV_icmp_lt (off := 27) (tgt := 30) (by decide +kernel) (by decide) (fun hc => ?_) (fun hc => ?_)
  · replace h := h.1 hc
    refine mV_iload_n (k := 1) (by decide +kernel) rfl ?_
    refine mV_bipush (n := 20) (v := nI 20) (by decide +kernel) (by decide) ?_
    refine mV_icmp_lt (off := 50) (tgt := 83) (by decide +kernel) (by decide) (fun hc => ?_) (fun hc => ?_)
    · replace h := h.1 hc
      refine mV_iconst (n := -1) (v := (-1)) (by decide +kernel) (by decide) ?_
      exact mV_iret (by decide +kernel) rfl h
    · replace h := h.2 hc
      refine mV_aload_n (k := 0) (by decide +kernel) rfl ?_
      refine mV_iload_n (k := 1) (by decide +kernel) rfl ?_
      refine mV_bipush (n := 20) (v := nI 20) (by decide +kernel) (by decide) ?_
      refine mV_isub (by decide +kernel) ?_
      refine mV_cV (as := [.int (a1 - (nI 20))]) (rest := []) (mc1 := 0) (ms1 := 0) (mc := 0) (ms := 0) (by decide +kernel) md_X12_hasTrial lk_12_308 sh_0 rfl rfl rfl (Nat.le_of_ble_eq_true rfl) (mC.mono (mm_contI (fun r1 G2 hK => ?_)) h)
      replace h := hK
      refine mV_if_eq (off := 39) (tgt := 83) (by decide +kernel) (by decide) (fun hc => ?_) (fun hc => ?_)
      · replace h := h.1 hc
        refine mV_iconst (n := -1) (v := (-1)) (by decide +kernel) (by decide) ?_
        exact mV_iret (by decide +kernel) rfl h
      · replace h := h.2 hc
        refine mV_aload_n (k := 0) (by decide +kernel) rfl ?_
        refine mV_gfr (r := some 62) (by decide +kernel) fk_12_35 sh_0 (mm_rrs st_0_3) rfl ?_
        refine mV_gfr (r := some 74) (by decide +kernel) fk_12_314 sh_62 (mm_rrs st_62_3) rfl ?_
        refine mV_iload_n (k := 1) (by decide +kernel) rfl ?_
        refine mV_bipush (n := 20) (v := nI 20) (by decide +kernel) (by decide) ?_
        refine mV_isub (by decide +kernel) ?_
        refine mV_zalx (x := mg_i G2 74 ((a1 - (nI 20)).toNatClampNeg)) (by decide +kernel) sh_74 h.1 rfl ?_
        replace h := h.2
        refine mV_if_eq (off := 21) (tgt := 80) (by decide +kernel) (by decide) (fun hc => ?_) (fun hc => ?_)
        · replace h := h.1 hc
          refine mV_bipush (n := -2) (v := (-2)) (by decide +kernel) (by decide) ?_
          exact mV_iret (by decide +kernel) rfl h
        · replace h := h.2 hc
          refine mV_aload_n (k := 0) (by decide +kernel) rfl ?_
          refine mV_gfr (r := some 62) (by decide +kernel) fk_12_35 sh_0 (mm_rrs st_0_3) rfl ?_
          refine mV_gfr (r := some 73) (by decide +kernel) fk_12_317 sh_62 (mm_rrs st_62_2) rfl ?_
          refine mV_iload_n (k := 1) (by decide +kernel) rfl ?_
          refine mV_bipush (n := 20) (v := nI 20) (by decide +kernel) (by decide) ?_
          refine mV_isub (by decide +kernel) ?_
          have hj3 := h.1
          replace h := h.2
          refine mV_aal (t := 7) (r := some (75 + 2 * (a1 - (nI 20)).toNatClampNeg)) (by decide +kernel) sh_73 (by decide) hj3 (mm_rrs (mm_deed1 _ (mm_ixlt hj3)).2) rfl ?_
          refine mV_gfix (x := mg_i G2 (75 + 2 * (a1 - (nI 20)).toNatClampNeg) 1) (by decide +kernel) fk_12_171 (mm_deedP (mm_deed1 _ (mm_ixlt hj3)).1).1 rfl ?_
          refine mV_goto (off := 5) (tgt := 82) (by decide +kernel) (by decide) ?_
          exact mV_iret (by decide +kernel) rfl h
  · replace h := h.2 hc
    refine mV_aload_n (k := 0) (by decide +kernel) rfl ?_
    refine mV_iload_n (k := 1) (by decide +kernel) rfl ?_
    refine mV_bipush (n := 10) (v := nI 10) (by decide +kernel) (by decide) ?_
    refine mV_isub (by decide +kernel) ?_
    refine mV_cV (as := [.int (a1 - (nI 10))]) (rest := []) (mc1 := 0) (ms1 := 0) (mc := 0) (ms := 0) (by decide +kernel) md_X12_hasTrial lk_12_308 sh_0 rfl rfl rfl (Nat.le_of_ble_eq_true rfl) (mC.mono (mm_contI (fun r4 G5 hK => ?_)) h)
    replace h := hK
    refine mV_if_eq (off := 16) (tgt := 30) (by decide +kernel) (by decide) (fun hc => ?_) (fun hc => ?_)
    · replace h := h.1 hc
      refine mV_iload_n (k := 1) (by decide +kernel) rfl ?_
      refine mV_bipush (n := 20) (v := nI 20) (by decide +kernel) (by decide) ?_
      refine mV_icmp_lt (off := 50) (tgt := 83) (by decide +kernel) (by decide) (fun hc => ?_) (fun hc => ?_)
      · replace h := h.1 hc
        refine mV_iconst (n := -1) (v := (-1)) (by decide +kernel) (by decide) ?_
        exact mV_iret (by decide +kernel) rfl h
      · replace h := h.2 hc
        refine mV_aload_n (k := 0) (by decide +kernel) rfl ?_
        refine mV_iload_n (k := 1) (by decide +kernel) rfl ?_
        refine mV_bipush (n := 20) (v := nI 20) (by decide +kernel) (by decide) ?_
        refine mV_isub (by decide +kernel) ?_
        refine mV_cV (as := [.int (a1 - (nI 20))]) (rest := []) (mc1 := 0) (ms1 := 0) (mc := 0) (ms := 0) (by decide +kernel) md_X12_hasTrial lk_12_308 sh_0 rfl rfl rfl (Nat.le_of_ble_eq_true rfl) (mC.mono (mm_contI (fun r6 G7 hK => ?_)) h)
        replace h := hK
        refine mV_if_eq (off := 39) (tgt := 83) (by decide +kernel) (by decide) (fun hc => ?_) (fun hc => ?_)
        · replace h := h.1 hc
          refine mV_iconst (n := -1) (v := (-1)) (by decide +kernel) (by decide) ?_
          exact mV_iret (by decide +kernel) rfl h
        · replace h := h.2 hc
          refine mV_aload_n (k := 0) (by decide +kernel) rfl ?_
          refine mV_gfr (r := some 62) (by decide +kernel) fk_12_35 sh_0 (mm_rrs st_0_3) rfl ?_
          refine mV_gfr (r := some 74) (by decide +kernel) fk_12_314 sh_62 (mm_rrs st_62_3) rfl ?_
          refine mV_iload_n (k := 1) (by decide +kernel) rfl ?_
          refine mV_bipush (n := 20) (v := nI 20) (by decide +kernel) (by decide) ?_
          refine mV_isub (by decide +kernel) ?_
          refine mV_zalx (x := mg_i G7 74 ((a1 - (nI 20)).toNatClampNeg)) (by decide +kernel) sh_74 h.1 rfl ?_
          replace h := h.2
          refine mV_if_eq (off := 21) (tgt := 80) (by decide +kernel) (by decide) (fun hc => ?_) (fun hc => ?_)
          · replace h := h.1 hc
            refine mV_bipush (n := -2) (v := (-2)) (by decide +kernel) (by decide) ?_
            exact mV_iret (by decide +kernel) rfl h
          · replace h := h.2 hc
            refine mV_aload_n (k := 0) (by decide +kernel) rfl ?_
            refine mV_gfr (r := some 62) (by decide +kernel) fk_12_35 sh_0 (mm_rrs st_0_3) rfl ?_
            refine mV_gfr (r := some 73) (by decide +kernel) fk_12_317 sh_62 (mm_rrs st_62_2) rfl ?_
            refine mV_iload_n (k := 1) (by decide +kernel) rfl ?_
            refine mV_bipush (n := 20) (v := nI 20) (by decide +kernel) (by decide) ?_
            refine mV_isub (by decide +kernel) ?_
            have hj8 := h.1
            replace h := h.2
            refine mV_aal (t := 7) (r := some (75 + 2 * (a1 - (nI 20)).toNatClampNeg)) (by decide +kernel) sh_73 (by decide) hj8 (mm_rrs (mm_deed1 _ (mm_ixlt hj8)).2) rfl ?_
            refine mV_gfix (x := mg_i G7 (75 + 2 * (a1 - (nI 20)).toNatClampNeg) 1) (by decide +kernel) fk_12_171 (mm_deedP (mm_deed1 _ (mm_ixlt hj8)).1).1 rfl ?_
            refine mV_goto (off := 5) (tgt := 82) (by decide +kernel) (by decide) ?_
            exact mV_iret (by decide +kernel) rfl h
    · replace h := h.2 hc
      refine mV_aload_n (k := 0) (by decide +kernel) rfl ?_
      refine mV_gfr (r := some 62) (by decide +kernel) fk_12_35 sh_0 (mm_rrs st_0_3) rfl ?_
      refine mV_gfr (r := some 72) (by decide +kernel) fk_12_311 sh_62 (mm_rrs st_62_1) rfl ?_
      refine mV_iload_n (k := 1) (by decide +kernel) rfl ?_
      refine mV_bipush (n := 10) (v := nI 10) (by decide +kernel) (by decide) ?_
      refine mV_isub (by decide +kernel) ?_
      refine mV_ialx (x := mg_i G5 72 ((a1 - (nI 10)).toNatClampNeg)) (by decide +kernel) sh_72 h.1 rfl ?_
      replace h := h.2
      exact mV_iret (by decide +kernel) rfl h
set_option maxRecDepth 100000 in
set_option maxHeartbeats 4000000 in
theorem e_X12_rowsChanged {l : Launch} {κ : mm_K} {d : Nat} {G : mm_G} {K : mm_G → Prop}  (h : mC l κ true d 0 0 m_X2_clear [.ref 98] G (rV (fun G2 => mC l κ true d 0 0 m_X4_clear [.ref 168] G2 (rV (fun G4 => mC l κ true d 0 0 m_X8_clear [.ref 171] G4 (rV (fun G6 => mC l κ true d 0 0 m_X9_clear [.ref 175] G6 (rV (fun G8 => K G8))))))))) : mC l κ true (d + 1) 0 0 m_X12_rowsChanged [.ref 0] G (rV K) := by
  refine mC.of (by decide) (Nat.le_of_ble_eq_true rfl) [some (.ref 0)] rfl ?_
  refine mV_aload_n (k := 0) (by decide +kernel) rfl ?_
  refine mV_gfr (r := some 98) (by decide +kernel) fk_12_53 sh_0 (mm_rrs st_0_5) rfl ?_
  refine mV_cV (as := []) (rest := []) (mc1 := 0) (ms1 := 0) (mc := 0) (ms := 0) (by decide +kernel) md_X2_clear lk_12_321 sh_98 rfl rfl rfl (Nat.le_of_ble_eq_true rfl) (mC.mono (mm_contV (fun G2 hK => ?_)) h)
  replace h := hK
  refine mV_aload_n (k := 0) (by decide +kernel) rfl ?_
  refine mV_gfr (r := some 168) (by decide +kernel) fk_12_62 sh_0 (mm_rrs st_0_6) rfl ?_
  refine mV_cV (as := []) (rest := []) (mc1 := 0) (ms1 := 0) (mc := 0) (ms := 0) (by decide +kernel) md_X4_clear lk_12_324 sh_168 rfl rfl rfl (Nat.le_of_ble_eq_true rfl) (mC.mono (mm_contV (fun G4 hK => ?_)) h)
  replace h := hK
  refine mV_aload_n (k := 0) (by decide +kernel) rfl ?_
  refine mV_gfr (r := some 171) (by decide +kernel) fk_12_69 sh_0 (mm_rrs st_0_7) rfl ?_
  refine mV_cV (as := []) (rest := []) (mc1 := 0) (ms1 := 0) (mc := 0) (ms := 0) (by decide +kernel) md_X8_clear lk_12_325 sh_171 rfl rfl rfl (Nat.le_of_ble_eq_true rfl) (mC.mono (mm_contV (fun G6 hK => ?_)) h)
  replace h := hK
  refine mV_aload_n (k := 0) (by decide +kernel) rfl ?_
  refine mV_gfr (r := some 175) (by decide +kernel) fk_12_76 sh_0 (mm_rrs st_0_8) rfl ?_
  refine mV_cV (as := []) (rest := []) (mc1 := 0) (ms1 := 0) (mc := 0) (ms := 0) (by decide +kernel) md_X9_clear lk_12_326 sh_175 rfl rfl rfl (Nat.le_of_ble_eq_true rfl) (mC.mono (mm_contV (fun G8 hK => ?_)) h)
  replace h := hK
  exact mV_vret (by decide +kernel) rfl h
set_option maxRecDepth 100000 in
set_option maxHeartbeats 4000000 in
theorem e_X12_hasRow {l : Launch} {κ : mm_K} {d : Nat} {G : mm_G} {K : Int32 → mm_G → Prop} (a1 : Int32) (h : ((a1 < 0 → K (nI 0) G) ∧ (¬ a1 < 0 → (((mg_i G 50 1) ≤ a1 → K (nI 0) G) ∧ (¬ (mg_i G 50 1) ≤ a1 → K (nI 1) G))))) : mC l κ true d 0 0 m_X12_hasRow [.ref 0, .int a1] G (rI K) := by
  refine mC.of (by decide) (Nat.le_of_ble_eq_true rfl) [some (.ref 0), some (.int a1)] rfl ?_
  refine mV_iload_n (k := 1) (by decide +kernel) rfl ?_
  refine mV_if_lt (off := 18) (tgt := 19) (by decide +kernel) (by decide) (fun hc => ?_) (fun hc => ?_)
  · replace h := h.1 hc
    refine mV_iconst (n := 0) (v := nI 0) (by decide +kernel) (by decide) ?_
    exact mV_zret (by decide +kernel) rfl (by decide) h
  · replace h := h.2 hc
    refine mV_iload_n (k := 1) (by decide +kernel) rfl ?_
    refine mV_aload_n (k := 0) (by decide +kernel) rfl ?_
    refine mV_gfr (r := some 50) (by decide +kernel) fk_12_28 sh_0 (mm_rrs st_0_2) rfl ?_
    refine mV_gfix (x := mg_i G 50 1) (by decide +kernel) fk_12_293 sh_50 rfl ?_
    refine mV_icmp_ge (off := 7) (tgt := 19) (by decide +kernel) (by decide) (fun hc => ?_) (fun hc => ?_)
    · replace h := h.1 hc
      refine mV_iconst (n := 0) (v := nI 0) (by decide +kernel) (by decide) ?_
      exact mV_zret (by decide +kernel) rfl (by decide) h
    · replace h := h.2 hc
      refine mV_iconst (n := 1) (v := nI 1) (by decide +kernel) (by decide) ?_
      refine mV_goto (off := 4) (tgt := 20) (by decide +kernel) (by decide) ?_
      exact mV_zret (by decide +kernel) rfl (by decide) h
set_option maxRecDepth 100000 in
set_option maxHeartbeats 4000000 in
theorem e_X12_hasLine {l : Launch} {κ : mm_K} {d : Nat} {G : mm_G} {K : Int32 → mm_G → Prop} (a1 : Int32) (a2 : Int32) (h : mC l κ true d 0 0 m_X12_hasRow [.ref 0, .int a1] G (rI (fun r1 G2 => ((r1 = 0 → K (nI 0) G2) ∧ (¬ r1 = 0 → ((a2 < 0 → K (nI 0) G2) ∧ (¬ a2 < 0 → vp_in a1 4 ∧ (((mg_i G2 (54 + 2 * a1.toNatClampNeg) 1) ≤ a2 → K (nI 0) G2) ∧ (¬ (mg_i G2 (54 + 2 * a1.toNatClampNeg) 1) ≤ a2 → K (nI 1) G2))))))))) : mC l κ true (d + 1) 0 0 m_X12_hasLine [.ref 0, .int a1, .int a2] G (rI K) := by
  refine mC.of (by decide) (Nat.le_of_ble_eq_true rfl) [some (.ref 0), some (.int a1), some (.int a2)] rfl ?_
  refine mV_aload_n (k := 0) (by decide +kernel) rfl ?_
  refine mV_iload_n (k := 1) (by decide +kernel) rfl ?_
  refine mV_cV (as := [.int a1]) (rest := []) (mc1 := 0) (ms1 := 0) (mc := 0) (ms := 0) (by decide +kernel) md_X12_hasRow lk_12_118 sh_0 rfl rfl rfl (Nat.le_of_ble_eq_true rfl) (mC.mono (mm_contI (fun r1 G2 hK => ?_)) h)
  replace h := hK
  refine mV_if_eq (off := 27) (tgt := 32) (by decide +kernel) (by decide) (fun hc => ?_) (fun hc => ?_)
  · replace h := h.1 hc
    refine mV_iconst (n := 0) (v := nI 0) (by decide +kernel) (by decide) ?_
    exact mV_zret (by decide +kernel) rfl (by decide) h
  · replace h := h.2 hc
    refine mV_iload_n (k := 2) (by decide +kernel) rfl ?_
    refine mV_if_lt (off := 23) (tgt := 32) (by decide +kernel) (by decide) (fun hc => ?_) (fun hc => ?_)
    · replace h := h.1 hc
      refine mV_iconst (n := 0) (v := nI 0) (by decide +kernel) (by decide) ?_
      exact mV_zret (by decide +kernel) rfl (by decide) h
    · replace h := h.2 hc
      refine mV_iload_n (k := 2) (by decide +kernel) rfl ?_
      refine mV_aload_n (k := 0) (by decide +kernel) rfl ?_
      refine mV_gfr (r := some 50) (by decide +kernel) fk_12_28 sh_0 (mm_rrs st_0_2) rfl ?_
      refine mV_gfr (r := some 51) (by decide +kernel) fk_12_122 sh_50 (mm_rrs st_50_0) rfl ?_
      refine mV_iload_n (k := 1) (by decide +kernel) rfl ?_
      have hj3 := h.1
      replace h := h.2
      refine mV_aal (t := 5) (r := some (54 + 2 * a1.toNatClampNeg)) (by decide +kernel) sh_51 (by decide) hj3 (mm_rrs (mm_rs50.2.2.2.2.2.2.2.1 _ (mm_ixlt hj3))) rfl ?_
      refine mV_gfix (x := mg_i G2 (54 + 2 * a1.toNatClampNeg) 1) (by decide +kernel) fk_12_126 (mm_rs50.2.2.2.2.2.2.2.2 _ (mm_ixlt hj3)).1 rfl ?_
      refine mV_icmp_ge (off := 7) (tgt := 32) (by decide +kernel) (by decide) (fun hc => ?_) (fun hc => ?_)
      · replace h := h.1 hc
        refine mV_iconst (n := 0) (v := nI 0) (by decide +kernel) (by decide) ?_
        exact mV_zret (by decide +kernel) rfl (by decide) h
      · replace h := h.2 hc
        refine mV_iconst (n := 1) (v := nI 1) (by decide +kernel) (by decide) ?_
        refine mV_goto (off := 4) (tgt := 33) (by decide +kernel) (by decide) ?_
        exact mV_zret (by decide +kernel) rfl (by decide) h
set_option maxRecDepth 100000 in
set_option maxHeartbeats 4000000 in
theorem e_X12_hasLost {l : Launch} {κ : mm_K} {d : Nat} {G : mm_G} {K : Int32 → mm_G → Prop} (a1 : Int32) (a2 : Int32) (h : mC l κ true d 0 0 m_X12_hasRow [.ref 0, .int a1] G (rI (fun r1 G2 => ((r1 = 0 → K (nI 0) G2) ∧ (¬ r1 = 0 → ((a2 < 0 → K (nI 0) G2) ∧ (¬ a2 < 0 → vp_in a1 4 ∧ ((((nI 1) <<< ((mg_i G2 (54 + 2 * a1.toNatClampNeg) 1) &&& 31)) ≤ a2 → K (nI 0) G2) ∧ (¬ ((nI 1) <<< ((mg_i G2 (54 + 2 * a1.toNatClampNeg) 1) &&& 31)) ≤ a2 → K (nI 1) G2))))))))) : mC l κ true (d + 1) 0 0 m_X12_hasLost [.ref 0, .int a1, .int a2] G (rI K) := by
  refine mC.of (by decide) (Nat.le_of_ble_eq_true rfl) [some (.ref 0), some (.int a1), some (.int a2)] rfl ?_
  refine mV_aload_n (k := 0) (by decide +kernel) rfl ?_
  refine mV_iload_n (k := 1) (by decide +kernel) rfl ?_
  refine mV_cV (as := [.int a1]) (rest := []) (mc1 := 0) (ms1 := 0) (mc := 0) (ms := 0) (by decide +kernel) md_X12_hasRow lk_12_118 sh_0 rfl rfl rfl (Nat.le_of_ble_eq_true rfl) (mC.mono (mm_contI (fun r1 G2 hK => ?_)) h)
  replace h := hK
  refine mV_if_eq (off := 29) (tgt := 34) (by decide +kernel) (by decide) (fun hc => ?_) (fun hc => ?_)
  · replace h := h.1 hc
    refine mV_iconst (n := 0) (v := nI 0) (by decide +kernel) (by decide) ?_
    exact mV_zret (by decide +kernel) rfl (by decide) h
  · replace h := h.2 hc
    refine mV_iload_n (k := 2) (by decide +kernel) rfl ?_
    refine mV_if_lt (off := 25) (tgt := 34) (by decide +kernel) (by decide) (fun hc => ?_) (fun hc => ?_)
    · replace h := h.1 hc
      refine mV_iconst (n := 0) (v := nI 0) (by decide +kernel) (by decide) ?_
      exact mV_zret (by decide +kernel) rfl (by decide) h
    · replace h := h.2 hc
      refine mV_iload_n (k := 2) (by decide +kernel) rfl ?_
      refine mV_iconst (n := 1) (v := nI 1) (by decide +kernel) (by decide) ?_
      refine mV_aload_n (k := 0) (by decide +kernel) rfl ?_
      refine mV_gfr (r := some 50) (by decide +kernel) fk_12_28 sh_0 (mm_rrs st_0_2) rfl ?_
      refine mV_gfr (r := some 51) (by decide +kernel) fk_12_122 sh_50 (mm_rrs st_50_0) rfl ?_
      refine mV_iload_n (k := 1) (by decide +kernel) rfl ?_
      have hj3 := h.1
      replace h := h.2
      refine mV_aal (t := 5) (r := some (54 + 2 * a1.toNatClampNeg)) (by decide +kernel) sh_51 (by decide) hj3 (mm_rrs (mm_rs50.2.2.2.2.2.2.2.1 _ (mm_ixlt hj3))) rfl ?_
      refine mV_gfix (x := mg_i G2 (54 + 2 * a1.toNatClampNeg) 1) (by decide +kernel) fk_12_126 (mm_rs50.2.2.2.2.2.2.2.2 _ (mm_ixlt hj3)).1 rfl ?_
      refine mV_ishl (by decide +kernel) ?_
      refine mV_icmp_ge (off := 7) (tgt := 34) (by decide +kernel) (by decide) (fun hc => ?_) (fun hc => ?_)
      · replace h := h.1 hc
        refine mV_iconst (n := 0) (v := nI 0) (by decide +kernel) (by decide) ?_
        exact mV_zret (by decide +kernel) rfl (by decide) h
      · replace h := h.2 hc
        refine mV_iconst (n := 1) (v := nI 1) (by decide +kernel) (by decide) ?_
        refine mV_goto (off := 4) (tgt := 35) (by decide +kernel) (by decide) ?_
        exact mV_zret (by decide +kernel) rfl (by decide) h
set_option maxRecDepth 100000 in
set_option maxHeartbeats 4000000 in
theorem e_X12_hasTrial {l : Launch} {κ : mm_K} {d : Nat} {G : mm_G} {K : Int32 → mm_G → Prop} (a1 : Int32) (h : ((a1 < 0 → K (nI 0) G) ∧ (¬ a1 < 0 → (((mg_i G 62 4) ≤ a1 → K (nI 0) G) ∧ (¬ (mg_i G 62 4) ≤ a1 → K (nI 1) G))))) : mC l κ true d 0 0 m_X12_hasTrial [.ref 0, .int a1] G (rI K) := by
  refine mC.of (by decide) (Nat.le_of_ble_eq_true rfl) [some (.ref 0), some (.int a1)] rfl ?_
  refine mV_iload_n (k := 1) (by decide +kernel) rfl ?_
  refine mV_if_lt (off := 18) (tgt := 19) (by decide +kernel) (by decide) (fun hc => ?_) (fun hc => ?_)
  · replace h := h.1 hc
    refine mV_iconst (n := 0) (v := nI 0) (by decide +kernel) (by decide) ?_
    exact mV_zret (by decide +kernel) rfl (by decide) h
  · replace h := h.2 hc
    refine mV_iload_n (k := 1) (by decide +kernel) rfl ?_
    refine mV_aload_n (k := 0) (by decide +kernel) rfl ?_
    refine mV_gfr (r := some 62) (by decide +kernel) fk_12_35 sh_0 (mm_rrs st_0_3) rfl ?_
    refine mV_gfix (x := mg_i G 62 4) (by decide +kernel) fk_12_294 sh_62 rfl ?_
    refine mV_icmp_ge (off := 7) (tgt := 19) (by decide +kernel) (by decide) (fun hc => ?_) (fun hc => ?_)
    · replace h := h.1 hc
      refine mV_iconst (n := 0) (v := nI 0) (by decide +kernel) (by decide) ?_
      exact mV_zret (by decide +kernel) rfl (by decide) h
    · replace h := h.2 hc
      refine mV_iconst (n := 1) (v := nI 1) (by decide +kernel) (by decide) ?_
      refine mV_goto (off := 4) (tgt := 20) (by decide +kernel) (by decide) ?_
      exact mV_zret (by decide +kernel) rfl (by decide) h
set_option maxRecDepth 100000 in
set_option maxHeartbeats 4000000 in
theorem e_X12_hasRun {l : Launch} {κ : mm_K} {d : Nat} {G : mm_G} {K : Int32 → mm_G → Prop} (a1 : Int32) (a2 : Int32) (a3 : Int32) (h : mC l κ true (d + 1) 0 0 m_X12_hasLost [.ref 0, .int a1, .int a2] G (rI (fun r1 G2 => ((r1 = 0 → K (nI 0) G2) ∧ (¬ r1 = 0 → mC l κ true (d + 1) 0 0 m_X12_hasTrial [.ref 0, .int a3] G2 (rI (fun r3 G4 => ((r3 = 0 → K (nI 0) G4) ∧ (¬ r3 = 0 → K (nI 1) G4))))))))) : mC l κ true (d + 2) 0 0 m_X12_hasRun [.ref 0, .int a1, .int a2, .int a3] G (rI K) := by
  refine mC.of (by decide) (Nat.le_of_ble_eq_true rfl) [some (.ref 0), some (.int a1), some (.int a2), some (.int a3)] rfl ?_
  refine mV_aload_n (k := 0) (by decide +kernel) rfl ?_
  refine mV_iload_n (k := 1) (by decide +kernel) rfl ?_
  refine mV_iload_n (k := 2) (by decide +kernel) rfl ?_
  refine mV_cV (as := [.int a1, .int a2]) (rest := []) (mc1 := 0) (ms1 := 0) (mc := 0) (ms := 0) (by decide +kernel) md_X12_hasLost lk_12_183 sh_0 rfl rfl rfl (Nat.le_of_ble_eq_true rfl) (mC.mono (mm_contI (fun r1 G2 hK => ?_)) h)
  replace h := hK
  refine mV_if_eq (off := 15) (tgt := 21) (by decide +kernel) (by decide) (fun hc => ?_) (fun hc => ?_)
  · replace h := h.1 hc
    refine mV_iconst (n := 0) (v := nI 0) (by decide +kernel) (by decide) ?_
    exact mV_zret (by decide +kernel) rfl (by decide) h
  · replace h := h.2 hc
    refine mV_aload_n (k := 0) (by decide +kernel) rfl ?_
    refine mV_iload_n (k := 3) (by decide +kernel) rfl ?_
    refine mV_cV (as := [.int a3]) (rest := []) (mc1 := 0) (ms1 := 0) (mc := 0) (ms := 0) (by decide +kernel) md_X12_hasTrial lk_12_308 sh_0 rfl rfl rfl (Nat.le_of_ble_eq_true rfl) (mC.mono (mm_contI (fun r3 G4 hK => ?_)) h)
    replace h := hK
    refine mV_if_eq (off := 7) (tgt := 21) (by decide +kernel) (by decide) (fun hc => ?_) (fun hc => ?_)
    · replace h := h.1 hc
      refine mV_iconst (n := 0) (v := nI 0) (by decide +kernel) (by decide) ?_
      exact mV_zret (by decide +kernel) rfl (by decide) h
    · replace h := h.2 hc
      refine mV_iconst (n := 1) (v := nI 1) (by decide +kernel) (by decide) ?_
      refine mV_goto (off := 4) (tgt := 22) (by decide +kernel) (by decide) ?_
      exact mV_zret (by decide +kernel) rfl (by decide) h
set_option maxRecDepth 100000 in
set_option maxHeartbeats 4000000 in
theorem e_X12_isSmall {l : Launch} {κ : mm_K} {d : Nat} {G : mm_G} {K : Int32 → mm_G → Prop} (a1 : Int32) (h : vp_in a1 4 ∧ (((nI 12) < (mg_i G (54 + 2 * a1.toNatClampNeg) 1) → K (nI 0) G) ∧ (¬ (nI 12) < (mg_i G (54 + 2 * a1.toNatClampNeg) 1) → K (nI 1) G))) : mC l κ true d 0 0 m_X12_isSmall [.ref 0, .int a1] G (rI K) := by
  refine mC.of (by decide) (Nat.le_of_ble_eq_true rfl) [some (.ref 0), some (.int a1)] rfl ?_
  refine mV_aload_n (k := 0) (by decide +kernel) rfl ?_
  refine mV_gfr (r := some 50) (by decide +kernel) fk_12_28 sh_0 (mm_rrs st_0_2) rfl ?_
  refine mV_gfr (r := some 51) (by decide +kernel) fk_12_122 sh_50 (mm_rrs st_50_0) rfl ?_
  refine mV_iload_n (k := 1) (by decide +kernel) rfl ?_
  have hj1 := h.1
  replace h := h.2
  refine mV_aal (t := 5) (r := some (54 + 2 * a1.toNatClampNeg)) (by decide +kernel) sh_51 (by decide) hj1 (mm_rrs (mm_rs50.2.2.2.2.2.2.2.1 _ (mm_ixlt hj1))) rfl ?_
  refine mV_gfix (x := mg_i G (54 + 2 * a1.toNatClampNeg) 1) (by decide +kernel) fk_12_126 (mm_rs50.2.2.2.2.2.2.2.2 _ (mm_ixlt hj1)).1 rfl ?_
  refine mV_bipush (n := 12) (v := nI 12) (by decide +kernel) (by decide) ?_
  refine mV_icmp_gt (off := 7) (tgt := 21) (by decide +kernel) (by decide) (fun hc => ?_) (fun hc => ?_)
  · replace h := h.1 hc
    refine mV_iconst (n := 0) (v := nI 0) (by decide +kernel) (by decide) ?_
    exact mV_zret (by decide +kernel) rfl (by decide) h
  · replace h := h.2 hc
    refine mV_iconst (n := 1) (v := nI 1) (by decide +kernel) (by decide) ?_
    refine mV_goto (off := 4) (tgt := 22) (by decide +kernel) (by decide) ?_
    exact mV_zret (by decide +kernel) rfl (by decide) h
set_option maxRecDepth 100000 in
set_option maxHeartbeats 4000000 in
theorem e_X12_canSeek {l : Launch} {κ : mm_K} {d : Nat} {G : mm_G} {K : Int32 → mm_G → Prop} (a1 : Int32) (a2 : Int32) (a3 : Int32) (h : mC l κ true d 0 0 m_X12_hasRow [.ref 0, .int a1] G (rI (fun r1 G2 => ((r1 = 0 → K (nI 0) G2) ∧ (¬ r1 = 0 → ((a2 < 0 → K (nI 0) G2) ∧ (¬ a2 < 0 → (((nI 5) < a2 → K (nI 0) G2) ∧ (¬ (nI 5) < a2 → ((a3 < 0 → K (nI 0) G2) ∧ (¬ a3 < 0 → (((nI 1) < a3 → K (nI 0) G2) ∧ (¬ (nI 1) < a3 → K (nI 1) G2))))))))))))) : mC l κ true (d + 1) 0 0 m_X12_canSeek [.ref 0, .int a1, .int a2, .int a3] G (rI K) := by
  refine mC.of (by decide) (Nat.le_of_ble_eq_true rfl) [some (.ref 0), some (.int a1), some (.int a2), some (.int a3)] rfl ?_
  refine mV_aload_n (k := 0) (by decide +kernel) rfl ?_
  refine mV_iload_n (k := 1) (by decide +kernel) rfl ?_
  refine mV_cV (as := [.int a1]) (rest := []) (mc1 := 0) (ms1 := 0) (mc := 0) (ms := 0) (by decide +kernel) md_X12_hasRow lk_12_118 sh_0 rfl rfl rfl (Nat.le_of_ble_eq_true rfl) (mC.mono (mm_contI (fun r1 G2 hK => ?_)) h)
  replace h := hK
  refine mV_if_eq (off := 25) (tgt := 30) (by decide +kernel) (by decide) (fun hc => ?_) (fun hc => ?_)
  · replace h := h.1 hc
    refine mV_iconst (n := 0) (v := nI 0) (by decide +kernel) (by decide) ?_
    exact mV_zret (by decide +kernel) rfl (by decide) h
  · replace h := h.2 hc
    refine mV_iload_n (k := 2) (by decide +kernel) rfl ?_
    refine mV_if_lt (off := 21) (tgt := 30) (by decide +kernel) (by decide) (fun hc => ?_) (fun hc => ?_)
    · replace h := h.1 hc
      refine mV_iconst (n := 0) (v := nI 0) (by decide +kernel) (by decide) ?_
      exact mV_zret (by decide +kernel) rfl (by decide) h
    · replace h := h.2 hc
      refine mV_iload_n (k := 2) (by decide +kernel) rfl ?_
      refine mV_iconst (n := 5) (v := nI 5) (by decide +kernel) (by decide) ?_
      refine mV_icmp_gt (off := 16) (tgt := 30) (by decide +kernel) (by decide) (fun hc => ?_) (fun hc => ?_)
      · replace h := h.1 hc
        refine mV_iconst (n := 0) (v := nI 0) (by decide +kernel) (by decide) ?_
        exact mV_zret (by decide +kernel) rfl (by decide) h
      · replace h := h.2 hc
        refine mV_iload_n (k := 3) (by decide +kernel) rfl ?_
        refine mV_if_lt (off := 12) (tgt := 30) (by decide +kernel) (by decide) (fun hc => ?_) (fun hc => ?_)
        · replace h := h.1 hc
          refine mV_iconst (n := 0) (v := nI 0) (by decide +kernel) (by decide) ?_
          exact mV_zret (by decide +kernel) rfl (by decide) h
        · replace h := h.2 hc
          refine mV_iload_n (k := 3) (by decide +kernel) rfl ?_
          refine mV_iconst (n := 1) (v := nI 1) (by decide +kernel) (by decide) ?_
          refine mV_icmp_gt (off := 7) (tgt := 30) (by decide +kernel) (by decide) (fun hc => ?_) (fun hc => ?_)
          · replace h := h.1 hc
            refine mV_iconst (n := 0) (v := nI 0) (by decide +kernel) (by decide) ?_
            exact mV_zret (by decide +kernel) rfl (by decide) h
          · replace h := h.2 hc
            refine mV_iconst (n := 1) (v := nI 1) (by decide +kernel) (by decide) ?_
            refine mV_goto (off := 4) (tgt := 31) (by decide +kernel) (by decide) ?_
            exact mV_zret (by decide +kernel) rfl (by decide) h
set_option maxRecDepth 100000 in
set_option maxHeartbeats 4000000 in
theorem e_X12_canSuspect {l : Launch} {κ : mm_K} {d : Nat} {G : mm_G} {K : Int32 → mm_G → Prop} (a1 : Int32) (a2 : Int32) (a3 : Int32) (h : mC l κ true d 0 0 m_X12_hasRow [.ref 0, .int a1] G (rI (fun r1 G2 => ((r1 = 0 → K (nI 0) G2) ∧ (¬ r1 = 0 → ((a2 < 0 → K (nI 0) G2) ∧ (¬ a2 < 0 → (((nI 2) < a2 → K (nI 0) G2) ∧ (¬ (nI 2) < a2 → ((a3 < 0 → K (nI 0) G2) ∧ (¬ a3 < 0 → ((a3 ≤ (mg_i G2 50 4) → ((a3 = 0 → K (nI 1) G2) ∧ (¬ a3 = 0 → ((¬ (mg_i G2 50 5) = a1 → K (nI 0) G2) ∧ ((mg_i G2 50 5) = a1 → K (nI 1) G2))))) ∧ (¬ a3 ≤ (mg_i G2 50 4) → K (nI 0) G2))))))))))))) : mC l κ true (d + 1) 0 0 m_X12_canSuspect [.ref 0, .int a1, .int a2, .int a3] G (rI K) := by
  refine mC.of (by decide) (Nat.le_of_ble_eq_true rfl) [some (.ref 0), some (.int a1), some (.int a2), some (.int a3)] rfl ?_
  refine mV_aload_n (k := 0) (by decide +kernel) rfl ?_
  refine mV_iload_n (k := 1) (by decide +kernel) rfl ?_
  refine mV_cV (as := [.int a1]) (rest := []) (mc1 := 0) (ms1 := 0) (mc := 0) (ms := 0) (by decide +kernel) md_X12_hasRow lk_12_118 sh_0 rfl rfl rfl (Nat.le_of_ble_eq_true rfl) (mC.mono (mm_contI (fun r1 G2 hK => ?_)) h)
  replace h := hK
  refine mV_if_eq (off := 27) (tgt := 32) (by decide +kernel) (by decide) (fun hc => ?_) (fun hc => ?_)
  · replace h := h.1 hc
    refine mV_iconst (n := 0) (v := nI 0) (by decide +kernel) (by decide) ?_
    exact mV_zret (by decide +kernel) rfl (by decide) h
  · replace h := h.2 hc
    refine mV_iload_n (k := 2) (by decide +kernel) rfl ?_
    refine mV_if_lt (off := 23) (tgt := 32) (by decide +kernel) (by decide) (fun hc => ?_) (fun hc => ?_)
    · replace h := h.1 hc
      refine mV_iconst (n := 0) (v := nI 0) (by decide +kernel) (by decide) ?_
      exact mV_zret (by decide +kernel) rfl (by decide) h
    · replace h := h.2 hc
      refine mV_iload_n (k := 2) (by decide +kernel) rfl ?_
      refine mV_iconst (n := 2) (v := nI 2) (by decide +kernel) (by decide) ?_
      refine mV_icmp_gt (off := 18) (tgt := 32) (by decide +kernel) (by decide) (fun hc => ?_) (fun hc => ?_)
      · replace h := h.1 hc
        refine mV_iconst (n := 0) (v := nI 0) (by decide +kernel) (by decide) ?_
        exact mV_zret (by decide +kernel) rfl (by decide) h
      · replace h := h.2 hc
        refine mV_iload_n (k := 3) (by decide +kernel) rfl ?_
        refine mV_if_lt (off := 14) (tgt := 32) (by decide +kernel) (by decide) (fun hc => ?_) (fun hc => ?_)
        · replace h := h.1 hc
          refine mV_iconst (n := 0) (v := nI 0) (by decide +kernel) (by decide) ?_
          exact mV_zret (by decide +kernel) rfl (by decide) h
        · replace h := h.2 hc
          refine mV_iload_n (k := 3) (by decide +kernel) rfl ?_
          refine mV_aload_n (k := 0) (by decide +kernel) rfl ?_
          refine mV_gfr (r := some 50) (by decide +kernel) fk_12_28 sh_0 (mm_rrs st_0_2) rfl ?_
          refine mV_gfix (x := mg_i G2 50 4) (by decide +kernel) fk_12_260 sh_50 rfl ?_
          refine mV_icmp_le (off := 5) (tgt := 34) (by decide +kernel) (by decide) (fun hc => ?_) (fun hc => ?_)
          · replace h := h.1 hc
            refine mV_iload_n (k := 3) (by decide +kernel) rfl ?_
            refine mV_if_eq (off := 14) (tgt := 49) (by decide +kernel) (by decide) (fun hc => ?_) (fun hc => ?_)
            · replace h := h.1 hc
              refine mV_iconst (n := 1) (v := nI 1) (by decide +kernel) (by decide) ?_
              refine mV_goto (off := 4) (tgt := 54) (by decide +kernel) (by decide) ?_
              exact mV_zret (by decide +kernel) rfl (by decide) h
            · replace h := h.2 hc
              refine mV_aload_n (k := 0) (by decide +kernel) rfl ?_
              refine mV_gfr (r := some 50) (by decide +kernel) fk_12_28 sh_0 (mm_rrs st_0_2) rfl ?_
              refine mV_gfix (x := mg_i G2 50 5) (by decide +kernel) fk_12_266 sh_50 rfl ?_
              refine mV_iload_n (k := 1) (by decide +kernel) rfl ?_
              refine mV_icmp_ne (off := 7) (tgt := 53) (by decide +kernel) (by decide) (fun hc => ?_) (fun hc => ?_)
              · replace h := h.1 hc
                refine mV_iconst (n := 0) (v := nI 0) (by decide +kernel) (by decide) ?_
                exact mV_zret (by decide +kernel) rfl (by decide) h
              · replace h := h.2 hc
                refine mV_iconst (n := 1) (v := nI 1) (by decide +kernel) (by decide) ?_
                refine mV_goto (off := 4) (tgt := 54) (by decide +kernel) (by decide) ?_
                exact mV_zret (by decide +kernel) rfl (by decide) h
          · replace h := h.2 hc
            refine mV_iconst (n := 0) (v := nI 0) (by decide +kernel) (by decide) ?_
            exact mV_zret (by decide +kernel) rfl (by decide) h
set_option maxRecDepth 100000 in
set_option maxHeartbeats 4000000 in
theorem e_X12_setBehind {l : Launch} {κ : mm_K} {d : Nat} {G : mm_G} {K : Int32 → mm_G → Prop} (a1 : Int32) (h : ((¬ (a1 &&& (-a1)) = 0 → (¬ (a1 &&& (-a1)) = 0) ∧ K ((a1 + (a1 &&& (-a1))) ||| ((((a1 ^^^ (a1 + (a1 &&& (-a1)))).toUInt32 >>> ((nI 2).toUInt32 &&& Int32.toUInt32 31)).toInt32) / (a1 &&& (-a1)))) G) ∧ ((a1 &&& (-a1)) = 0 → K (nI 65536) G))) : mC l κ true d 0 0 m_X12_setBehind [.int a1] G (rI K) := by
  refine mC.of (by decide) (Nat.le_of_ble_eq_true rfl) [some (.int a1), none, none] rfl ?_
  refine mV_iload_n (k := 0) (by decide +kernel) rfl ?_
  refine mV_iload_n (k := 0) (by decide +kernel) rfl ?_
  refine mV_ineg (by decide +kernel) ?_
  refine mV_iand (by decide +kernel) ?_
  refine mV_istore_n (k := 1) (ls' := [some (.int a1), some (.int (a1 &&& (-a1))), none]) (by decide +kernel) (Nat.le_of_ble_eq_true rfl) rfl rfl ?_
  refine mV_iload_n (k := 1) (by decide +kernel) rfl ?_
  refine mV_if_ne (off := 7) (tgt := 13) (by decide +kernel) (by decide) (fun hc => ?_) (fun hc => ?_)
  · replace h := h.1 hc
    refine mV_iload_n (k := 0) (by decide +kernel) rfl ?_
    refine mV_iload_n (k := 1) (by decide +kernel) rfl ?_
    refine mV_iadd (by decide +kernel) ?_
    refine mV_istore_n (k := 2) (ls' := [some (.int a1), some (.int (a1 &&& (-a1))), some (.int (a1 + (a1 &&& (-a1))))]) (by decide +kernel) (Nat.le_of_ble_eq_true rfl) rfl rfl ?_
    refine mV_iload_n (k := 2) (by decide +kernel) rfl ?_
    refine mV_iload_n (k := 0) (by decide +kernel) rfl ?_
    refine mV_iload_n (k := 2) (by decide +kernel) rfl ?_
    refine mV_ixor (by decide +kernel) ?_
    refine mV_iconst (n := 2) (v := nI 2) (by decide +kernel) (by decide) ?_
    refine mV_iushr (by decide +kernel) ?_
    refine mV_iload_n (k := 1) (by decide +kernel) rfl ?_
    refine mV_idiv (by decide +kernel) h.1 ?_
    replace h := h.2
    refine mV_ior (by decide +kernel) ?_
    exact mV_iret (by decide +kernel) rfl h
  · replace h := h.2 hc
    refine mV_ldcw (idx := 327) (v := nI 65536) (by decide +kernel) (mm_t4 217 (by decide +kernel)) ?_
    exact mV_iret (by decide +kernel) rfl h
set_option maxRecDepth 100000 in
set_option maxHeartbeats 4000000 in
theorem e_X12_lot {l : Launch} {κ : mm_K} {d : Nat} {G : mm_G} {K : Int32 → mm_G → Prop} (a1 : Int32) (a2 : Int32) (a3 : Int32) (h : mC l κ true d 0 0 m_X12_mixed [.int a2, .int (nI 22)] G (rI (fun r1 G2 => mC l κ true d 0 0 m_X12_mixed [.int r1, .int a3] G2 (rI (fun r3 G4 => ((a1 ≤ 0 → K (nI 0) G4) ∧ (¬ a1 ≤ 0 → (¬ a1 = 0) ∧ K (((r3.toUInt32 >>> ((nI 1).toUInt32 &&& Int32.toUInt32 31)).toInt32) - ((r3.toUInt32 >>> ((nI 1).toUInt32 &&& Int32.toUInt32 31)).toInt32) / a1 * a1) G4))))))) : mC l κ true (d + 1) 0 0 m_X12_lot [.int a1, .int a2, .int a3] G (rI K) := by
  refine mC.of (by decide) (Nat.le_of_ble_eq_true rfl) [some (.int a1), some (.int a2), some (.int a3), none] rfl ?_
  refine mV_iload_n (k := 1) (by decide +kernel) rfl ?_
  refine mV_bipush (n := 22) (v := nI 22) (by decide +kernel) (by decide) ?_
  refine mV_cS (as := [.int a2, .int (nI 22)]) (rest := []) (mc1 := 0) (ms1 := 0) (mc := 0) (ms := 0) (by decide +kernel) md_X12_mixed lk_12_328 rfl rfl (Nat.le_of_ble_eq_true rfl) (mC.mono (mm_contI (fun r1 G2 hK => ?_)) h)
  replace h := hK
  refine mV_iload_n (k := 2) (by decide +kernel) rfl ?_
  refine mV_cS (as := [.int r1, .int a3]) (rest := []) (mc1 := 0) (ms1 := 0) (mc := 0) (ms := 0) (by decide +kernel) md_X12_mixed lk_12_328 rfl rfl (Nat.le_of_ble_eq_true rfl) (mC.mono (mm_contI (fun r3 G4 hK => ?_)) h)
  replace h := hK
  refine mV_istore_n (k := 3) (ls' := [some (.int a1), some (.int a2), some (.int a3), some (.int r3)]) (by decide +kernel) (Nat.le_of_ble_eq_true rfl) rfl rfl ?_
  refine mV_iload_n (k := 0) (by decide +kernel) rfl ?_
  refine mV_if_le (off := 11) (tgt := 23) (by decide +kernel) (by decide) (fun hc => ?_) (fun hc => ?_)
  · replace h := h.1 hc
    refine mV_iconst (n := 0) (v := nI 0) (by decide +kernel) (by decide) ?_
    exact mV_iret (by decide +kernel) rfl h
  · replace h := h.2 hc
    refine mV_iload_n (k := 3) (by decide +kernel) rfl ?_
    refine mV_iconst (n := 1) (v := nI 1) (by decide +kernel) (by decide) ?_
    refine mV_iushr (by decide +kernel) ?_
    refine mV_iload_n (k := 0) (by decide +kernel) rfl ?_
    refine mV_irem (by decide +kernel) h.1 ?_
    replace h := h.2
    refine mV_goto (off := 4) (tgt := 24) (by decide +kernel) (by decide) ?_
    exact mV_iret (by decide +kernel) rfl h
set_option maxRecDepth 100000 in
set_option maxHeartbeats 4000000 in
theorem e_X12_mixed {l : Launch} {κ : mm_K} {d : Nat} {G : mm_G} {K : Int32 → mm_G → Prop} (a1 : Int32) (a2 : Int32) (h : K ((((a1 ^^^ a2) * (nI 1103515245)) + (nI 12345)) ^^^ (((((a1 ^^^ a2) * (nI 1103515245)) + (nI 12345)).toUInt32 >>> ((nI 15).toUInt32 &&& Int32.toUInt32 31)).toInt32)) G) : mC l κ true d 0 0 m_X12_mixed [.int a1, .int a2] G (rI K) := by
  refine mC.of (by decide) (Nat.le_of_ble_eq_true rfl) [some (.int a1), some (.int a2), none] rfl ?_
  refine mV_iload_n (k := 0) (by decide +kernel) rfl ?_
  refine mV_iload_n (k := 1) (by decide +kernel) rfl ?_
  refine mV_ixor (by decide +kernel) ?_
  refine mV_ldcw (idx := 331) (v := nI 1103515245) (by decide +kernel) (mm_t5 72 (by decide +kernel)) ?_
  refine mV_imul (by decide +kernel) ?_
  refine mV_sipush (n := 12345) (v := nI 12345) (by decide +kernel) (by decide) ?_
  refine mV_iadd (by decide +kernel) ?_
  refine mV_istore_n (k := 2) (ls' := [some (.int a1), some (.int a2), some (.int (((a1 ^^^ a2) * (nI 1103515245)) + (nI 12345)))]) (by decide +kernel) (Nat.le_of_ble_eq_true rfl) rfl rfl ?_
  refine mV_iload_n (k := 2) (by decide +kernel) rfl ?_
  refine mV_iload_n (k := 2) (by decide +kernel) rfl ?_
  refine mV_bipush (n := 15) (v := nI 15) (by decide +kernel) (by decide) ?_
  refine mV_iushr (by decide +kernel) ?_
  refine mV_ixor (by decide +kernel) ?_
  exact mV_iret (by decide +kernel) rfl h
set_option maxRecDepth 100000 in
set_option maxHeartbeats 4000000 in
theorem e_X0_begin {l : Launch} {κ : mm_K} {d : Nat} {G : mm_G} {K : mm_G → Prop} (x : Nat) (hx : DeedAt x) (h : K (ms_i (ms_i (ms_i G x 1 (nI 0)) x 2 (nI 0)) x 3 (nI 0))) : mC l κ true d 0 0 m_X0_begin [.ref x] G (rV K) := by
  refine mC.of (by decide) (Nat.le_of_ble_eq_true rfl) [some (.ref x)] rfl ?_
  refine mV_aload_n (k := 0) (by decide +kernel) rfl ?_
  refine mV_iconst (n := 0) (v := nI 0) (by decide +kernel) (by decide) ?_
  refine mV_pfi (by decide +kernel) fk_0_15 hx.1 ?_
  refine mV_aload_n (k := 0) (by decide +kernel) rfl ?_
  refine mV_iconst (n := 0) (v := nI 0) (by decide +kernel) (by decide) ?_
  refine mV_pfi (by decide +kernel) fk_0_19 hx.1 ?_
  refine mV_aload_n (k := 0) (by decide +kernel) rfl ?_
  refine mV_iconst (n := 0) (v := nI 0) (by decide +kernel) (by decide) ?_
  refine mV_pfi (by decide +kernel) fk_0_22 hx.1 ?_
  exact mV_vret (by decide +kernel) rfl h
set_option maxRecDepth 100000 in
set_option maxHeartbeats 4000000 in
theorem e_X0_copy {l : Launch} {κ : mm_K} {d : Nat} {G : mm_G} {K : mm_G → Prop} (x : Nat) (hx : DeedAt x) (a1 : Nat) (ha1 : DeedAt a1) (h : mV l κ true d 0 0 m_X0_copy 26 [some (.ref x), some (.ref a1), some (.int (nI 0))] [] (ms_i (ms_i (ms_i G x 1 (mg_i G a1 1)) x 2 (mg_i (ms_i G x 1 (mg_i G a1 1)) a1 2)) x 3 (mg_i (ms_i (ms_i G x 1 (mg_i G a1 1)) x 2 (mg_i (ms_i G x 1 (mg_i G a1 1)) a1 2)) a1 3)) (rV K)) : mC l κ true d 0 0 m_X0_copy [.ref x, .ref a1] G (rV K) := by
  refine mC.of (by decide) (Nat.le_of_ble_eq_true rfl) [some (.ref x), some (.ref a1), none] rfl ?_
  refine mV_aload_n (k := 0) (by decide +kernel) rfl ?_
  refine mV_aload_n (k := 1) (by decide +kernel) rfl ?_
  refine mV_gfix (x := mg_i G a1 1) (by decide +kernel) fk_0_15 ha1.1 rfl ?_
  refine mV_pfi (by decide +kernel) fk_0_15 hx.1 ?_
  refine mV_aload_n (k := 0) (by decide +kernel) rfl ?_
  refine mV_aload_n (k := 1) (by decide +kernel) rfl ?_
  refine mV_gfix (x := mg_i (ms_i G x 1 (mg_i G a1 1)) a1 2) (by decide +kernel) fk_0_19 ha1.1 rfl ?_
  refine mV_pfi (by decide +kernel) fk_0_19 hx.1 ?_
  refine mV_aload_n (k := 0) (by decide +kernel) rfl ?_
  refine mV_aload_n (k := 1) (by decide +kernel) rfl ?_
  refine mV_gfix (x := mg_i (ms_i (ms_i G x 1 (mg_i G a1 1)) x 2 (mg_i (ms_i G x 1 (mg_i G a1 1)) a1 2)) a1 3) (by decide +kernel) fk_0_22 ha1.1 rfl ?_
  refine mV_pfi (by decide +kernel) fk_0_22 hx.1 ?_
  refine mV_iconst (n := 0) (v := nI 0) (by decide +kernel) (by decide) ?_
  refine mV_istore_n (k := 2) (ls' := [some (.ref x), some (.ref a1), some (.int (nI 0))]) (by decide +kernel) (Nat.le_of_ble_eq_true rfl) rfl rfl ?_
  exact h
set_option maxRecDepth 100000 in
set_option maxHeartbeats 4000000 in
theorem p_X0_copy_26 {l : Launch} {κ : mm_K} {d : Nat} {G : mm_G} {K : mm_G → Prop} (x : Nat) (hx : DeedAt x) (a1 : Nat) (ha1 : DeedAt a1) (v2 : Int32) (h : (((mg_i G x 1) ≤ v2 → K G) ∧ (¬ (mg_i G x 1) ≤ v2 → vp_in v2 8 ∧ vp_in v2 8 ∧ mV l κ true d 0 0 m_X0_copy 26 [some (.ref x), some (.ref a1), some (.int (v2 + (nI 1)))] [] (ms_i G (x + 1) v2.toNatClampNeg (mg_i G (a1 + 1) v2.toNatClampNeg)) (rV K)))) : mV l κ true d 0 0 m_X0_copy 26 [some (.ref x), some (.ref a1), some (.int v2)] [] G (rV K) := by
  refine mV_iload_n (k := 2) (by decide +kernel) rfl ?_
  refine mV_aload_n (k := 0) (by decide +kernel) rfl ?_
  refine mV_gfix (x := mg_i G x 1) (by decide +kernel) fk_0_15 hx.1 rfl ?_
  refine mV_icmp_ge (off := 21) (tgt := 52) (by decide +kernel) (by decide) (fun hc => ?_) (fun hc => ?_)
  · replace h := h.1 hc
    exact mV_vret (by decide +kernel) rfl h
  · replace h := h.2 hc
    refine mV_aload_n (k := 0) (by decide +kernel) rfl ?_
    refine mV_gfr (r := some (x + 1)) (by decide +kernel) fk_0_9 hx.1 (mm_rrs hx.2.2) rfl ?_
    refine mV_iload_n (k := 2) (by decide +kernel) rfl ?_
    refine mV_aload_n (k := 1) (by decide +kernel) rfl ?_
    refine mV_gfr (r := some (a1 + 1)) (by decide +kernel) fk_0_9 ha1.1 (mm_rrs ha1.2.2) rfl ?_
    refine mV_iload_n (k := 2) (by decide +kernel) rfl ?_
    refine mV_ialx (x := mg_i G (a1 + 1) v2.toNatClampNeg) (by decide +kernel) ha1.2.1 h.1 rfl ?_
    replace h := h.2
    refine mV_ias (by decide +kernel) hx.2.1 h.1 ?_
    replace h := h.2
    refine mV_iincc (i := 2) (n := 1) (c := nI 1) (ls' := [some (.ref x), some (.ref a1), some (.int (v2 + (nI 1)))]) (by decide +kernel) (by decide) rfl (Nat.le_of_ble_eq_true rfl) rfl rfl ?_
    refine mV_goto (off := -23) (tgt := 26) (by decide +kernel) (by decide) ?_
    exact h
set_option maxRecDepth 100000 in
set_option maxHeartbeats 4000000 in
theorem e_X0_isLike {l : Launch} {κ : mm_K} {d : Nat} {G : mm_G} {K : Int32 → mm_G → Prop} (x : Nat) (hx : DeedAt x) (a1 : Nat) (ha1 : DeedAt a1) (h : ((¬ (mg_i G x 2) = (mg_i G a1 2) → K (nI 0) G) ∧ ((mg_i G x 2) = (mg_i G a1 2) → (((mg_i G x 1) = (mg_i G a1 1) → mV l κ true d 0 0 m_X0_isLike 26 [some (.ref x), some (.ref a1), some (.int (nI 0))] [] G (rI K)) ∧ (¬ (mg_i G x 1) = (mg_i G a1 1) → K (nI 0) G))))) : mC l κ true d 0 0 m_X0_isLike [.ref x, .ref a1] G (rI K) := by
  refine mC.of (by decide) (Nat.le_of_ble_eq_true rfl) [some (.ref x), some (.ref a1), none] rfl ?_
  refine mV_aload_n (k := 0) (by decide +kernel) rfl ?_
  refine mV_gfix (x := mg_i G x 2) (by decide +kernel) fk_0_19 hx.1 rfl ?_
  refine mV_aload_n (k := 1) (by decide +kernel) rfl ?_
  refine mV_gfix (x := mg_i G a1 2) (by decide +kernel) fk_0_19 ha1.1 rfl ?_
  refine mV_icmp_ne (off := 14) (tgt := 22) (by decide +kernel) (by decide) (fun hc => ?_) (fun hc => ?_)
  · replace h := h.1 hc
    refine mV_iconst (n := 0) (v := nI 0) (by decide +kernel) (by decide) ?_
    exact mV_zret (by decide +kernel) rfl (by decide) h
  · replace h := h.2 hc
    refine mV_aload_n (k := 0) (by decide +kernel) rfl ?_
    refine mV_gfix (x := mg_i G x 1) (by decide +kernel) fk_0_15 hx.1 rfl ?_
    refine mV_aload_n (k := 1) (by decide +kernel) rfl ?_
    refine mV_gfix (x := mg_i G a1 1) (by decide +kernel) fk_0_15 ha1.1 rfl ?_
    refine mV_icmp_eq (off := 5) (tgt := 24) (by decide +kernel) (by decide) (fun hc => ?_) (fun hc => ?_)
    · replace h := h.1 hc
      refine mV_iconst (n := 0) (v := nI 0) (by decide +kernel) (by decide) ?_
      refine mV_istore_n (k := 2) (ls' := [some (.ref x), some (.ref a1), some (.int (nI 0))]) (by decide +kernel) (Nat.le_of_ble_eq_true rfl) rfl rfl ?_
      exact h
    · replace h := h.2 hc
      refine mV_iconst (n := 0) (v := nI 0) (by decide +kernel) (by decide) ?_
      exact mV_zret (by decide +kernel) rfl (by decide) h
set_option maxRecDepth 100000 in
set_option maxHeartbeats 4000000 in
theorem p_X0_isLike_26 {l : Launch} {κ : mm_K} {d : Nat} {G : mm_G} {K : Int32 → mm_G → Prop} (x : Nat) (hx : DeedAt x) (a1 : Nat) (ha1 : DeedAt a1) (v2 : Int32) (h : (((mg_i G x 1) ≤ v2 → K (nI 1) G) ∧ (¬ (mg_i G x 1) ≤ v2 → vp_in v2 8 ∧ vp_in v2 8 ∧ (((mg_i G (x + 1) v2.toNatClampNeg) = (mg_i G (a1 + 1) v2.toNatClampNeg) → mV l κ true d 0 0 m_X0_isLike 26 [some (.ref x), some (.ref a1), some (.int (v2 + (nI 1)))] [] G (rI K)) ∧ (¬ (mg_i G (x + 1) v2.toNatClampNeg) = (mg_i G (a1 + 1) v2.toNatClampNeg) → K (nI 0) G))))) : mV l κ true d 0 0 m_X0_isLike 26 [some (.ref x), some (.ref a1), some (.int v2)] [] G (rI K) := by
  refine mV_iload_n (k := 2) (by decide +kernel) rfl ?_
  refine mV_aload_n (k := 0) (by decide +kernel) rfl ?_
  refine mV_gfix (x := mg_i G x 1) (by decide +kernel) fk_0_15 hx.1 rfl ?_
  refine mV_icmp_ge (off := 26) (tgt := 57) (by decide +kernel) (by decide) (fun hc => ?_) (fun hc => ?_)
  · replace h := h.1 hc
    refine mV_iconst (n := 1) (v := nI 1) (by decide +kernel) (by decide) ?_
    exact mV_zret (by decide +kernel) rfl (by decide) h
  · replace h := h.2 hc
    refine mV_aload_n (k := 0) (by decide +kernel) rfl ?_
    refine mV_gfr (r := some (x + 1)) (by decide +kernel) fk_0_9 hx.1 (mm_rrs hx.2.2) rfl ?_
    refine mV_iload_n (k := 2) (by decide +kernel) rfl ?_
    refine mV_ialx (x := mg_i G (x + 1) v2.toNatClampNeg) (by decide +kernel) hx.2.1 h.1 rfl ?_
    replace h := h.2
    refine mV_aload_n (k := 1) (by decide +kernel) rfl ?_
    refine mV_gfr (r := some (a1 + 1)) (by decide +kernel) fk_0_9 ha1.1 (mm_rrs ha1.2.2) rfl ?_
    refine mV_iload_n (k := 2) (by decide +kernel) rfl ?_
    refine mV_ialx (x := mg_i G (a1 + 1) v2.toNatClampNeg) (by decide +kernel) ha1.2.1 h.1 rfl ?_
    replace h := h.2
    refine mV_icmp_eq (off := 5) (tgt := 51) (by decide +kernel) (by decide) (fun hc => ?_) (fun hc => ?_)
    · replace h := h.1 hc
      refine mV_iincc (i := 2) (n := 1) (c := nI 1) (ls' := [some (.ref x), some (.ref a1), some (.int (v2 + (nI 1)))]) (by decide +kernel) (by decide) rfl (Nat.le_of_ble_eq_true rfl) rfl rfl ?_
      refine mV_goto (off := -28) (tgt := 26) (by decide +kernel) (by decide) ?_
      exact h
    · replace h := h.2 hc
      refine mV_iconst (n := 0) (v := nI 0) (by decide +kernel) (by decide) ?_
      exact mV_zret (by decide +kernel) rfl (by decide) h
set_option maxRecDepth 100000 in
set_option maxHeartbeats 4000000 in
theorem e_X1_init {l : Launch} {κ : mm_K} {d : Nat} {G : mm_G} {K : mm_G → Prop} (x : Nat) (hx : LineAt x) (h : K G) : mC l κ true (d + 1) 0 0 m_X1_init [.ref x] G (rV K) := by
  refine mC.of (by decide) (Nat.le_of_ble_eq_true rfl) [some (.ref x)] rfl ?_
  refine mV_aload_n (k := 0) (by decide +kernel) rfl ?_
  refine mV_obj (idx := 1) (by decide +kernel) (mm_t3 185 (by decide +kernel)) (mm_t1 27 (by decide +kernel)) (mm_t1 28 rfl) (Nat.le_of_ble_eq_true rfl) ?_
  exact mV_vret (by decide +kernel) rfl h
