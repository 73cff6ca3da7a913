set_option maxRecDepth 100000 in
set_option maxHeartbeats 4000000 in
theorem e_X13_waysOf {l : Launch} {κ : mm_K} {d : Nat} {G : mm_G} {K : Int64 → mm_G → Prop} (a1 : Int32) (a2 : Int32) (h : mV l κ true (d + 1) 0 0 m_X13_waysOf 5 [some (.ref 226), some (.int a1), some (.int a2), some (.long (lN 0)), none, some (.int (nI 0))] [] G (rL K)) : mC l κ true (d + 1) 0 0 m_X13_waysOf [.ref 226, .int a1, .int a2] G (rL K) := by
  refine mC.of (by decide) (Nat.le_of_ble_eq_true rfl) [some (.ref 226), some (.int a1), some (.int a2), none, none, none] rfl ?_
  refine mV_lconst (n := 0) (v := lN 0) (by decide +kernel) (by decide) ?_
  refine mV_lstore_n (k := 3) (ls' := [some (.ref 226), some (.int a1), some (.int a2), some (.long (lN 0)), none, none]) (by decide +kernel) (Nat.le_of_ble_eq_true rfl) rfl rfl ?_
  refine mV_iconst (n := 0) (v := nI 0) (by decide +kernel) (by decide) ?_
  refine mV_istore (i := 5) (ls' := [some (.ref 226), some (.int a1), some (.int a2), some (.long (lN 0)), none, some (.int (nI 0))]) (by decide +kernel) (Nat.le_of_ble_eq_true rfl) rfl rfl ?_
  exact h
set_option maxRecDepth 100000 in
set_option maxHeartbeats 4000000 in
theorem p_X13_waysOf_5 {l : Launch} {κ : mm_K} {d : Nat} {G : mm_G} {K : Int64 → mm_G → Prop} (v1 : Int32) (v2 : Int32) (v3 : Int64) (v5 : Int32) (h : mC l κ true d 0 0 m_X13_linesOf [.ref 226, .int v1] G (rI (fun r1 G2 => ((((nI 1) <<< (r1 &&& 31)) ≤ v5 → K v3 G2) ∧ (¬ ((nI 1) <<< (r1 &&& 31)) ≤ v5 → mC l κ true d 0 0 m_X13_bits [.int v5] G2 (rI (fun r3 G4 => ((¬ r3 = v2 → mV l κ true (d + 1) 0 0 m_X13_waysOf 5 [some (.ref 226), some (.int v1), some (.int v2), some (.long v3), none, some (.int (v5 + (nI 1)))] [] G4 (rL K)) ∧ (r3 = v2 → vp_in v5 4096 ∧ mV l κ true (d + 1) 0 0 m_X13_waysOf 5 [some (.ref 226), some (.int v1), some (.int v2), some (.long (v3 + (mg_l G4 266 v5.toNatClampNeg))), none, some (.int (v5 + (nI 1)))] [] G4 (rL K)))))))))) : mV l κ true (d + 1) 0 0 m_X13_waysOf 5 [some (.ref 226), some (.int v1), some (.int v2), some (.long v3), none, some (.int v5)] [] G (rL K) := by
  refine mV_iload (i := 5) (by decide +kernel) rfl ?_
  refine mV_iconst (n := 1) (v := nI 1) (by decide +kernel) (by decide) ?_
  refine mV_aload_n (k := 0) (by decide +kernel) rfl ?_
  refine mV_iload_n (k := 1) (by decide +kernel) rfl ?_
  refine mV_cV (as := [.int v1]) (rest := [.int (nI 1), .int v5]) (mc1 := 0) (ms1 := 0) (mc := 0) (ms := 0) (by decide +kernel) md_X13_linesOf lk_13_337 sh_226 rfl rfl rfl (Nat.le_of_ble_eq_true rfl) (mC.mono (mm_contI (fun r1 G2 hK => ?_)) h)
  replace h := hK
  refine mV_ishl (by decide +kernel) ?_
  refine mV_icmp_ge (off := 28) (tgt := 42) (by decide +kernel) (by decide) (fun hc => ?_) (fun hc => ?_)
  · replace h := h.1 hc
    refine mV_lload_n (k := 3) (by decide +kernel) rfl ?_
    exact mV_lret (by decide +kernel) rfl h
  · replace h := h.2 hc
    refine mV_iload (i := 5) (by decide +kernel) rfl ?_
    refine mV_cS (as := [.int v5]) (rest := []) (mc1 := 0) (ms1 := 0) (mc := 0) (ms := 0) (by decide +kernel) md_X13_bits lk_13_426 rfl rfl (Nat.le_of_ble_eq_true rfl) (mC.mono (mm_contI (fun r3 G4 hK => ?_)) h)
    replace h := hK
    refine mV_iload_n (k := 2) (by decide +kernel) rfl ?_
    refine mV_icmp_ne (off := 13) (tgt := 36) (by decide +kernel) (by decide) (fun hc => ?_) (fun hc => ?_)
    · replace h := h.1 hc
      refine mV_iincc (i := 5) (n := 1) (c := nI 1) (ls' := [some (.ref 226), some (.int v1), some (.int v2), some (.long v3), none, some (.int (v5 + (nI 1)))]) (by decide +kernel) (by decide) rfl (Nat.le_of_ble_eq_true rfl) rfl rfl ?_
      refine mV_goto (off := -34) (tgt := 5) (by decide +kernel) (by decide) ?_
      exact h
    · replace h := h.2 hc
      refine mV_lload_n (k := 3) (by decide +kernel) rfl ?_
      refine mV_aload_n (k := 0) (by decide +kernel) rfl ?_
      refine mV_gfr (r := some 266) (by decide +kernel) fk_13_137 sh_226 (mm_rrs st_226_63) rfl ?_
      refine mV_iload (i := 5) (by decide +kernel) rfl ?_
      refine mV_lalx (x := mg_l G4 266 v5.toNatClampNeg) (by decide +kernel) sh_266 h.1 rfl ?_
      replace h := h.2
      refine mV_ladd (by decide +kernel) ?_
      refine mV_lstore_n (k := 3) (ls' := [some (.ref 226), some (.int v1), some (.int v2), some (.long (v3 + (mg_l G4 266 v5.toNatClampNeg))), none, some (.int v5)]) (by decide +kernel) (Nat.le_of_ble_eq_true rfl) rfl rfl ?_
      refine mV_iincc (i := 5) (n := 1) (c := nI 1) (ls' := [some (.ref 226), some (.int v1), some (.int v2), some (.long (v3 + (mg_l G4 266 v5.toNatClampNeg))), none, some (.int (v5 + (nI 1)))]) (by decide +kernel) (by decide) rfl (Nat.le_of_ble_eq_true rfl) rfl rfl ?_
      refine mV_goto (off := -34) (tgt := 5) (by decide +kernel) (by decide) ?_
      exact h
set_option maxRecDepth 100000 in
set_option maxHeartbeats 4000000 in
theorem e_X13_ways {l : Launch} {κ : mm_K} {d : Nat} {G : mm_G} {K : Int64 → mm_G → Prop} (a1 : Int32) (a2 : Int32) (h : mC l κ true (d + 7) 0 0 m_X13_isRow [.ref 226, .int a1] G (rI (fun r1 G2 => ((¬ r1 = 0 → mC l κ true (d + 7) 0 0 m_X13_isShort [.ref 226, .int a1] G2 (rI (fun r3 G4 => ((¬ r3 = 0 → mC l κ true (d + 7) 0 0 m_X13_linesOf [.ref 226, .int a1] G4 (rI (fun r5 G6 => mC l κ true (d + 7) 0 0 m_X13_in [.int a2, .int (nI 0), .int r5] G6 (rI (fun r7 G8 => ((¬ r7 = 0 → mC l κ true (d + 7) 0 0 m_X13_fillSets [.ref 226, .int a1] G8 (rV (fun G10 => mC l κ true (d + 7) 0 0 m_X13_waysOf [.ref 226, .int a1, .int a2] G10 (rL (fun r11 G12 => K r11 G12))))) ∧ (r7 = 0 → K (-1) G8))))))) ∧ (r3 = 0 → mC l κ true (d + 7) 0 0 m_X13_linesOf [.ref 226, .int a1] G4 (rI (fun r13 G14 => mC l κ true (d + 7) 0 0 m_X13_in [.int a2, .int (nI 0), .int r13] G14 (rI (fun r15 G16 => ((r15 = 0 → K (-1) G16) ∧ (¬ r15 = 0 → K (-2) G16))))))))))) ∧ (r1 = 0 → K (-1) G2))))) : mC l κ true (d + 8) 0 0 m_X13_ways [.ref 226, .int a1, .int a2] G (rL K) := by
  refine mC.of (by decide) (Nat.le_of_ble_eq_true rfl) [some (.ref 226), some (.int a1), some (.int a2)] rfl ?_
  refine mV_aload_n (k := 0) (by decide +kernel) rfl ?_
  refine mV_iload_n (k := 1) (by decide +kernel) rfl ?_
  refine mV_cV (as := [.int a1]) (rest := []) (mc1 := 0) (ms1 := 0) (mc := 0) (ms := 0) (by decide +kernel) md_X13_isRow lk_13_403 sh_226 rfl rfl rfl (Nat.le_of_ble_eq_true rfl) (mC.mono (mm_contI (fun r1 G2 hK => ?_)) h)
  replace h := hK
  refine mV_if_ne (off := 7) (tgt := 12) (by decide +kernel) (by decide) (fun hc => ?_) (fun hc => ?_)
  · replace h := h.1 hc
    refine mV_aload_n (k := 0) (by decide +kernel) rfl ?_
    refine mV_iload_n (k := 1) (by decide +kernel) rfl ?_
    refine mV_cV (as := [.int a1]) (rest := []) (mc1 := 0) (ms1 := 0) (mc := 0) (ms := 0) (by decide +kernel) md_X13_isShort lk_13_452 sh_226 rfl rfl rfl (Nat.le_of_ble_eq_true rfl) (mC.mono (mm_contI (fun r3 G4 hK => ?_)) h)
    replace h := hK
    refine mV_if_ne (off := 26) (tgt := 43) (by decide +kernel) (by decide) (fun hc => ?_) (fun hc => ?_)
    · replace h := h.1 hc
      refine mV_iload_n (k := 2) (by decide +kernel) rfl ?_
      refine mV_iconst (n := 0) (v := nI 0) (by decide +kernel) (by decide) ?_
      refine mV_aload_n (k := 0) (by decide +kernel) rfl ?_
      refine mV_iload_n (k := 1) (by decide +kernel) rfl ?_
      refine mV_cV (as := [.int a1]) (rest := [.int (nI 0), .int a2]) (mc1 := 0) (ms1 := 0) (mc := 0) (ms := 0) (by decide +kernel) md_X13_linesOf lk_13_337 sh_226 rfl rfl rfl (Nat.le_of_ble_eq_true rfl) (mC.mono (mm_contI (fun r5 G6 hK => ?_)) h)
      replace h := hK
      refine mV_cS (as := [.int a2, .int (nI 0), .int r5]) (rest := []) (mc1 := 0) (ms1 := 0) (mc := 0) (ms := 0) (by decide +kernel) md_X13_in lk_13_399 rfl rfl (Nat.le_of_ble_eq_true rfl) (mC.mono (mm_contI (fun r7 G8 hK => ?_)) h)
      replace h := hK
      refine mV_if_ne (off := 7) (tgt := 60) (by decide +kernel) (by decide) (fun hc => ?_) (fun hc => ?_)
      · replace h := h.1 hc
        refine mV_aload_n (k := 0) (by decide +kernel) rfl ?_
        refine mV_iload_n (k := 1) (by decide +kernel) rfl ?_
        refine mV_cV (as := [.int a1]) (rest := []) (mc1 := 0) (ms1 := 0) (mc := 0) (ms := 0) (by decide +kernel) md_X13_fillSets lk_13_455 sh_226 rfl rfl rfl (Nat.le_of_ble_eq_true rfl) (mC.mono (mm_contV (fun G10 hK => ?_)) h)
        replace h := hK
        refine mV_aload_n (k := 0) (by decide +kernel) rfl ?_
        refine mV_iload_n (k := 1) (by decide +kernel) rfl ?_
        refine mV_iload_n (k := 2) (by decide +kernel) rfl ?_
        refine mV_cV (as := [.int a1, .int a2]) (rest := []) (mc1 := 0) (ms1 := 0) (mc := 0) (ms := 0) (by decide +kernel) md_X13_waysOf lk_13_462 sh_226 rfl rfl rfl (Nat.le_of_ble_eq_true rfl) (mC.mono (mm_contL (fun r11 G12 hK => ?_)) h)
        replace h := hK
        exact mV_lret (by decide +kernel) rfl h
      · replace h := h.2 hc
        refine mV_ldc2 (idx := 458) (v := (-1)) (by decide +kernel) (mm_t8 165 (by decide +kernel)) ?_
        exact mV_lret (by decide +kernel) rfl h
    · replace h := h.2 hc
      refine mV_iload_n (k := 2) (by decide +kernel) rfl ?_
      refine mV_iconst (n := 0) (v := nI 0) (by decide +kernel) (by decide) ?_
      refine mV_aload_n (k := 0) (by decide +kernel) rfl ?_
      refine mV_iload_n (k := 1) (by decide +kernel) rfl ?_
      refine mV_cV (as := [.int a1]) (rest := [.int (nI 0), .int a2]) (mc1 := 0) (ms1 := 0) (mc := 0) (ms := 0) (by decide +kernel) md_X13_linesOf lk_13_337 sh_226 rfl rfl rfl (Nat.le_of_ble_eq_true rfl) (mC.mono (mm_contI (fun r13 G14 hK => ?_)) h)
      replace h := hK
      refine mV_cS (as := [.int a2, .int (nI 0), .int r13]) (rest := []) (mc1 := 0) (ms1 := 0) (mc := 0) (ms := 0) (by decide +kernel) md_X13_in lk_13_399 rfl rfl (Nat.le_of_ble_eq_true rfl) (mC.mono (mm_contI (fun r15 G16 hK => ?_)) h)
      replace h := hK
      refine mV_if_eq (off := 9) (tgt := 39) (by decide +kernel) (by decide) (fun hc => ?_) (fun hc => ?_)
      · replace h := h.1 hc
        refine mV_ldc2 (idx := 458) (v := (-1)) (by decide +kernel) (mm_t8 165 (by decide +kernel)) ?_
        exact mV_lret (by decide +kernel) rfl h
      · replace h := h.2 hc
        refine mV_ldc2 (idx := 460) (v := (-2)) (by decide +kernel) (mm_t8 166 (by decide +kernel)) ?_
        refine mV_goto (off := 6) (tgt := 42) (by decide +kernel) (by decide) ?_
        exact mV_lret (by decide +kernel) rfl h
  · replace h := h.2 hc
    refine mV_ldc2 (idx := 458) (v := (-1)) (by decide +kernel) (mm_t8 165 (by decide +kernel)) ?_
    exact mV_lret (by decide +kernel) rfl h
set_option maxRecDepth 100000 in
set_option maxHeartbeats 4000000 in
theorem e_X13_orders {l : Launch} {κ : mm_K} {d : Nat} {G : mm_G} {K : Int64 → mm_G → Prop} (a1 : Int32) (h : mV l κ true d 0 0 m_X13_orders 4 [some (.int a1), some (.long (lN 1)), none, some (.int (nI 2))] [] G (rL K)) : mC l κ true d 0 0 m_X13_orders [.int a1] G (rL K) := by
  refine mC.of (by decide) (Nat.le_of_ble_eq_true rfl) [some (.int a1), none, none, none] rfl ?_
  refine mV_lconst (n := 1) (v := lN 1) (by decide +kernel) (by decide) ?_
  refine mV_lstore_n (k := 1) (ls' := [some (.int a1), some (.long (lN 1)), none, none]) (by decide +kernel) (Nat.le_of_ble_eq_true rfl) rfl rfl ?_
  refine mV_iconst (n := 2) (v := nI 2) (by decide +kernel) (by decide) ?_
  refine mV_istore_n (k := 3) (ls' := [some (.int a1), some (.long (lN 1)), none, some (.int (nI 2))]) (by decide +kernel) (Nat.le_of_ble_eq_true rfl) rfl rfl ?_
  exact h
set_option maxRecDepth 100000 in
set_option maxHeartbeats 4000000 in
theorem p_X13_orders_4 {l : Launch} {κ : mm_K} {d : Nat} {G : mm_G} {K : Int64 → mm_G → Prop} (v0 : Int32) (v1 : Int64) (v3 : Int32) (h : ((v0 < v3 → K v1 G) ∧ (¬ v0 < v3 → mV l κ true d 0 0 m_X13_orders 4 [some (.int v0), some (.long (v1 * v3.toInt64)), none, some (.int (v3 + (nI 1)))] [] G (rL K)))) : mV l κ true d 0 0 m_X13_orders 4 [some (.int v0), some (.long v1), none, some (.int v3)] [] G (rL K) := by
  refine mV_iload_n (k := 3) (by decide +kernel) rfl ?_
  refine mV_iload_n (k := 0) (by decide +kernel) rfl ?_
  refine mV_icmp_gt (off := 14) (tgt := 20) (by decide +kernel) (by decide) (fun hc => ?_) (fun hc => ?_)
  · replace h := h.1 hc
    refine mV_lload_n (k := 1) (by decide +kernel) rfl ?_
    exact mV_lret (by decide +kernel) rfl h
  · replace h := h.2 hc
    refine mV_lload_n (k := 1) (by decide +kernel) rfl ?_
    refine mV_iload_n (k := 3) (by decide +kernel) rfl ?_
    refine mV_i2l (by decide +kernel) ?_
    refine mV_lmul (by decide +kernel) ?_
    refine mV_lstore_n (k := 1) (ls' := [some (.int v0), some (.long (v1 * v3.toInt64)), none, some (.int v3)]) (by decide +kernel) (Nat.le_of_ble_eq_true rfl) rfl rfl ?_
    refine mV_iincc (i := 3) (n := 1) (c := nI 1) (ls' := [some (.int v0), some (.long (v1 * v3.toInt64)), none, some (.int (v3 + (nI 1)))]) (by decide +kernel) (by decide) rfl (Nat.le_of_ble_eq_true rfl) rfl rfl ?_
    refine mV_goto (off := -13) (tgt := 4) (by decide +kernel) (by decide) ?_
    exact h
set_option maxRecDepth 100000 in
set_option maxHeartbeats 4000000 in
theorem e_X13_common {l : Launch} {κ : mm_K} {d : Nat} {G : mm_G} {K : Int64 → mm_G → Prop} (a1 : Int64) (a2 : Int64) (h : mV l κ true d 0 0 m_X13_common 6 [some (.long a1), none, some (.long a2), none, some (.long a1), none, some (.long a2), none, none, none] [] G (rL K)) : mC l κ true d 0 0 m_X13_common [.long a1, .long a2] G (rL K) := by
  refine mC.of (by decide) (Nat.le_of_ble_eq_true rfl) [some (.long a1), none, some (.long a2), none, none, none, none, none, none, none] rfl ?_
  refine mV_lload_n (k := 0) (by decide +kernel) rfl ?_
  refine mV_lstore (i := 4) (ls' := [some (.long a1), none, some (.long a2), none, some (.long a1), none, none, none, none, none]) (by decide +kernel) (Nat.le_of_ble_eq_true rfl) rfl rfl ?_
  refine mV_lload_n (k := 2) (by decide +kernel) rfl ?_
  refine mV_lstore (i := 6) (ls' := [some (.long a1), none, some (.long a2), none, some (.long a1), none, some (.long a2), none, none, none]) (by decide +kernel) (Nat.le_of_ble_eq_true rfl) rfl rfl ?_
  exact h
set_option maxRecDepth 100000 in
set_option maxHeartbeats 4000000 in
theorem p_X13_common_6 {l : Launch} {κ : mm_K} {d : Nat} {G : mm_G} {K : Int64 → mm_G → Prop} (v0 : Int64) (v2 : Int64) (v4 : Int64) (v6 : Int64) (h : (((lg_cmp v6 (lN 0)) = 0 → K v4 G) ∧ (¬ (lg_cmp v6 (lN 0)) = 0 → (¬ v6 = 0) ∧ mV l κ true d 0 0 m_X13_common 6 [some (.long v0), none, some (.long v2), none, some (.long v6), none, some (.long (v4 - v4 / v6 * v6)), none, none, none] [] G (rL K)))) : mV l κ true d 0 0 m_X13_common 6 [some (.long v0), none, some (.long v2), none, some (.long v4), none, some (.long v6), none, none, none] [] G (rL K) := by
  refine mV_lload (i := 6) (by decide +kernel) rfl ?_
  refine mV_lconst (n := 0) (v := lN 0) (by decide +kernel) (by decide) ?_
  refine mV_lcmp (by decide +kernel) ?_
  refine mV_if_eq (off := 21) (tgt := 31) (by decide +kernel) (by decide) (fun hc => ?_) (fun hc => ?_)
  · replace h := h.1 hc
    refine mV_lload (i := 4) (by decide +kernel) rfl ?_
    exact mV_lret (by decide +kernel) rfl h
  · replace h := h.2 hc
    refine mV_lload (i := 4) (by decide +kernel) rfl ?_
    refine mV_lload (i := 6) (by decide +kernel) rfl ?_
    refine mV_lrem (by decide +kernel) h.1 ?_
    replace h := h.2
    refine mV_lstore (i := 8) (ls' := [some (.long v0), none, some (.long v2), none, some (.long v4), none, some (.long v6), none, some (.long (v4 - v4 / v6 * v6)), none]) (by decide +kernel) (Nat.le_of_ble_eq_true rfl) rfl rfl ?_
    refine mV_lload (i := 6) (by decide +kernel) rfl ?_
    refine mV_lstore (i := 4) (ls' := [some (.long v0), none, some (.long v2), none, some (.long v6), none, some (.long v6), none, some (.long (v4 - v4 / v6 * v6)), none]) (by decide +kernel) (Nat.le_of_ble_eq_true rfl) rfl rfl ?_
    refine mV_lload (i := 8) (by decide +kernel) rfl ?_
    refine mV_lstore (i := 6) (ls' := [some (.long v0), none, some (.long v2), none, some (.long v6), none, some (.long (v4 - v4 / v6 * v6)), none, some (.long (v4 - v4 / v6 * v6)), none]) (by decide +kernel) (Nat.le_of_ble_eq_true rfl) rfl rfl ?_
    refine mV_goto (off := -22) (tgt := 6) (by decide +kernel) (by decide) ?_
    refine mV_fg [8] (ls' := [some (.long v0), none, some (.long v2), none, some (.long v6), none, some (.long (v4 - v4 / v6 * v6)), none, none, none]) rfl ?_
    exact h
set_option maxRecDepth 100000 in
set_option maxHeartbeats 4000000 in
theorem e_X13_mean {l : Launch} {κ : mm_K} {d : Nat} {G : mm_G} {K : Int64 → mm_G → Prop} (a1 : Int32) (a2 : Int32) (h : mC l κ true (d + 7) 0 0 m_X13_isRow [.ref 226, .int a1] G (rI (fun r1 G2 => ((¬ r1 = 0 → mC l κ true (d + 7) 0 0 m_X13_isShort [.ref 226, .int a1] G2 (rI (fun r3 G4 => ((¬ r3 = 0 → mC l κ true (d + 7) 0 0 m_X13_fillSets [.ref 226, .int a1] G4 (rV (fun G6 => mC l κ true (d + 7) 0 0 m_X13_linesOf [.ref 226, .int a1] G6 (rI (fun r7 G8 => mV l κ true (d + 8) 0 0 m_X13_mean 41 [some (.ref 226), some (.int a1), some (.int a2), some (.int r7), some (.long (lN 0)), none, some (.int (nI 0)), none, none, none] [] G8 (rL K)))))) ∧ (r3 = 0 → K (-2) G4))))) ∧ (r1 = 0 → K (-1) G2))))) : mC l κ true (d + 8) 0 0 m_X13_mean [.ref 226, .int a1, .int a2] G (rL K) := by
  refine mC.of (by decide) (Nat.le_of_ble_eq_true rfl) [some (.ref 226), some (.int a1), some (.int a2), none, none, none, none, none, none, none] rfl ?_
  refine mV_aload_n (k := 0) (by decide +kernel) rfl ?_
  refine mV_iload_n (k := 1) (by decide +kernel) rfl ?_
  refine mV_cV (as := [.int a1]) (rest := []) (mc1 := 0) (ms1 := 0) (mc := 0) (ms := 0) (by decide +kernel) md_X13_isRow lk_13_403 sh_226 rfl rfl rfl (Nat.le_of_ble_eq_true rfl) (mC.mono (mm_contI (fun r1 G2 hK => ?_)) h)
  replace h := hK
  refine mV_if_ne (off := 7) (tgt := 12) (by decide +kernel) (by decide) (fun hc => ?_) (fun hc => ?_)
  · replace h := h.1 hc
    refine mV_aload_n (k := 0) (by decide +kernel) rfl ?_
    refine mV_iload_n (k := 1) (by decide +kernel) rfl ?_
    refine mV_cV (as := [.int a1]) (rest := []) (mc1 := 0) (ms1 := 0) (mc := 0) (ms := 0) (by decide +kernel) md_X13_isShort lk_13_452 sh_226 rfl rfl rfl (Nat.le_of_ble_eq_true rfl) (mC.mono (mm_contI (fun r3 G4 hK => ?_)) h)
    replace h := hK
    refine mV_if_ne (off := 7) (tgt := 24) (by decide +kernel) (by decide) (fun hc => ?_) (fun hc => ?_)
    · replace h := h.1 hc
      refine mV_aload_n (k := 0) (by decide +kernel) rfl ?_
      refine mV_iload_n (k := 1) (by decide +kernel) rfl ?_
      refine mV_cV (as := [.int a1]) (rest := []) (mc1 := 0) (ms1 := 0) (mc := 0) (ms := 0) (by decide +kernel) md_X13_fillSets lk_13_455 sh_226 rfl rfl rfl (Nat.le_of_ble_eq_true rfl) (mC.mono (mm_contV (fun G6 hK => ?_)) h)
      replace h := hK
      refine mV_aload_n (k := 0) (by decide +kernel) rfl ?_
      refine mV_iload_n (k := 1) (by decide +kernel) rfl ?_
      refine mV_cV (as := [.int a1]) (rest := []) (mc1 := 0) (ms1 := 0) (mc := 0) (ms := 0) (by decide +kernel) md_X13_linesOf lk_13_337 sh_226 rfl rfl rfl (Nat.le_of_ble_eq_true rfl) (mC.mono (mm_contI (fun r7 G8 hK => ?_)) h)
      replace h := hK
      refine mV_istore_n (k := 3) (ls' := [some (.ref 226), some (.int a1), some (.int a2), some (.int r7), none, none, none, none, none, none]) (by decide +kernel) (Nat.le_of_ble_eq_true rfl) rfl rfl ?_
      refine mV_lconst (n := 0) (v := lN 0) (by decide +kernel) (by decide) ?_
      refine mV_lstore (i := 4) (ls' := [some (.ref 226), some (.int a1), some (.int a2), some (.int r7), some (.long (lN 0)), none, none, none, none, none]) (by decide +kernel) (Nat.le_of_ble_eq_true rfl) rfl rfl ?_
      refine mV_iconst (n := 0) (v := nI 0) (by decide +kernel) (by decide) ?_
      refine mV_istore (i := 6) (ls' := [some (.ref 226), some (.int a1), some (.int a2), some (.int r7), some (.long (lN 0)), none, some (.int (nI 0)), none, none, none]) (by decide +kernel) (Nat.le_of_ble_eq_true rfl) rfl rfl ?_
      exact h
    · replace h := h.2 hc
      refine mV_ldc2 (idx := 460) (v := (-2)) (by decide +kernel) (mm_t8 166 (by decide +kernel)) ?_
      exact mV_lret (by decide +kernel) rfl h
  · replace h := h.2 hc
    refine mV_ldc2 (idx := 458) (v := (-1)) (by decide +kernel) (mm_t8 165 (by decide +kernel)) ?_
    exact mV_lret (by decide +kernel) rfl h
set_option maxRecDepth 100000 in
set_option maxHeartbeats 4000000 in
theorem p_X13_mean_41 {l : Launch} {κ : mm_K} {d : Nat} {G : mm_G} {K : Int64 → mm_G → Prop} (v1 : Int32) (v2 : Int32) (v3 : Int32) (v4 : Int64) (v6 : Int32) (h : ((v3 < v6 → mC l κ true (d + 7) 0 0 m_X13_orders [.int v3] G (rL (fun r1 G2 => mC l κ true (d + 7) 0 0 m_X13_common [.long v4, .long r1] G2 (rL (fun r3 G4 => ((v2 = 0 → (¬ r3 = 0) ∧ K (v4 / r3) G4) ∧ (¬ v2 = 0 → (¬ r3 = 0) ∧ K (r1 / r3) G4))))))) ∧ (¬ v3 < v6 → mC l κ true (d + 7) 0 0 m_X13_waysOf [.ref 226, .int v1, .int v6] G (rL (fun r5 G6 => mC l κ true (d + 7) 0 0 m_X13_orders [.int (v3 - v6)] G6 (rL (fun r7 G8 => mV l κ true (d + 8) 0 0 m_X13_mean 41 [some (.ref 226), some (.int v1), some (.int v2), some (.int v3), some (.long (v4 + (r5 * r7))), none, some (.int (v6 + (nI 1))), none, none, none] [] G8 (rL K)))))))) : mV l κ true (d + 8) 0 0 m_X13_mean 41 [some (.ref 226), some (.int v1), some (.int v2), some (.int v3), some (.long v4), none, some (.int v6), none, none, none] [] G (rL K) := by
  refine mV_iload (i := 6) (by decide +kernel) rfl ?_
  refine mV_iload_n (k := 3) (by decide +kernel) rfl ?_
  refine mV_icmp_gt (off := 29) (tgt := 73) (by decide +kernel) (by decide) (fun hc => ?_) (fun hc => ?_)
  · replace h := h.1 hc
    refine mV_iload_n (k := 3) (by decide +kernel) rfl ?_
    refine mV_cS (as := [.int v3]) (rest := []) (mc1 := 0) (ms1 := 0) (mc := 0) (ms := 0) (by decide +kernel) md_X13_orders lk_13_466 rfl rfl (Nat.le_of_ble_eq_true rfl) (mC.mono (mm_contL (fun r1 G2 hK => ?_)) h)
    replace h := hK
    refine mV_lstore (i := 6) (ls' := [some (.ref 226), some (.int v1), some (.int v2), some (.int v3), some (.long v4), none, some (.long r1), none, none, none]) (by decide +kernel) (Nat.le_of_ble_eq_true rfl) rfl rfl ?_
    refine mV_lload (i := 4) (by decide +kernel) rfl ?_
    refine mV_lload (i := 6) (by decide +kernel) rfl ?_
    refine mV_cS (as := [.long v4, .long r1]) (rest := []) (mc1 := 0) (ms1 := 0) (mc := 0) (ms := 0) (by decide +kernel) md_X13_common lk_13_470 rfl rfl (Nat.le_of_ble_eq_true rfl) (mC.mono (mm_contL (fun r3 G4 hK => ?_)) h)
    replace h := hK
    refine mV_lstore (i := 8) (ls' := [some (.ref 226), some (.int v1), some (.int v2), some (.int v3), some (.long v4), none, some (.long r1), none, some (.long r3), none]) (by decide +kernel) (Nat.le_of_ble_eq_true rfl) rfl rfl ?_
    refine mV_iload_n (k := 2) (by decide +kernel) rfl ?_
    refine mV_if_eq (off := 11) (tgt := 100) (by decide +kernel) (by decide) (fun hc => ?_) (fun hc => ?_)
    · replace h := h.1 hc
      refine mV_lload (i := 4) (by decide +kernel) rfl ?_
      refine mV_lload (i := 8) (by decide +kernel) rfl ?_
      refine mV_ldiv (by decide +kernel) h.1 ?_
      replace h := h.2
      exact mV_lret (by decide +kernel) rfl h
    · replace h := h.2 hc
      refine mV_lload (i := 6) (by decide +kernel) rfl ?_
      refine mV_lload (i := 8) (by decide +kernel) rfl ?_
      refine mV_ldiv (by decide +kernel) h.1 ?_
      replace h := h.2
      refine mV_goto (off := 8) (tgt := 105) (by decide +kernel) (by decide) ?_
      exact mV_lret (by decide +kernel) rfl h
  · replace h := h.2 hc
    refine mV_lload (i := 4) (by decide +kernel) rfl ?_
    refine mV_aload_n (k := 0) (by decide +kernel) rfl ?_
    refine mV_iload_n (k := 1) (by decide +kernel) rfl ?_
    refine mV_iload (i := 6) (by decide +kernel) rfl ?_
    refine mV_cV (as := [.int v1, .int v6]) (rest := [.long v4]) (mc1 := 0) (ms1 := 0) (mc := 0) (ms := 0) (by decide +kernel) md_X13_waysOf lk_13_462 sh_226 rfl rfl rfl (Nat.le_of_ble_eq_true rfl) (mC.mono (mm_contL (fun r5 G6 hK => ?_)) h)
    replace h := hK
    refine mV_iload_n (k := 3) (by decide +kernel) rfl ?_
    refine mV_iload (i := 6) (by decide +kernel) rfl ?_
    refine mV_isub (by decide +kernel) ?_
    refine mV_cS (as := [.int (v3 - v6)]) (rest := [.long r5, .long v4]) (mc1 := 0) (ms1 := 0) (mc := 0) (ms := 0) (by decide +kernel) md_X13_orders lk_13_466 rfl rfl (Nat.le_of_ble_eq_true rfl) (mC.mono (mm_contL (fun r7 G8 hK => ?_)) h)
    replace h := hK
    refine mV_lmul (by decide +kernel) ?_
    refine mV_ladd (by decide +kernel) ?_
    refine mV_lstore (i := 4) (ls' := [some (.ref 226), some (.int v1), some (.int v2), some (.int v3), some (.long (v4 + (r5 * r7))), none, some (.int v6), none, none, none]) (by decide +kernel) (Nat.le_of_ble_eq_true rfl) rfl rfl ?_
    refine mV_iincc (i := 6) (n := 1) (c := nI 1) (ls' := [some (.ref 226), some (.int v1), some (.int v2), some (.int v3), some (.long (v4 + (r5 * r7))), none, some (.int (v6 + (nI 1))), none, none, none]) (by decide +kernel) (by decide) rfl (Nat.le_of_ble_eq_true rfl) rfl rfl ?_
    refine mV_goto (off := -29) (tgt := 41) (by decide +kernel) (by decide) ?_
    exact h
set_option maxRecDepth 100000 in
set_option maxHeartbeats 4000000 in
theorem e_X13_core {l : Launch} {κ : mm_K} {d : Nat} {G : mm_G} {K : Int32 → mm_G → Prop} (a1 : Int32) (a2 : Int32) (h : mC l κ true (d + 7) 0 0 m_X13_isRow [.ref 226, .int a1] G (rI (fun r1 G2 => ((r1 = 0 → K (-1) G2) ∧ (¬ r1 = 0 → mC l κ true (d + 7) 0 0 m_X13_in [.int a2, .int (nI 0), .int (nI 1)] G2 (rI (fun r3 G4 => ((¬ r3 = 0 → mC l κ true (d + 7) 0 0 m_X13_isShort [.ref 226, .int a1] G4 (rI (fun r5 G6 => ((¬ r5 = 0 → mC l κ true (d + 7) 0 0 m_X13_fillSets [.ref 226, .int a1] G6 (rV (fun G8 => mC l κ true (d + 7) 0 0 m_X13_linesOf [.ref 226, .int a1] G8 (rI (fun r9 G10 => mV l κ true (d + 8) 0 0 m_X13_core 51 [some (.ref 226), some (.int a1), some (.int a2), some (.int (((nI 1) <<< (r9 &&& 31)) - (nI 1))), some (.int (((nI 1) <<< (r9 &&& 31)) - (nI 1))), some (.int (nI 0))] [] G10 (rI K)))))) ∧ (r5 = 0 → K (-2) G6))))) ∧ (r3 = 0 → K (-1) G4))))))))) : mC l κ true (d + 8) 0 0 m_X13_core [.ref 226, .int a1, .int a2] G (rI K) := by
  refine mC.of (by decide) (Nat.le_of_ble_eq_true rfl) [some (.ref 226), some (.int a1), some (.int a2), none, none, none] rfl ?_
  refine mV_aload_n (k := 0) (by decide +kernel) rfl ?_
  refine mV_iload_n (k := 1) (by decide +kernel) rfl ?_
  refine mV_cV (as := [.int a1]) (rest := []) (mc1 := 0) (ms1 := 0) (mc := 0) (ms := 0) (by decide +kernel) md_X13_isRow lk_13_403 sh_226 rfl rfl rfl (Nat.le_of_ble_eq_true rfl) (mC.mono (mm_contI (fun r1 G2 hK => ?_)) h)
  replace h := hK
  refine mV_if_eq (off := 12) (tgt := 17) (by decide +kernel) (by decide) (fun hc => ?_) (fun hc => ?_)
  · replace h := h.1 hc
    refine mV_iconst (n := -1) (v := (-1)) (by decide +kernel) (by decide) ?_
    exact mV_iret (by decide +kernel) rfl h
  · replace h := h.2 hc
    refine mV_iload_n (k := 2) (by decide +kernel) rfl ?_
    refine mV_iconst (n := 0) (v := nI 0) (by decide +kernel) (by decide) ?_
    refine mV_iconst (n := 1) (v := nI 1) (by decide +kernel) (by decide) ?_
    refine mV_cS (as := [.int a2, .int (nI 0), .int (nI 1)]) (rest := []) (mc1 := 0) (ms1 := 0) (mc := 0) (ms := 0) (by decide +kernel) md_X13_in lk_13_399 rfl rfl (Nat.le_of_ble_eq_true rfl) (mC.mono (mm_contI (fun r3 G4 hK => ?_)) h)
    replace h := hK
    refine mV_if_ne (off := 5) (tgt := 19) (by decide +kernel) (by decide) (fun hc => ?_) (fun hc => ?_)
    · replace h := h.1 hc
      refine mV_aload_n (k := 0) (by decide +kernel) rfl ?_
      refine mV_iload_n (k := 1) (by decide +kernel) rfl ?_
      refine mV_cV (as := [.int a1]) (rest := []) (mc1 := 0) (ms1 := 0) (mc := 0) (ms := 0) (by decide +kernel) md_X13_isShort lk_13_452 sh_226 rfl rfl rfl (Nat.le_of_ble_eq_true rfl) (mC.mono (mm_contI (fun r5 G6 hK => ?_)) h)
      replace h := hK
      refine mV_if_ne (off := 6) (tgt := 30) (by decide +kernel) (by decide) (fun hc => ?_) (fun hc => ?_)
      · replace h := h.1 hc
        refine mV_aload_n (k := 0) (by decide +kernel) rfl ?_
        refine mV_iload_n (k := 1) (by decide +kernel) rfl ?_
        refine mV_cV (as := [.int a1]) (rest := []) (mc1 := 0) (ms1 := 0) (mc := 0) (ms := 0) (by decide +kernel) md_X13_fillSets lk_13_455 sh_226 rfl rfl rfl (Nat.le_of_ble_eq_true rfl) (mC.mono (mm_contV (fun G8 hK => ?_)) h)
        replace h := hK
        refine mV_iconst (n := 1) (v := nI 1) (by decide +kernel) (by decide) ?_
        refine mV_aload_n (k := 0) (by decide +kernel) rfl ?_
        refine mV_iload_n (k := 1) (by decide +kernel) rfl ?_
        refine mV_cV (as := [.int a1]) (rest := [.int (nI 1)]) (mc1 := 0) (ms1 := 0) (mc := 0) (ms := 0) (by decide +kernel) md_X13_linesOf lk_13_337 sh_226 rfl rfl rfl (Nat.le_of_ble_eq_true rfl) (mC.mono (mm_contI (fun r9 G10 hK => ?_)) h)
        replace h := hK
        refine mV_ishl (by decide +kernel) ?_
        refine mV_iconst (n := 1) (v := nI 1) (by decide +kernel) (by decide) ?_
        refine mV_isub (by decide +kernel) ?_
        refine mV_istore_n (k := 3) (ls' := [some (.ref 226), some (.int a1), some (.int a2), some (.int (((nI 1) <<< (r9 &&& 31)) - (nI 1))), none, none]) (by decide +kernel) (Nat.le_of_ble_eq_true rfl) rfl rfl ?_
        refine mV_iload_n (k := 3) (by decide +kernel) rfl ?_
        refine mV_istore (i := 4) (ls' := [some (.ref 226), some (.int a1), some (.int a2), some (.int (((nI 1) <<< (r9 &&& 31)) - (nI 1))), some (.int (((nI 1) <<< (r9 &&& 31)) - (nI 1))), none]) (by decide +kernel) (Nat.le_of_ble_eq_true rfl) rfl rfl ?_
        refine mV_iconst (n := 0) (v := nI 0) (by decide +kernel) (by decide) ?_
        refine mV_istore (i := 5) (ls' := [some (.ref 226), some (.int a1), some (.int a2), some (.int (((nI 1) <<< (r9 &&& 31)) - (nI 1))), some (.int (((nI 1) <<< (r9 &&& 31)) - (nI 1))), some (.int (nI 0))]) (by decide +kernel) (Nat.le_of_ble_eq_true rfl) rfl rfl ?_
        exact h
      · replace h := h.2 hc
        refine mV_bipush (n := -2) (v := (-2)) (by decide +kernel) (by decide) ?_
        exact mV_iret (by decide +kernel) rfl h
    · replace h := h.2 hc
      refine mV_iconst (n := -1) (v := (-1)) (by decide +kernel) (by decide) ?_
      exact mV_iret (by decide +kernel) rfl h
set_option maxRecDepth 100000 in
set_option maxHeartbeats 4000000 in
theorem p_X13_core_51 {l : Launch} {κ : mm_K} {d : Nat} {G : mm_G} {K : Int32 → mm_G → Prop} (v1 : Int32) (v2 : Int32) (v3 : Int32) (v4 : Int32) (v5 : Int32) (h : ((v3 < v5 → mV l κ true (d + 8) 0 0 m_X13_core 100 [some (.ref 226), some (.int v1), some (.int v2), some (.int v3), some (.int v4), some (.int (v4 - (nI 1)))] [] G (rI K)) ∧ (¬ v3 < v5 → vp_in (v3 &&& (v5 ^^^ (-1))) 4096 ∧ (((mg_i G 265 ((v3 &&& (v5 ^^^ (-1))).toNatClampNeg)) = 0 → mV l κ true (d + 8) 0 0 m_X13_core 51 [some (.ref 226), some (.int v1), some (.int v2), some (.int v3), some (.int v4), some (.int (v5 + (nI 1)))] [] G (rI K)) ∧ (¬ (mg_i G 265 ((v3 &&& (v5 ^^^ (-1))).toNatClampNeg)) = 0 → mC l κ true (d + 7) 0 0 m_X13_bits [.int v5] G (rI (fun r1 G2 => mC l κ true (d + 7) 0 0 m_X13_bits [.int v4] G2 (rI (fun r3 G4 => ((r3 ≤ r1 → mV l κ true (d + 8) 0 0 m_X13_core 51 [some (.ref 226), some (.int v1), some (.int v2), some (.int v3), some (.int v4), some (.int (v5 + (nI 1)))] [] G4 (rI K)) ∧ (¬ r3 ≤ r1 → mV l κ true (d + 8) 0 0 m_X13_core 51 [some (.ref 226), some (.int v1), some (.int v2), some (.int v3), some (.int v5), some (.int (v5 + (nI 1)))] [] G4 (rI K)))))))))))) : mV l κ true (d + 8) 0 0 m_X13_core 51 [some (.ref 226), some (.int v1), some (.int v2), some (.int v3), some (.int v4), some (.int v5)] [] G (rI K) := by
  refine mV_iload (i := 5) (by decide +kernel) rfl ?_
  refine mV_iload_n (k := 3) (by decide +kernel) rfl ?_
  refine mV_icmp_gt (off := 40) (tgt := 94) (by decide +kernel) (by decide) (fun hc => ?_) (fun hc => ?_)
  · replace h := h.1 hc
    refine mV_iload (i := 4) (by decide +kernel) rfl ?_
    refine mV_iconst (n := 1) (v := nI 1) (by decide +kernel) (by decide) ?_
    refine mV_isub (by decide +kernel) ?_
    refine mV_istore (i := 5) (ls' := [some (.ref 226), some (.int v1), some (.int v2), some (.int v3), some (.int v4), some (.int (v4 - (nI 1)))]) (by decide +kernel) (Nat.le_of_ble_eq_true rfl) rfl rfl ?_
    exact h
  · replace h := h.2 hc
    refine mV_aload_n (k := 0) (by decide +kernel) rfl ?_
    refine mV_gfr (r := some 265) (by decide +kernel) fk_13_133 sh_226 (mm_rrs st_226_62) rfl ?_
    refine mV_iload_n (k := 3) (by decide +kernel) rfl ?_
    refine mV_iload (i := 5) (by decide +kernel) rfl ?_
    refine mV_iconst (n := -1) (v := (-1)) (by decide +kernel) (by decide) ?_
    refine mV_ixor (by decide +kernel) ?_
    refine mV_iand (by decide +kernel) ?_
    refine mV_zalx (x := mg_i G 265 ((v3 &&& (v5 ^^^ (-1))).toNatClampNeg)) (by decide +kernel) sh_265 h.1 rfl ?_
    replace h := h.2
    refine mV_if_eq (off := 20) (tgt := 88) (by decide +kernel) (by decide) (fun hc => ?_) (fun hc => ?_)
    · replace h := h.1 hc
      refine mV_iincc (i := 5) (n := 1) (c := nI 1) (ls' := [some (.ref 226), some (.int v1), some (.int v2), some (.int v3), some (.int v4), some (.int (v5 + (nI 1)))]) (by decide +kernel) (by decide) rfl (Nat.le_of_ble_eq_true rfl) rfl rfl ?_
      refine mV_goto (off := -40) (tgt := 51) (by decide +kernel) (by decide) ?_
      exact h
    · replace h := h.2 hc
      refine mV_iload (i := 5) (by decide +kernel) rfl ?_
      refine mV_cS (as := [.int v5]) (rest := []) (mc1 := 0) (ms1 := 0) (mc := 0) (ms := 0) (by decide +kernel) md_X13_bits lk_13_426 rfl rfl (Nat.le_of_ble_eq_true rfl) (mC.mono (mm_contI (fun r1 G2 hK => ?_)) h)
      replace h := hK
      refine mV_iload (i := 4) (by decide +kernel) rfl ?_
      refine mV_cS (as := [.int v4]) (rest := [.int r1]) (mc1 := 0) (ms1 := 0) (mc := 0) (ms := 0) (by decide +kernel) md_X13_bits lk_13_426 rfl rfl (Nat.le_of_ble_eq_true rfl) (mC.mono (mm_contI (fun r3 G4 hK => ?_)) h)
      replace h := hK
      refine mV_icmp_ge (off := 7) (tgt := 88) (by decide +kernel) (by decide) (fun hc => ?_) (fun hc => ?_)
      · replace h := h.1 hc
        refine mV_iincc (i := 5) (n := 1) (c := nI 1) (ls' := [some (.ref 226), some (.int v1), some (.int v2), some (.int v3), some (.int v4), some (.int (v5 + (nI 1)))]) (by decide +kernel) (by decide) rfl (Nat.le_of_ble_eq_true rfl) rfl rfl ?_
        refine mV_goto (off := -40) (tgt := 51) (by decide +kernel) (by decide) ?_
        exact h
      · replace h := h.2 hc
        refine mV_iload (i := 5) (by decide +kernel) rfl ?_
        refine mV_istore (i := 4) (ls' := [some (.ref 226), some (.int v1), some (.int v2), some (.int v3), some (.int v5), some (.int v5)]) (by decide +kernel) (Nat.le_of_ble_eq_true rfl) rfl rfl ?_
        refine mV_iincc (i := 5) (n := 1) (c := nI 1) (ls' := [some (.ref 226), some (.int v1), some (.int v2), some (.int v3), some (.int v5), some (.int (v5 + (nI 1)))]) (by decide +kernel) (by decide) rfl (Nat.le_of_ble_eq_true rfl) rfl rfl ?_
        refine mV_goto (off := -40) (tgt := 51) (by decide +kernel) (by decide) ?_
        exact h
set_option maxRecDepth 100000 in
set_option maxHeartbeats 4000000 in
theorem p_X13_core_100 {l : Launch} {κ : mm_K} {d : Nat} {G : mm_G} {K : Int32 → mm_G → Prop} (v1 : Int32) (v2 : Int32) (v3 : Int32) (v4 : Int32) (v5 : Int32) (h : ((v5 < 0 → ((¬ v2 = 0 → K v4 G) ∧ (v2 = 0 → mC l κ true (d + 7) 0 0 m_X13_bits [.int v4] G (rI (fun r1 G2 => K r1 G2))))) ∧ (¬ v5 < 0 → vp_in (v3 &&& (v5 ^^^ (-1))) 4096 ∧ (((mg_i G 265 ((v3 &&& (v5 ^^^ (-1))).toNatClampNeg)) = 0 → mV l κ true (d + 8) 0 0 m_X13_core 100 [some (.ref 226), some (.int v1), some (.int v2), some (.int v3), some (.int v4), some (.int (v5 + (-1)))] [] G (rI K)) ∧ (¬ (mg_i G 265 ((v3 &&& (v5 ^^^ (-1))).toNatClampNeg)) = 0 → mC l κ true (d + 7) 0 0 m_X13_bits [.int v5] G (rI (fun r3 G4 => mC l κ true (d + 7) 0 0 m_X13_bits [.int v4] G4 (rI (fun r5 G6 => ((¬ r3 = r5 → mV l κ true (d + 8) 0 0 m_X13_core 100 [some (.ref 226), some (.int v1), some (.int v2), some (.int v3), some (.int v4), some (.int (v5 + (-1)))] [] G6 (rI K)) ∧ (r3 = r5 → mV l κ true (d + 8) 0 0 m_X13_core 100 [some (.ref 226), some (.int v1), some (.int v2), some (.int v3), some (.int v5), some (.int (v5 + (-1)))] [] G6 (rI K)))))))))))) : mV l κ true (d + 8) 0 0 m_X13_core 100 [some (.ref 226), some (.int v1), some (.int v2), some (.int v3), some (.int v4), some (.int v5)] [] G (rI K) := by
  refine mV_iload (i := 5) (by decide +kernel) rfl ?_
  refine mV_if_lt (off := 40) (tgt := 142) (by decide +kernel) (by decide) (fun hc => ?_) (fun hc => ?_)
  · replace h := h.1 hc
    refine mV_iload_n (k := 2) (by decide +kernel) rfl ?_
    refine mV_if_ne (off := 11) (tgt := 154) (by decide +kernel) (by decide) (fun hc => ?_) (fun hc => ?_)
    · replace h := h.1 hc
      refine mV_iload (i := 4) (by decide +kernel) rfl ?_
      exact mV_iret (by decide +kernel) rfl h
    · replace h := h.2 hc
      refine mV_iload (i := 4) (by decide +kernel) rfl ?_
      refine mV_cS (as := [.int v4]) (rest := []) (mc1 := 0) (ms1 := 0) (mc := 0) (ms := 0) (by decide +kernel) md_X13_bits lk_13_426 rfl rfl (Nat.le_of_ble_eq_true rfl) (mC.mono (mm_contI (fun r1 G2 hK => ?_)) h)
      replace h := hK
      refine mV_goto (off := 5) (tgt := 156) (by decide +kernel) (by decide) ?_
      exact mV_iret (by decide +kernel) rfl h
  · replace h := h.2 hc
    refine mV_aload_n (k := 0) (by decide +kernel) rfl ?_
    refine mV_gfr (r := some 265) (by decide +kernel) fk_13_133 sh_226 (mm_rrs st_226_62) rfl ?_
    refine mV_iload_n (k := 3) (by decide +kernel) rfl ?_
    refine mV_iload (i := 5) (by decide +kernel) rfl ?_
    refine mV_iconst (n := -1) (v := (-1)) (by decide +kernel) (by decide) ?_
    refine mV_ixor (by decide +kernel) ?_
    refine mV_iand (by decide +kernel) ?_
    refine mV_zalx (x := mg_i G 265 ((v3 &&& (v5 ^^^ (-1))).toNatClampNeg)) (by decide +kernel) sh_265 h.1 rfl ?_
    replace h := h.2
    refine mV_if_eq (off := 20) (tgt := 136) (by decide +kernel) (by decide) (fun hc => ?_) (fun hc => ?_)
    · replace h := h.1 hc
      refine mV_iincc (i := 5) (n := -1) (c := (-1)) (ls' := [some (.ref 226), some (.int v1), some (.int v2), some (.int v3), some (.int v4), some (.int (v5 + (-1)))]) (by decide +kernel) (by decide) rfl (Nat.le_of_ble_eq_true rfl) rfl rfl ?_
      refine mV_goto (off := -39) (tgt := 100) (by decide +kernel) (by decide) ?_
      exact h
    · replace h := h.2 hc
      refine mV_iload (i := 5) (by decide +kernel) rfl ?_
      refine mV_cS (as := [.int v5]) (rest := []) (mc1 := 0) (ms1 := 0) (mc := 0) (ms := 0) (by decide +kernel) md_X13_bits lk_13_426 rfl rfl (Nat.le_of_ble_eq_true rfl) (mC.mono (mm_contI (fun r3 G4 hK => ?_)) h)
      replace h := hK
      refine mV_iload (i := 4) (by decide +kernel) rfl ?_
      refine mV_cS (as := [.int v4]) (rest := [.int r3]) (mc1 := 0) (ms1 := 0) (mc := 0) (ms := 0) (by decide +kernel) md_X13_bits lk_13_426 rfl rfl (Nat.le_of_ble_eq_true rfl) (mC.mono (mm_contI (fun r5 G6 hK => ?_)) h)
      replace h := hK
      refine mV_icmp_ne (off := 7) (tgt := 136) (by decide +kernel) (by decide) (fun hc => ?_) (fun hc => ?_)
      · replace h := h.1 hc
        refine mV_iincc (i := 5) (n := -1) (c := (-1)) (ls' := [some (.ref 226), some (.int v1), some (.int v2), some (.int v3), some (.int v4), some (.int (v5 + (-1)))]) (by decide +kernel) (by decide) rfl (Nat.le_of_ble_eq_true rfl) rfl rfl ?_
        refine mV_goto (off := -39) (tgt := 100) (by decide +kernel) (by decide) ?_
        exact h
      · replace h := h.2 hc
        refine mV_iload (i := 5) (by decide +kernel) rfl ?_
        refine mV_istore (i := 4) (ls' := [some (.ref 226), some (.int v1), some (.int v2), some (.int v3), some (.int v5), some (.int v5)]) (by decide +kernel) (Nat.le_of_ble_eq_true rfl) rfl rfl ?_
        refine mV_iincc (i := 5) (n := -1) (c := (-1)) (ls' := [some (.ref 226), some (.int v1), some (.int v2), some (.int v3), some (.int v5), some (.int (v5 + (-1)))]) (by decide +kernel) (by decide) rfl (Nat.le_of_ble_eq_true rfl) rfl rfl ?_
        refine mV_goto (off := -39) (tgt := 100) (by decide +kernel) (by decide) ?_
        exact h
set_option maxRecDepth 100000 in
set_option maxHeartbeats 4000000 in
theorem e_X13_doesTable {l : Launch} {κ : mm_K} {d : Nat} {G : mm_G} {K : Int32 → mm_G → Prop}  (h : mV l κ true (d + 5) 0 0 m_X13_doesTable 2 [some (.ref 226), some (.int (nI 0)), none, none] [] G (rI K)) : mC l κ true (d + 5) 0 0 m_X13_doesTable [.ref 226] G (rI K) := by
  refine mC.of (by decide) (Nat.le_of_ble_eq_true rfl) [some (.ref 226), none, none, none] rfl ?_
  refine mV_iconst (n := 0) (v := nI 0) (by decide +kernel) (by decide) ?_
  refine mV_istore_n (k := 1) (ls' := [some (.ref 226), some (.int (nI 0)), none, none]) (by decide +kernel) (Nat.le_of_ble_eq_true rfl) rfl rfl ?_
  exact h
set_option maxRecDepth 100000 in
set_option maxHeartbeats 4000000 in
theorem p_X13_doesTable_2 {l : Launch} {κ : mm_K} {d : Nat} {G : mm_G} {K : Int32 → mm_G → Prop} (v1 : Int32) (h : vp_in (mg_i G 226 18) 2 ∧ (((mg_i G 249 ((mg_i G 226 18).toNatClampNeg)) ≤ v1 → K (nI 1) G) ∧ (¬ (mg_i G 249 ((mg_i G 226 18).toNatClampNeg)) ≤ v1 → vp_in (((nI 8) * (mg_i G 226 18)) + v1) 16 ∧ ((¬ (mg_i G 252 ((((nI 8) * (mg_i G 226 18)) + v1).toNatClampNeg)) = (-1) → mC l κ true (d + 4) 0 0 m_X13_runs [.ref 226, .int v1] G (rV (fun G2 => ((¬ (mg_i G2 226 55) = 0 → K (nI 0) G2) ∧ ((mg_i G2 226 55) = 0 → vp_in (((nI 8) * (mg_i G 226 18)) + v1) 16 ∧ (((mg_i G2 226 51) = (mg_i G2 252 ((((nI 8) * (mg_i G 226 18)) + v1).toNatClampNeg)) → mV l κ true (d + 5) 0 0 m_X13_doesTable 67 [some (.ref 226), some (.int v1), some (.int (((nI 8) * (mg_i G 226 18)) + v1)), some (.int (nI 0))] [] G2 (rI K)) ∧ (¬ (mg_i G2 226 51) = (mg_i G2 252 ((((nI 8) * (mg_i G 226 18)) + v1).toNatClampNeg)) → K (nI 0) G2))))))) ∧ ((mg_i G 252 ((((nI 8) * (mg_i G 226 18)) + v1).toNatClampNeg)) = (-1) → mV l κ true (d + 5) 0 0 m_X13_doesTable 2 [some (.ref 226), some (.int (v1 + (nI 1))), none, none] [] G (rI K)))))) : mV l κ true (d + 5) 0 0 m_X13_doesTable 2 [some (.ref 226), some (.int v1), none, none] [] G (rI K) := by
  refine mV_iload_n (k := 1) (by decide +kernel) rfl ?_
  refine mV_aload_n (k := 0) (by decide +kernel) rfl ?_
  refine mV_gfr (r := some 249) (by decide +kernel) fk_13_85 sh_226 (mm_rrs st_226_35) rfl ?_
  refine mV_aload_n (k := 0) (by decide +kernel) rfl ?_
  refine mV_gfix (x := mg_i G 226 18) (by decide +kernel) fk_13_266 sh_226 rfl ?_
  refine mV_ialx (x := mg_i G 249 ((mg_i G 226 18).toNatClampNeg)) (by decide +kernel) sh_249 h.1 rfl ?_
  replace h := h.2
  refine mV_icmp_ge (off := 97) (tgt := 109) (by decide +kernel) (by decide) (fun hc => ?_) (fun hc => ?_)
  · replace h := h.1 hc
    refine mV_iconst (n := 1) (v := nI 1) (by decide +kernel) (by decide) ?_
    exact mV_zret (by decide +kernel) rfl (by decide) h
  · replace h := h.2 hc
    refine mV_bipush (n := 8) (v := nI 8) (by decide +kernel) (by decide) ?_
    refine mV_aload_n (k := 0) (by decide +kernel) rfl ?_
    refine mV_gfix (x := mg_i G 226 18) (by decide +kernel) fk_13_266 sh_226 rfl ?_
    refine mV_imul (by decide +kernel) ?_
    refine mV_iload_n (k := 1) (by decide +kernel) rfl ?_
    refine mV_iadd (by decide +kernel) ?_
    refine mV_istore_n (k := 2) (ls' := [some (.ref 226), some (.int v1), some (.int (((nI 8) * (mg_i G 226 18)) + v1)), none]) (by decide +kernel) (Nat.le_of_ble_eq_true rfl) rfl rfl ?_
    refine mV_aload_n (k := 0) (by decide +kernel) rfl ?_
    refine mV_gfr (r := some 252) (by decide +kernel) fk_13_94 sh_226 (mm_rrs st_226_38) rfl ?_
    refine mV_iload_n (k := 2) (by decide +kernel) rfl ?_
    refine mV_ialx (x := mg_i G 252 ((((nI 8) * (mg_i G 226 18)) + v1).toNatClampNeg)) (by decide +kernel) sh_252 h.1 rfl ?_
    replace h := h.2
    refine mV_iconst (n := -1) (v := (-1)) (by decide +kernel) (by decide) ?_
    refine mV_icmp_ne (off := 6) (tgt := 38) (by decide +kernel) (by decide) (fun hc => ?_) (fun hc => ?_)
    · replace h := h.1 hc
      refine mV_aload_n (k := 0) (by decide +kernel) rfl ?_
      refine mV_iload_n (k := 1) (by decide +kernel) rfl ?_
      refine mV_cV (as := [.int v1]) (rest := []) (mc1 := 0) (ms1 := 0) (mc := 0) (ms := 0) (by decide +kernel) md_X13_runs lk_13_390 sh_226 rfl rfl rfl (Nat.le_of_ble_eq_true rfl) (mC.mono (mm_contV (fun G2 hK => ?_)) h)
      replace h := hK
      refine mV_aload_n (k := 0) (by decide +kernel) rfl ?_
      refine mV_gfix (x := mg_i G2 226 55) (by decide +kernel) fk_13_374 sh_226 rfl ?_
      refine mV_if_ne (off := 16) (tgt := 63) (by decide +kernel) (by decide) (fun hc => ?_) (fun hc => ?_)
      · replace h := h.1 hc
        refine mV_iconst (n := 0) (v := nI 0) (by decide +kernel) (by decide) ?_
        exact mV_zret (by decide +kernel) rfl (by decide) h
      · replace h := h.2 hc
        refine mV_aload_n (k := 0) (by decide +kernel) rfl ?_
        refine mV_gfix (x := mg_i G2 226 51) (by decide +kernel) fk_13_368 sh_226 rfl ?_
        refine mV_aload_n (k := 0) (by decide +kernel) rfl ?_
        refine mV_gfr (r := some 252) (by decide +kernel) fk_13_94 sh_226 (mm_rrs st_226_38) rfl ?_
        refine mV_iload_n (k := 2) (by decide +kernel) rfl ?_
        refine mV_ialx (x := mg_i G2 252 ((((nI 8) * (mg_i G 226 18)) + v1).toNatClampNeg)) (by decide +kernel) sh_252 h.1 rfl ?_
        replace h := h.2
        refine mV_icmp_eq (off := 5) (tgt := 65) (by decide +kernel) (by decide) (fun hc => ?_) (fun hc => ?_)
        · replace h := h.1 hc
          refine mV_iconst (n := 0) (v := nI 0) (by decide +kernel) (by decide) ?_
          refine mV_istore_n (k := 3) (ls' := [some (.ref 226), some (.int v1), some (.int (((nI 8) * (mg_i G 226 18)) + v1)), some (.int (nI 0))]) (by decide +kernel) (Nat.le_of_ble_eq_true rfl) rfl rfl ?_
          exact h
        · replace h := h.2 hc
          refine mV_iconst (n := 0) (v := nI 0) (by decide +kernel) (by decide) ?_
          exact mV_zret (by decide +kernel) rfl (by decide) h
    · replace h := h.2 hc
      refine mV_goto (off := 68) (tgt := 103) (by decide +kernel) (by decide) ?_
      refine mV_iincc (i := 1) (n := 1) (c := nI 1) (ls' := [some (.ref 226), some (.int (v1 + (nI 1))), some (.int (((nI 8) * (mg_i G 226 18)) + v1)), none]) (by decide +kernel) (by decide) rfl (Nat.le_of_ble_eq_true rfl) rfl rfl ?_
      refine mV_goto (off := -104) (tgt := 2) (by decide +kernel) (by decide) ?_
      refine mV_fg [2] (ls' := [some (.ref 226), some (.int (v1 + (nI 1))), none, none]) rfl ?_
      exact h
set_option maxRecDepth 100000 in
set_option maxHeartbeats 4000000 in
theorem p_X13_doesTable_67 {l : Launch} {κ : mm_K} {d : Nat} {G : mm_G} {K : Int32 → mm_G → Prop} (v1 : Int32) (v2 : Int32) (v3 : Int32) (h : (((mg_i G 226 51) ≤ v3 → mV l κ true (d + 5) 0 0 m_X13_doesTable 2 [some (.ref 226), some (.int (v1 + (nI 1))), none, none] [] G (rI K)) ∧ (¬ (mg_i G 226 51) ≤ v3 → vp_in v3 8 ∧ vp_in (((nI 8) * v2) + v3) 128 ∧ (((mg_i G 258 v3.toNatClampNeg) = (mg_i G 253 ((((nI 8) * v2) + v3).toNatClampNeg)) → mV l κ true (d + 5) 0 0 m_X13_doesTable 67 [some (.ref 226), some (.int v1), some (.int v2), some (.int (v3 + (nI 1)))] [] G (rI K)) ∧ (¬ (mg_i G 258 v3.toNatClampNeg) = (mg_i G 253 ((((nI 8) * v2) + v3).toNatClampNeg)) → K (nI 0) G))))) : mV l κ true (d + 5) 0 0 m_X13_doesTable 67 [some (.ref 226), some (.int v1), some (.int v2), some (.int v3)] [] G (rI K) := by
  refine mV_iload_n (k := 3) (by decide +kernel) rfl ?_
  refine mV_aload_n (k := 0) (by decide +kernel) rfl ?_
  refine mV_gfix (x := mg_i G 226 51) (by decide +kernel) fk_13_368 sh_226 rfl ?_
  refine mV_icmp_ge (off := 31) (tgt := 103) (by decide +kernel) (by decide) (fun hc => ?_) (fun hc => ?_)
  · replace h := h.1 hc
    refine mV_iincc (i := 1) (n := 1) (c := nI 1) (ls' := [some (.ref 226), some (.int (v1 + (nI 1))), some (.int v2), some (.int v3)]) (by decide +kernel) (by decide) rfl (Nat.le_of_ble_eq_true rfl) rfl rfl ?_
    refine mV_goto (off := -104) (tgt := 2) (by decide +kernel) (by decide) ?_
    refine mV_fg [2, 3] (ls' := [some (.ref 226), some (.int (v1 + (nI 1))), none, none]) rfl ?_
    exact h
  · replace h := h.2 hc
    refine mV_aload_n (k := 0) (by decide +kernel) rfl ?_
    refine mV_gfr (r := some 258) (by decide +kernel) fk_13_112 sh_226 (mm_rrs st_226_52) rfl ?_
    refine mV_iload_n (k := 3) (by decide +kernel) rfl ?_
    refine mV_ialx (x := mg_i G 258 v3.toNatClampNeg) (by decide +kernel) sh_258 h.1 rfl ?_
    replace h := h.2
    refine mV_aload_n (k := 0) (by decide +kernel) rfl ?_
    refine mV_gfr (r := some 253) (by decide +kernel) fk_13_97 sh_226 (mm_rrs st_226_39) rfl ?_
    refine mV_bipush (n := 8) (v := nI 8) (by decide +kernel) (by decide) ?_
    refine mV_iload_n (k := 2) (by decide +kernel) rfl ?_
    refine mV_imul (by decide +kernel) ?_
    refine mV_iload_n (k := 3) (by decide +kernel) rfl ?_
    refine mV_iadd (by decide +kernel) ?_
    refine mV_ialx (x := mg_i G 253 ((((nI 8) * v2) + v3).toNatClampNeg)) (by decide +kernel) sh_253 h.1 rfl ?_
    replace h := h.2
    refine mV_icmp_eq (off := 5) (tgt := 97) (by decide +kernel) (by decide) (fun hc => ?_) (fun hc => ?_)
    · replace h := h.1 hc
      refine mV_iincc (i := 3) (n := 1) (c := nI 1) (ls' := [some (.ref 226), some (.int v1), some (.int v2), some (.int (v3 + (nI 1)))]) (by decide +kernel) (by decide) rfl (Nat.le_of_ble_eq_true rfl) rfl rfl ?_
      refine mV_goto (off := -33) (tgt := 67) (by decide +kernel) (by decide) ?_
      exact h
    · replace h := h.2 hc
      refine mV_iconst (n := 0) (v := nI 0) (by decide +kernel) (by decide) ?_
      exact mV_zret (by decide +kernel) rfl (by decide) h
set_option maxRecDepth 100000 in
set_option maxHeartbeats 4000000 in
theorem e_X13_does {l : Launch} {κ : mm_K} {d : Nat} {G : mm_G} {K : Int32 → mm_G → Prop} (a1 : Int32) (a2 : Int32) (h : mC l κ true (d + 5) 0 0 m_X13_isLost [.ref 226, .int a1, .int a2] G (rI (fun r1 G2 => ((¬ r1 = 0 → mC l κ true (d + 5) 0 0 m_X13_takesRow [.ref 226, .int a1, .int a2] G2 (rV (fun G4 => mC l κ true (d + 5) 0 0 m_X13_doesTable [.ref 226] G4 (rI (fun r5 G6 => ((r5 = 0 → K (nI 0) G6) ∧ (¬ r5 = 0 → K (nI 1) G6))))))) ∧ (r1 = 0 → K (-1) G2))))) : mC l κ true (d + 6) 0 0 m_X13_does [.ref 226, .int a1, .int a2] G (rI K) := by
  refine mC.of (by decide) (Nat.le_of_ble_eq_true rfl) [some (.ref 226), some (.int a1), some (.int a2)] rfl ?_
  refine mV_aload_n (k := 0) (by decide +kernel) rfl ?_
  refine mV_iload_n (k := 1) (by decide +kernel) rfl ?_
  refine mV_iload_n (k := 2) (by decide +kernel) rfl ?_
  refine mV_cV (as := [.int a1, .int a2]) (rest := []) (mc1 := 0) (ms1 := 0) (mc := 0) (ms := 0) (by decide +kernel) md_X13_isLost lk_13_410 sh_226 rfl rfl rfl (Nat.le_of_ble_eq_true rfl) (mC.mono (mm_contI (fun r1 G2 hK => ?_)) h)
  replace h := hK
  refine mV_if_ne (off := 5) (tgt := 11) (by decide +kernel) (by decide) (fun hc => ?_) (fun hc => ?_)
  · replace h := h.1 hc
    refine mV_aload_n (k := 0) (by decide +kernel) rfl ?_
    refine mV_iload_n (k := 1) (by decide +kernel) rfl ?_
    refine mV_iload_n (k := 2) (by decide +kernel) rfl ?_
    refine mV_cV (as := [.int a1, .int a2]) (rest := []) (mc1 := 0) (ms1 := 0) (mc := 0) (ms := 0) (by decide +kernel) md_X13_takesRow lk_13_387 sh_226 rfl rfl rfl (Nat.le_of_ble_eq_true rfl) (mC.mono (mm_contV (fun G4 hK => ?_)) h)
    replace h := hK
    refine mV_aload_n (k := 0) (by decide +kernel) rfl ?_
    refine mV_cV (as := []) (rest := []) (mc1 := 0) (ms1 := 0) (mc := 0) (ms := 0) (by decide +kernel) md_X13_doesTable lk_13_474 sh_226 rfl rfl rfl (Nat.le_of_ble_eq_true rfl) (mC.mono (mm_contI (fun r5 G6 hK => ?_)) h)
    replace h := hK
    refine mV_if_eq (off := 7) (tgt := 28) (by decide +kernel) (by decide) (fun hc => ?_) (fun hc => ?_)
    · replace h := h.1 hc
      refine mV_iconst (n := 0) (v := nI 0) (by decide +kernel) (by decide) ?_
      exact mV_iret (by decide +kernel) rfl h
    · replace h := h.2 hc
      refine mV_iconst (n := 1) (v := nI 1) (by decide +kernel) (by decide) ?_
      refine mV_goto (off := 4) (tgt := 29) (by decide +kernel) (by decide) ?_
      exact mV_iret (by decide +kernel) rfl h
  · replace h := h.2 hc
    refine mV_iconst (n := -1) (v := (-1)) (by decide +kernel) (by decide) ?_
    exact mV_iret (by decide +kernel) rfl h
set_option maxRecDepth 100000 in
set_option maxHeartbeats 4000000 in
theorem e_X13_nextRow {l : Launch} {κ : mm_K} {d : Nat} {G : mm_G} {K : Int32 → mm_G → Prop} (a1 : Int32) (a2 : Int32) (h : mV l κ true (d + 1) 0 0 m_X13_nextRow 4 [some (.ref 226), some (.int a1), some (.int a2), some (.int (a2 - (nI 1)))] [] G (rI K)) : mC l κ true (d + 1) 0 0 m_X13_nextRow [.ref 226, .int a1, .int a2] G (rI K) := by
  refine mC.of (by decide) (Nat.le_of_ble_eq_true rfl) [some (.ref 226), some (.int a1), some (.int a2), none] rfl ?_
  refine mV_iload_n (k := 2) (by decide +kernel) rfl ?_
  refine mV_iconst (n := 1) (v := nI 1) (by decide +kernel) (by decide) ?_
  refine mV_isub (by decide +kernel) ?_
  refine mV_istore_n (k := 3) (ls' := [some (.ref 226), some (.int a1), some (.int a2), some (.int (a2 - (nI 1)))]) (by decide +kernel) (Nat.le_of_ble_eq_true rfl) rfl rfl ?_
  exact h
set_option maxRecDepth 100000 in
set_option maxHeartbeats 4000000 in
theorem p_X13_nextRow_4 {l : Launch} {κ : mm_K} {d : Nat} {G : mm_G} {K : Int32 → mm_G → Prop} (v1 : Int32) (v2 : Int32) (v3 : Int32) (h : ((v3 < 0 → ((0 ≤ v3 → vp_in v3 8 ∧ vp_in v3 8 ∧ K (nI 1) (ms_i G 267 v3.toNatClampNeg ((mg_i G 267 v3.toNatClampNeg) + (nI 1)))) ∧ (¬ 0 ≤ v3 → K (nI 0) G))) ∧ (¬ v3 < 0 → vp_in v3 8 ∧ mC l κ true d 0 0 m_X13_linesOf [.ref 226, .int v1] G (rI (fun r1 G2 => ((¬ (mg_i G 267 v3.toNatClampNeg) = (r1 - (nI 1)) → ((0 ≤ v3 → vp_in v3 8 ∧ vp_in v3 8 ∧ K (nI 1) (ms_i G2 267 v3.toNatClampNeg ((mg_i G2 267 v3.toNatClampNeg) + (nI 1)))) ∧ (¬ 0 ≤ v3 → K (nI 0) G2))) ∧ ((mg_i G 267 v3.toNatClampNeg) = (r1 - (nI 1)) → vp_in v3 8 ∧ mV l κ true (d + 1) 0 0 m_X13_nextRow 4 [some (.ref 226), some (.int v1), some (.int v2), some (.int (v3 + (-1)))] [] (ms_i G2 267 v3.toNatClampNeg (nI 0)) (rI K)))))))) : mV l κ true (d + 1) 0 0 m_X13_nextRow 4 [some (.ref 226), some (.int v1), some (.int v2), some (.int v3)] [] G (rI K) := by
  refine mV_iload_n (k := 3) (by decide +kernel) rfl ?_
  refine mV_if_lt (off := 32) (tgt := 37) (by decide +kernel) (by decide) (fun hc => ?_) (fun hc => ?_)
  · replace h := h.1 hc
    refine mV_iload_n (k := 3) (by decide +kernel) rfl ?_
    refine mV_if_ge (off := 5) (tgt := 43) (by decide +kernel) (by decide) (fun hc => ?_) (fun hc => ?_)
    · replace h := h.1 hc
      refine mV_aload_n (k := 0) (by decide +kernel) rfl ?_
      refine mV_gfr (r := some 267) (by decide +kernel) fk_13_140 sh_226 (mm_rrs st_226_64) rfl ?_
      refine mV_iload_n (k := 3) (by decide +kernel) rfl ?_
      refine mV_dup2 (by decide +kernel) rfl rfl ?_
      refine mV_ialx (x := mg_i G 267 v3.toNatClampNeg) (by decide +kernel) sh_267 h.1 rfl ?_
      replace h := h.2
      refine mV_iconst (n := 1) (v := nI 1) (by decide +kernel) (by decide) ?_
      refine mV_iadd (by decide +kernel) ?_
      refine mV_ias (by decide +kernel) sh_267 h.1 ?_
      replace h := h.2
      refine mV_iconst (n := 1) (v := nI 1) (by decide +kernel) (by decide) ?_
      exact mV_zret (by decide +kernel) rfl (by decide) h
    · replace h := h.2 hc
      refine mV_iconst (n := 0) (v := nI 0) (by decide +kernel) (by decide) ?_
      exact mV_zret (by decide +kernel) rfl (by decide) h
  · replace h := h.2 hc
    refine mV_aload_n (k := 0) (by decide +kernel) rfl ?_
    refine mV_gfr (r := some 267) (by decide +kernel) fk_13_140 sh_226 (mm_rrs st_226_64) rfl ?_
    refine mV_iload_n (k := 3) (by decide +kernel) rfl ?_
    refine mV_ialx (x := mg_i G 267 v3.toNatClampNeg) (by decide +kernel) sh_267 h.1 rfl ?_
    replace h := h.2
    refine mV_aload_n (k := 0) (by decide +kernel) rfl ?_
    refine mV_iload_n (k := 1) (by decide +kernel) rfl ?_
    refine mV_cV (as := [.int v1]) (rest := [.int (mg_i G 267 v3.toNatClampNeg)]) (mc1 := 0) (ms1 := 0) (mc := 0) (ms := 0) (by decide +kernel) md_X13_linesOf lk_13_337 sh_226 rfl rfl rfl (Nat.le_of_ble_eq_true rfl) (mC.mono (mm_contI (fun r1 G2 hK => ?_)) h)
    replace h := hK
    refine mV_iconst (n := 1) (v := nI 1) (by decide +kernel) (by decide) ?_
    refine mV_isub (by decide +kernel) ?_
    refine mV_icmp_ne (off := 16) (tgt := 37) (by decide +kernel) (by decide) (fun hc => ?_) (fun hc => ?_)
    · replace h := h.1 hc
      refine mV_iload_n (k := 3) (by decide +kernel) rfl ?_
      refine mV_if_ge (off := 5) (tgt := 43) (by decide +kernel) (by decide) (fun hc => ?_) (fun hc => ?_)
      · replace h := h.1 hc
        refine mV_aload_n (k := 0) (by decide +kernel) rfl ?_
        refine mV_gfr (r := some 267) (by decide +kernel) fk_13_140 sh_226 (mm_rrs st_226_64) rfl ?_
        refine mV_iload_n (k := 3) (by decide +kernel) rfl ?_
        refine mV_dup2 (by decide +kernel) rfl rfl ?_
        refine mV_ialx (x := mg_i G2 267 v3.toNatClampNeg) (by decide +kernel) sh_267 h.1 rfl ?_
        replace h := h.2
        refine mV_iconst (n := 1) (v := nI 1) (by decide +kernel) (by decide) ?_
        refine mV_iadd (by decide +kernel) ?_
        refine mV_ias (by decide +kernel) sh_267 h.1 ?_
        replace h := h.2
        refine mV_iconst (n := 1) (v := nI 1) (by decide +kernel) (by decide) ?_
        exact mV_zret (by decide +kernel) rfl (by decide) h
      · replace h := h.2 hc
        refine mV_iconst (n := 0) (v := nI 0) (by decide +kernel) (by decide) ?_
        exact mV_zret (by decide +kernel) rfl (by decide) h
    · replace h := h.2 hc
      refine mV_aload_n (k := 0) (by decide +kernel) rfl ?_
      refine mV_gfr (r := some 267) (by decide +kernel) fk_13_140 sh_226 (mm_rrs st_226_64) rfl ?_
      refine mV_iload_n (k := 3) (by decide +kernel) rfl ?_
      refine mV_iconst (n := 0) (v := nI 0) (by decide +kernel) (by decide) ?_
      refine mV_ias (by decide +kernel) sh_267 h.1 ?_
      replace h := h.2
      refine mV_iincc (i := 3) (n := -1) (c := (-1)) (ls' := [some (.ref 226), some (.int v1), some (.int v2), some (.int (v3 + (-1)))]) (by decide +kernel) (by decide) rfl (Nat.le_of_ble_eq_true rfl) rfl rfl ?_
      refine mV_goto (off := -30) (tgt := 4) (by decide +kernel) (by decide) ?_
      exact h
set_option maxRecDepth 100000 in
set_option maxHeartbeats 4000000 in
theorem e_X13_isIt {l : Launch} {κ : mm_K} {d : Nat} {G : mm_G} {K : Int32 → mm_G → Prop} (a1 : Int32) (a2 : Int32) (a3 : Int32) (h : mV l κ true (d + 6) 0 0 m_X13_isIt 18 [some (.ref 226), some (.int a1), some (.int a2), some (.int a3), some (.int (nI 0))] [] (ms_i (ms_i (ms_i G 226 46 a1) 226 45 a2) 226 47 (nI 0)) (rI K)) : mC l κ true (d + 6) 0 0 m_X13_isIt [.ref 226, .int a1, .int a2, .int a3] G (rI K) := by
  refine mC.of (by decide) (Nat.le_of_ble_eq_true rfl) [some (.ref 226), some (.int a1), some (.int a2), some (.int a3), none] rfl ?_
  refine mV_aload_n (k := 0) (by decide +kernel) rfl ?_
  refine mV_iload_n (k := 1) (by decide +kernel) rfl ?_
  refine mV_pfi (by decide +kernel) fk_13_334 sh_226 ?_
  refine mV_aload_n (k := 0) (by decide +kernel) rfl ?_
  refine mV_iload_n (k := 2) (by decide +kernel) rfl ?_
  refine mV_pfi (by decide +kernel) fk_13_340 sh_226 ?_
  refine mV_aload_n (k := 0) (by decide +kernel) rfl ?_
  refine mV_iconst (n := 0) (v := nI 0) (by decide +kernel) (by decide) ?_
  refine mV_pfi (by decide +kernel) fk_13_343 sh_226 ?_
  refine mV_iconst (n := 0) (v := nI 0) (by decide +kernel) (by decide) ?_
  refine mV_istore (i := 4) (ls' := [some (.ref 226), some (.int a1), some (.int a2), some (.int a3), some (.int (nI 0))]) (by decide +kernel) (Nat.le_of_ble_eq_true rfl) rfl rfl ?_
  exact h
set_option maxRecDepth 100000 in
set_option maxHeartbeats 4000000 in
theorem p_X13_isIt_18 {l : Launch} {κ : mm_K} {d : Nat} {G : mm_G} {K : Int32 → mm_G → Prop} (v1 : Int32) (v2 : Int32) (v3 : Int32) (v4 : Int32) (h : ((v2 ≤ v4 → mC l κ true (d + 5) 0 0 m_X13_doesTable [.ref 226] G (rI (fun r1 G2 => ((¬ r1 = 0 → mV l κ true (d + 6) 0 0 m_X13_isIt 75 [some (.ref 226), some (.int v1), some (.int v2), some (.int v3), some (.int (nI 0))] [] G2 (rI K)) ∧ (r1 = 0 → K (nI 0) G2))))) ∧ (¬ v2 ≤ v4 → vp_in v4 8 ∧ mC l κ true (d + 5) 0 0 m_X13_lineAt [.ref 226, .int v1, .int (mg_i G 267 v4.toNatClampNeg)] G (rI (fun r3 G4 => vp_in v4 20 ∧ vp_in v4 8 ∧ vp_in v4 20 ∧ mV l κ true (d + 6) 0 0 m_X13_isIt 18 [some (.ref 226), some (.int v1), some (.int v2), some (.int v3), some (.int (v4 + (nI 1)))] [] (ms_i (ms_i G4 255 v4.toNatClampNeg r3) 256 v4.toNatClampNeg (mg_i G4 267 v4.toNatClampNeg)) (rI K)))))) : mV l κ true (d + 6) 0 0 m_X13_isIt 18 [some (.ref 226), some (.int v1), some (.int v2), some (.int v3), some (.int v4)] [] G (rI K) := by
  refine mV_iload (i := 4) (by decide +kernel) rfl ?_
  refine mV_iload_n (k := 2) (by decide +kernel) rfl ?_
  refine mV_icmp_ge (off := 42) (tgt := 63) (by decide +kernel) (by decide) (fun hc => ?_) (fun hc => ?_)
  · replace h := h.1 hc
    refine mV_aload_n (k := 0) (by decide +kernel) rfl ?_
    refine mV_cV (as := []) (rest := []) (mc1 := 0) (ms1 := 0) (mc := 0) (ms := 0) (by decide +kernel) md_X13_doesTable lk_13_474 sh_226 rfl rfl rfl (Nat.le_of_ble_eq_true rfl) (mC.mono (mm_contI (fun r1 G2 hK => ?_)) h)
    replace h := hK
    refine mV_if_ne (off := 5) (tgt := 72) (by decide +kernel) (by decide) (fun hc => ?_) (fun hc => ?_)
    · replace h := h.1 hc
      refine mV_iconst (n := 0) (v := nI 0) (by decide +kernel) (by decide) ?_
      refine mV_istore (i := 4) (ls' := [some (.ref 226), some (.int v1), some (.int v2), some (.int v3), some (.int (nI 0))]) (by decide +kernel) (Nat.le_of_ble_eq_true rfl) rfl rfl ?_
      exact h
    · replace h := h.2 hc
      refine mV_iconst (n := 0) (v := nI 0) (by decide +kernel) (by decide) ?_
      exact mV_zret (by decide +kernel) rfl (by decide) h
  · replace h := h.2 hc
    refine mV_aload_n (k := 0) (by decide +kernel) rfl ?_
    refine mV_gfr (r := some 255) (by decide +kernel) fk_13_103 sh_226 (mm_rrs st_226_43) rfl ?_
    refine mV_iload (i := 4) (by decide +kernel) rfl ?_
    refine mV_aload_n (k := 0) (by decide +kernel) rfl ?_
    refine mV_iload_n (k := 1) (by decide +kernel) rfl ?_
    refine mV_aload_n (k := 0) (by decide +kernel) rfl ?_
    refine mV_gfr (r := some 267) (by decide +kernel) fk_13_140 sh_226 (mm_rrs st_226_64) rfl ?_
    refine mV_iload (i := 4) (by decide +kernel) rfl ?_
    refine mV_ialx (x := mg_i G 267 v4.toNatClampNeg) (by decide +kernel) sh_267 h.1 rfl ?_
    replace h := h.2
    refine mV_cV (as := [.int v1, .int (mg_i G 267 v4.toNatClampNeg)]) (rest := [.int v4, .ref 255]) (mc1 := 0) (ms1 := 0) (mc := 0) (ms := 0) (by decide +kernel) md_X13_lineAt lk_13_346 sh_226 rfl rfl rfl (Nat.le_of_ble_eq_true rfl) (mC.mono (mm_contI (fun r3 G4 hK => ?_)) h)
    replace h := hK
    refine mV_ias (by decide +kernel) sh_255 h.1 ?_
    replace h := h.2
    refine mV_aload_n (k := 0) (by decide +kernel) rfl ?_
    refine mV_gfr (r := some 256) (by decide +kernel) fk_13_106 sh_226 (mm_rrs st_226_44) rfl ?_
    refine mV_iload (i := 4) (by decide +kernel) rfl ?_
    refine mV_aload_n (k := 0) (by decide +kernel) rfl ?_
    refine mV_gfr (r := some 267) (by decide +kernel) fk_13_140 sh_226 (mm_rrs st_226_64) rfl ?_
    refine mV_iload (i := 4) (by decide +kernel) rfl ?_
    refine mV_ialx (x := mg_i G4 267 v4.toNatClampNeg) (by decide +kernel) sh_267 h.1 rfl ?_
    replace h := h.2
    refine mV_ias (by decide +kernel) sh_256 h.1 ?_
    replace h := h.2
    refine mV_iincc (i := 4) (n := 1) (c := nI 1) (ls' := [some (.ref 226), some (.int v1), some (.int v2), some (.int v3), some (.int (v4 + (nI 1)))]) (by decide +kernel) (by decide) rfl (Nat.le_of_ble_eq_true rfl) rfl rfl ?_
    refine mV_goto (off := -42) (tgt := 18) (by decide +kernel) (by decide) ?_
    exact h
set_option maxRecDepth 100000 in
set_option maxHeartbeats 4000000 in
theorem p_X13_isIt_75 {l : Launch} {κ : mm_K} {d : Nat} {G : mm_G} {K : Int32 → mm_G → Prop} (v1 : Int32) (v2 : Int32) (v3 : Int32) (v4 : Int32) (h : ((v2 ≤ v4 → K (nI 1) G) ∧ (¬ v2 ≤ v4 → ((¬ v3 = (nI 1) → K (nI 1) G) ∧ (v3 = (nI 1) → mC l κ true (d + 5) 0 0 m_X13_doesTable [.ref 226] (ms_i G 226 47 ((nI 1) <<< (v4 &&& 31))) (rI (fun r1 G2 => ((¬ r1 = 0 → mV l κ true (d + 6) 0 0 m_X13_isIt 75 [some (.ref 226), some (.int v1), some (.int v2), some (.int v3), some (.int (v4 + (nI 1)))] [] G2 (rI K)) ∧ (r1 = 0 → K (nI 0) G2))))))))) : mV l κ true (d + 6) 0 0 m_X13_isIt 75 [some (.ref 226), some (.int v1), some (.int v2), some (.int v3), some (.int v4)] [] G (rI K) := by
  refine mV_iload (i := 4) (by decide +kernel) rfl ?_
  refine mV_iload_n (k := 2) (by decide +kernel) rfl ?_
  refine mV_icmp_ge (off := 31) (tgt := 109) (by decide +kernel) (by decide) (fun hc => ?_) (fun hc => ?_)
  · replace h := h.1 hc
    refine mV_iconst (n := 1) (v := nI 1) (by decide +kernel) (by decide) ?_
    exact mV_zret (by decide +kernel) rfl (by decide) h
  · replace h := h.2 hc
    refine mV_iload_n (k := 3) (by decide +kernel) rfl ?_
    refine mV_iconst (n := 1) (v := nI 1) (by decide +kernel) (by decide) ?_
    refine mV_icmp_ne (off := 26) (tgt := 109) (by decide +kernel) (by decide) (fun hc => ?_) (fun hc => ?_)
    · replace h := h.1 hc
      refine mV_iconst (n := 1) (v := nI 1) (by decide +kernel) (by decide) ?_
      exact mV_zret (by decide +kernel) rfl (by decide) h
    · replace h := h.2 hc
      refine mV_aload_n (k := 0) (by decide +kernel) rfl ?_
      refine mV_iconst (n := 1) (v := nI 1) (by decide +kernel) (by decide) ?_
      refine mV_iload (i := 4) (by decide +kernel) rfl ?_
      refine mV_ishl (by decide +kernel) ?_
      refine mV_pfi (by decide +kernel) fk_13_343 sh_226 ?_
      refine mV_aload_n (k := 0) (by decide +kernel) rfl ?_
      refine mV_cV (as := []) (rest := []) (mc1 := 0) (ms1 := 0) (mc := 0) (ms := 0) (by decide +kernel) md_X13_doesTable lk_13_474 sh_226 rfl rfl rfl (Nat.le_of_ble_eq_true rfl) (mC.mono (mm_contI (fun r1 G2 hK => ?_)) h)
      replace h := hK
      refine mV_if_ne (off := 5) (tgt := 103) (by decide +kernel) (by decide) (fun hc => ?_) (fun hc => ?_)
      · replace h := h.1 hc
        refine mV_iincc (i := 4) (n := 1) (c := nI 1) (ls' := [some (.ref 226), some (.int v1), some (.int v2), some (.int v3), some (.int (v4 + (nI 1)))]) (by decide +kernel) (by decide) rfl (Nat.le_of_ble_eq_true rfl) rfl rfl ?_
        refine mV_goto (off := -31) (tgt := 75) (by decide +kernel) (by decide) ?_
        exact h
      · replace h := h.2 hc
        refine mV_iconst (n := 0) (v := nI 0) (by decide +kernel) (by decide) ?_
        exact mV_zret (by decide +kernel) rfl (by decide) h
set_option maxRecDepth 100000 in
set_option maxHeartbeats 4000000 in
theorem e_X13_seeks {l : Launch} {κ : mm_K} {d : Nat} {G : mm_G} {K : Int32 → mm_G → Prop} (a1 : Int32) (a2 : Int32) (a3 : Int32) (h : mV l κ true (d + 7) 0 0 m_X13_seeks 6 [some (.ref 226), some (.int a1), some (.int a2), some (.int a3), some (.int (nI 1)), some (.int (nI 0)), none] [] G (rI K)) : mC l κ true (d + 7) 0 0 m_X13_seeks [.ref 226, .int a1, .int a2, .int a3] G (rI K) := by
  refine mC.of (by decide) (Nat.le_of_ble_eq_true rfl) [some (.ref 226), some (.int a1), some (.int a2), some (.int a3), none, none, none] rfl ?_
  refine mV_iconst (n := 1) (v := nI 1) (by decide +kernel) (by decide) ?_
  refine mV_istore (i := 4) (ls' := [some (.ref 226), some (.int a1), some (.int a2), some (.int a3), some (.int (nI 1)), none, none]) (by decide +kernel) (Nat.le_of_ble_eq_true rfl) rfl rfl ?_
  refine mV_iconst (n := 0) (v := nI 0) (by decide +kernel) (by decide) ?_
  refine mV_istore (i := 5) (ls' := [some (.ref 226), some (.int a1), some (.int a2), some (.int a3), some (.int (nI 1)), some (.int (nI 0)), none]) (by decide +kernel) (Nat.le_of_ble_eq_true rfl) rfl rfl ?_
  exact h
set_option maxRecDepth 100000 in
set_option maxHeartbeats 4000000 in
theorem p_X13_seeks_6 {l : Launch} {κ : mm_K} {d : Nat} {G : mm_G} {K : Int32 → mm_G → Prop} (v1 : Int32) (v2 : Int32) (v3 : Int32) (v4 : Int32) (v5 : Int32) (h : ((v2 < v5 → K (-2) G) ∧ (¬ v2 < v5 → ((v5 ≤ 0 → ((v4 ≤ (nI 30000) → mV l κ true (d + 7) 0 0 m_X13_seeks 41 [some (.ref 226), some (.int v1), some (.int v2), some (.int v3), some (.int v4), some (.int v5), some (.int (nI 0))] [] G (rI K)) ∧ (¬ v4 ≤ (nI 30000) → K (-3) G))) ∧ (¬ v5 ≤ 0 → mC l κ true (d + 6) 0 0 m_X13_linesOf [.ref 226, .int v1] G (rI (fun r1 G2 => (((v4 * r1) ≤ (nI 30000) → mV l κ true (d + 7) 0 0 m_X13_seeks 41 [some (.ref 226), some (.int v1), some (.int v2), some (.int v3), some (.int (v4 * r1)), some (.int v5), some (.int (nI 0))] [] G2 (rI K)) ∧ (¬ (v4 * r1) ≤ (nI 30000) → K (-3) G2))))))))) : mV l κ true (d + 7) 0 0 m_X13_seeks 6 [some (.ref 226), some (.int v1), some (.int v2), some (.int v3), some (.int v4), some (.int v5), none] [] G (rI K) := by
  refine mV_iload (i := 5) (by decide +kernel) rfl ?_
  refine mV_iload_n (k := 2) (by decide +kernel) rfl ?_
  refine mV_icmp_gt (off := 102) (tgt := 111) (by decide +kernel) (by decide) (fun hc => ?_) (fun hc => ?_)
  · replace h := h.1 hc
    refine mV_bipush (n := -2) (v := (-2)) (by decide +kernel) (by decide) ?_
    exact mV_iret (by decide +kernel) rfl h
  · replace h := h.2 hc
    refine mV_iload (i := 5) (by decide +kernel) rfl ?_
    refine mV_if_le (off := 13) (tgt := 27) (by decide +kernel) (by decide) (fun hc => ?_) (fun hc => ?_)
    · replace h := h.1 hc
      refine mV_iload (i := 4) (by decide +kernel) rfl ?_
      refine mV_sipush (n := 30000) (v := nI 30000) (by decide +kernel) (by decide) ?_
      refine mV_icmp_le (off := 6) (tgt := 38) (by decide +kernel) (by decide) (fun hc => ?_) (fun hc => ?_)
      · replace h := h.1 hc
        refine mV_iconst (n := 0) (v := nI 0) (by decide +kernel) (by decide) ?_
        refine mV_istore (i := 6) (ls' := [some (.ref 226), some (.int v1), some (.int v2), some (.int v3), some (.int v4), some (.int v5), some (.int (nI 0))]) (by decide +kernel) (Nat.le_of_ble_eq_true rfl) rfl rfl ?_
        exact h
      · replace h := h.2 hc
        refine mV_bipush (n := -3) (v := (-3)) (by decide +kernel) (by decide) ?_
        exact mV_iret (by decide +kernel) rfl h
    · replace h := h.2 hc
      refine mV_iload (i := 4) (by decide +kernel) rfl ?_
      refine mV_aload_n (k := 0) (by decide +kernel) rfl ?_
      refine mV_iload_n (k := 1) (by decide +kernel) rfl ?_
      refine mV_cV (as := [.int v1]) (rest := [.int v4]) (mc1 := 0) (ms1 := 0) (mc := 0) (ms := 0) (by decide +kernel) md_X13_linesOf lk_13_337 sh_226 rfl rfl rfl (Nat.le_of_ble_eq_true rfl) (mC.mono (mm_contI (fun r1 G2 hK => ?_)) h)
      replace h := hK
      refine mV_imul (by decide +kernel) ?_
      refine mV_istore (i := 4) (ls' := [some (.ref 226), some (.int v1), some (.int v2), some (.int v3), some (.int (v4 * r1)), some (.int v5), none]) (by decide +kernel) (Nat.le_of_ble_eq_true rfl) rfl rfl ?_
      refine mV_iload (i := 4) (by decide +kernel) rfl ?_
      refine mV_sipush (n := 30000) (v := nI 30000) (by decide +kernel) (by decide) ?_
      refine mV_icmp_le (off := 6) (tgt := 38) (by decide +kernel) (by decide) (fun hc => ?_) (fun hc => ?_)
      · replace h := h.1 hc
        refine mV_iconst (n := 0) (v := nI 0) (by decide +kernel) (by decide) ?_
        refine mV_istore (i := 6) (ls' := [some (.ref 226), some (.int v1), some (.int v2), some (.int v3), some (.int (v4 * r1)), some (.int v5), some (.int (nI 0))]) (by decide +kernel) (Nat.le_of_ble_eq_true rfl) rfl rfl ?_
        exact h
      · replace h := h.2 hc
        refine mV_bipush (n := -3) (v := (-3)) (by decide +kernel) (by decide) ?_
        exact mV_iret (by decide +kernel) rfl h
set_option maxRecDepth 100000 in
set_option maxHeartbeats 4000000 in
theorem p_X13_seeks_41 {l : Launch} {κ : mm_K} {d : Nat} {G : mm_G} {K : Int32 → mm_G → Prop} (v1 : Int32) (v2 : Int32) (v3 : Int32) (v4 : Int32) (v5 : Int32) (v6 : Int32) (h : ((v5 ≤ v6 → ((v4 ≤ 0 → mV l κ true (d + 7) 0 0 m_X13_seeks 74 [some (.ref 226), some (.int v1), some (.int v2), some (.int v3), some (.int v4), some (.int v5), some (.int (nI 0))] [] G (rI K)) ∧ (¬ v4 ≤ 0 → mV l κ true (d + 7) 0 0 m_X13_seeks 74 [some (.ref 226), some (.int v1), some (.int v2), some (.int v3), some (.int v4), some (.int v5), some (.int (nI 1))] [] G (rI K)))) ∧ (¬ v5 ≤ v6 → vp_in v6 8 ∧ mV l κ true (d + 7) 0 0 m_X13_seeks 41 [some (.ref 226), some (.int v1), some (.int v2), some (.int v3), some (.int v4), some (.int v5), some (.int (v6 + (nI 1)))] [] (ms_i G 267 v6.toNatClampNeg (nI 0)) (rI K)))) : mV l κ true (d + 7) 0 0 m_X13_seeks 41 [some (.ref 226), some (.int v1), some (.int v2), some (.int v3), some (.int v4), some (.int v5), some (.int v6)] [] G (rI K) := by
  refine mV_iload (i := 6) (by decide +kernel) rfl ?_
  refine mV_iload (i := 5) (by decide +kernel) rfl ?_
  refine mV_icmp_ge (off := 17) (tgt := 62) (by decide +kernel) (by decide) (fun hc => ?_) (fun hc => ?_)
  · replace h := h.1 hc
    refine mV_iload (i := 4) (by decide +kernel) rfl ?_
    refine mV_if_le (off := 7) (tgt := 71) (by decide +kernel) (by decide) (fun hc => ?_) (fun hc => ?_)
    · replace h := h.1 hc
      refine mV_iconst (n := 0) (v := nI 0) (by decide +kernel) (by decide) ?_
      refine mV_istore (i := 6) (ls' := [some (.ref 226), some (.int v1), some (.int v2), some (.int v3), some (.int v4), some (.int v5), some (.int (nI 0))]) (by decide +kernel) (Nat.le_of_ble_eq_true rfl) rfl rfl ?_
      exact h
    · replace h := h.2 hc
      refine mV_iconst (n := 1) (v := nI 1) (by decide +kernel) (by decide) ?_
      refine mV_goto (off := 4) (tgt := 72) (by decide +kernel) (by decide) ?_
      refine mV_istore (i := 6) (ls' := [some (.ref 226), some (.int v1), some (.int v2), some (.int v3), some (.int v4), some (.int v5), some (.int (nI 1))]) (by decide +kernel) (Nat.le_of_ble_eq_true rfl) rfl rfl ?_
      exact h
  · replace h := h.2 hc
    refine mV_aload_n (k := 0) (by decide +kernel) rfl ?_
    refine mV_gfr (r := some 267) (by decide +kernel) fk_13_140 sh_226 (mm_rrs st_226_64) rfl ?_
    refine mV_iload (i := 6) (by decide +kernel) rfl ?_
    refine mV_iconst (n := 0) (v := nI 0) (by decide +kernel) (by decide) ?_
    refine mV_ias (by decide +kernel) sh_267 h.1 ?_
    replace h := h.2
    refine mV_iincc (i := 6) (n := 1) (c := nI 1) (ls' := [some (.ref 226), some (.int v1), some (.int v2), some (.int v3), some (.int v4), some (.int v5), some (.int (v6 + (nI 1)))]) (by decide +kernel) (by decide) rfl (Nat.le_of_ble_eq_true rfl) rfl rfl ?_
    refine mV_goto (off := -18) (tgt := 41) (by decide +kernel) (by decide) ?_
    exact h
set_option maxRecDepth 100000 in
set_option maxHeartbeats 4000000 in
theorem p_X13_seeks_74 {l : Launch} {κ : mm_K} {d : Nat} {G : mm_G} {K : Int32 → mm_G → Prop} (v1 : Int32) (v2 : Int32) (v3 : Int32) (v4 : Int32) (v5 : Int32) (v6 : Int32) (h : ((v6 = 0 → mV l κ true (d + 7) 0 0 m_X13_seeks 6 [some (.ref 226), some (.int v1), some (.int v2), some (.int v3), some (.int v4), some (.int (v5 + (nI 1))), none] [] G (rI K)) ∧ (¬ v6 = 0 → mC l κ true (d + 6) 0 0 m_X13_isIt [.ref 226, .int v1, .int v5, .int v3] G (rI (fun r1 G2 => ((r1 = 0 → mC l κ true (d + 6) 0 0 m_X13_nextRow [.ref 226, .int v1, .int v5] G2 (rI (fun r3 G4 => mV l κ true (d + 7) 0 0 m_X13_seeks 74 [some (.ref 226), some (.int v1), some (.int v2), some (.int v3), some (.int v4), some (.int v5), some (.int r3)] [] G4 (rI K)))) ∧ (¬ r1 = 0 → K v5 G2))))))) : mV l κ true (d + 7) 0 0 m_X13_seeks 74 [some (.ref 226), some (.int v1), some (.int v2), some (.int v3), some (.int v4), some (.int v5), some (.int v6)] [] G (rI K) := by
  refine mV_iload (i := 6) (by decide +kernel) rfl ?_
  refine mV_if_eq (off := 29) (tgt := 105) (by decide +kernel) (by decide) (fun hc => ?_) (fun hc => ?_)
  · replace h := h.1 hc
    refine mV_iincc (i := 5) (n := 1) (c := nI 1) (ls' := [some (.ref 226), some (.int v1), some (.int v2), some (.int v3), some (.int v4), some (.int (v5 + (nI 1))), some (.int v6)]) (by decide +kernel) (by decide) rfl (Nat.le_of_ble_eq_true rfl) rfl rfl ?_
    refine mV_goto (off := -102) (tgt := 6) (by decide +kernel) (by decide) ?_
    refine mV_fg [6] (ls' := [some (.ref 226), some (.int v1), some (.int v2), some (.int v3), some (.int v4), some (.int (v5 + (nI 1))), none]) rfl ?_
    exact h
  · replace h := h.2 hc
    refine mV_aload_n (k := 0) (by decide +kernel) rfl ?_
    refine mV_iload_n (k := 1) (by decide +kernel) rfl ?_
    refine mV_iload (i := 5) (by decide +kernel) rfl ?_
    refine mV_iload_n (k := 3) (by decide +kernel) rfl ?_
    refine mV_cV (as := [.int v1, .int v5, .int v3]) (rest := []) (mc1 := 0) (ms1 := 0) (mc := 0) (ms := 0) (by decide +kernel) md_X13_isIt lk_13_477 sh_226 rfl rfl rfl (Nat.le_of_ble_eq_true rfl) (mC.mono (mm_contI (fun r1 G2 hK => ?_)) h)
    replace h := hK
    refine mV_if_eq (off := 6) (tgt := 93) (by decide +kernel) (by decide) (fun hc => ?_) (fun hc => ?_)
    · replace h := h.1 hc
      refine mV_aload_n (k := 0) (by decide +kernel) rfl ?_
      refine mV_iload_n (k := 1) (by decide +kernel) rfl ?_
      refine mV_iload (i := 5) (by decide +kernel) rfl ?_
      refine mV_cV (as := [.int v1, .int v5]) (rest := []) (mc1 := 0) (ms1 := 0) (mc := 0) (ms := 0) (by decide +kernel) md_X13_nextRow lk_13_480 sh_226 rfl rfl rfl (Nat.le_of_ble_eq_true rfl) (mC.mono (mm_contI (fun r3 G4 hK => ?_)) h)
      replace h := hK
      refine mV_istore (i := 6) (ls' := [some (.ref 226), some (.int v1), some (.int v2), some (.int v3), some (.int v4), some (.int v5), some (.int r3)]) (by decide +kernel) (Nat.le_of_ble_eq_true rfl) rfl rfl ?_
      refine mV_goto (off := -28) (tgt := 74) (by decide +kernel) (by decide) ?_
      exact h
    · replace h := h.2 hc
      refine mV_iload (i := 5) (by decide +kernel) rfl ?_
      exact mV_iret (by decide +kernel) rfl h
set_option maxRecDepth 100000 in
set_option maxHeartbeats 4000000 in
theorem e_X13_canSeek {l : Launch} {κ : mm_K} {d : Nat} {G : mm_G} {K : Int32 → mm_G → Prop} (a1 : Int32) (a2 : Int32) (a3 : Int32) (h : mC l κ true (d + 1) 0 0 m_X13_isRow [.ref 226, .int a1] G (rI (fun r1 G2 => ((r1 = 0 → K (nI 0) G2) ∧ (¬ r1 = 0 → mC l κ true (d + 1) 0 0 m_X13_in [.int a2, .int (nI 0), .int (nI 5)] G2 (rI (fun r3 G4 => ((r3 = 0 → K (nI 0) G4) ∧ (¬ r3 = 0 → mC l κ true (d + 1) 0 0 m_X13_in [.int a3, .int (nI 0), .int (nI 1)] G4 (rI (fun r5 G6 => ((r5 = 0 → K (nI 0) G6) ∧ (¬ r5 = 0 → K (nI 1) G6))))))))))))) : mC l κ true (d + 2) 0 0 m_X13_canSeek [.ref 226, .int a1, .int a2, .int a3] G (rI K) := by
  refine mC.of (by decide) (Nat.le_of_ble_eq_true rfl) [some (.ref 226), some (.int a1), some (.int a2), some (.int a3)] rfl ?_
  refine mV_aload_n (k := 0) (by decide +kernel) rfl ?_
  refine mV_iload_n (k := 1) (by decide +kernel) rfl ?_
  refine mV_cV (as := [.int a1]) (rest := []) (mc1 := 0) (ms1 := 0) (mc := 0) (ms := 0) (by decide +kernel) md_X13_isRow lk_13_403 sh_226 rfl rfl rfl (Nat.le_of_ble_eq_true rfl) (mC.mono (mm_contI (fun r1 G2 hK => ?_)) h)
  replace h := hK
  refine mV_if_eq (off := 25) (tgt := 30) (by decide +kernel) (by decide) (fun hc => ?_) (fun hc => ?_)
  · replace h := h.1 hc
    refine mV_iconst (n := 0) (v := nI 0) (by decide +kernel) (by decide) ?_
    exact mV_zret (by decide +kernel) rfl (by decide) h
  · replace h := h.2 hc
    refine mV_iload_n (k := 2) (by decide +kernel) rfl ?_
    refine mV_iconst (n := 0) (v := nI 0) (by decide +kernel) (by decide) ?_
    refine mV_iconst (n := 5) (v := nI 5) (by decide +kernel) (by decide) ?_
    refine mV_cS (as := [.int a2, .int (nI 0), .int (nI 5)]) (rest := []) (mc1 := 0) (ms1 := 0) (mc := 0) (ms := 0) (by decide +kernel) md_X13_in lk_13_399 rfl rfl (Nat.le_of_ble_eq_true rfl) (mC.mono (mm_contI (fun r3 G4 hK => ?_)) h)
    replace h := hK
    refine mV_if_eq (off := 16) (tgt := 30) (by decide +kernel) (by decide) (fun hc => ?_) (fun hc => ?_)
    · replace h := h.1 hc
      refine mV_iconst (n := 0) (v := nI 0) (by decide +kernel) (by decide) ?_
      exact mV_zret (by decide +kernel) rfl (by decide) h
    · replace h := h.2 hc
      refine mV_iload_n (k := 3) (by decide +kernel) rfl ?_
      refine mV_iconst (n := 0) (v := nI 0) (by decide +kernel) (by decide) ?_
      refine mV_iconst (n := 1) (v := nI 1) (by decide +kernel) (by decide) ?_
      refine mV_cS (as := [.int a3, .int (nI 0), .int (nI 1)]) (rest := []) (mc1 := 0) (ms1 := 0) (mc := 0) (ms := 0) (by decide +kernel) md_X13_in lk_13_399 rfl rfl (Nat.le_of_ble_eq_true rfl) (mC.mono (mm_contI (fun r5 G6 hK => ?_)) h)
      replace h := hK
      refine mV_if_eq (off := 7) (tgt := 30) (by decide +kernel) (by decide) (fun hc => ?_) (fun hc => ?_)
      · replace h := h.1 hc
        refine mV_iconst (n := 0) (v := nI 0) (by decide +kernel) (by decide) ?_
        exact mV_zret (by decide +kernel) rfl (by decide) h
      · replace h := h.2 hc
        refine mV_iconst (n := 1) (v := nI 1) (by decide +kernel) (by decide) ?_
        refine mV_goto (off := 4) (tgt := 31) (by decide +kernel) (by decide) ?_
        exact mV_zret (by decide +kernel) rfl (by decide) h
set_option maxRecDepth 100000 in
set_option maxHeartbeats 4000000 in
theorem e_X13_sought {l : Launch} {κ : mm_K} {d : Nat} {G : mm_G} {K : Int32 → mm_G → Prop} (a1 : Int32) (a2 : Int32) (a3 : Int32) (h : mC l κ true (d + 7) 0 0 m_X13_canSeek [.ref 226, .int a1, .int a2, .int a3] G (rI (fun r1 G2 => ((r1 = 0 → K (-1) G2) ∧ (¬ r1 = 0 → mC l κ true (d + 7) 0 0 m_X13_seeks [.ref 226, .int a1, .int a2, .int a3] G2 (rI (fun r3 G4 => K r3 G4))))))) : mC l κ true (d + 8) 0 0 m_X13_sought [.ref 226, .int a1, .int a2, .int a3] G (rI K) := by
  refine mC.of (by decide) (Nat.le_of_ble_eq_true rfl) [some (.ref 226), some (.int a1), some (.int a2), some (.int a3)] rfl ?_
  refine mV_aload_n (k := 0) (by decide +kernel) rfl ?_
  refine mV_iload_n (k := 1) (by decide +kernel) rfl ?_
  refine mV_iload_n (k := 2) (by decide +kernel) rfl ?_
  refine mV_iload_n (k := 3) (by decide +kernel) rfl ?_
  refine mV_cV (as := [.int a1, .int a2, .int a3]) (rest := []) (mc1 := 0) (ms1 := 0) (mc := 0) (ms := 0) (by decide +kernel) md_X13_canSeek lk_13_483 sh_226 rfl rfl rfl (Nat.le_of_ble_eq_true rfl) (mC.mono (mm_contI (fun r1 G2 hK => ?_)) h)
  replace h := hK
  refine mV_if_eq (off := 13) (tgt := 20) (by decide +kernel) (by decide) (fun hc => ?_) (fun hc => ?_)
  · replace h := h.1 hc
    refine mV_iconst (n := -1) (v := (-1)) (by decide +kernel) (by decide) ?_
    exact mV_iret (by decide +kernel) rfl h
  · replace h := h.2 hc
    refine mV_aload_n (k := 0) (by decide +kernel) rfl ?_
    refine mV_iload_n (k := 1) (by decide +kernel) rfl ?_
    refine mV_iload_n (k := 2) (by decide +kernel) rfl ?_
    refine mV_iload_n (k := 3) (by decide +kernel) rfl ?_
    refine mV_cV (as := [.int a1, .int a2, .int a3]) (rest := []) (mc1 := 0) (ms1 := 0) (mc := 0) (ms := 0) (by decide +kernel) md_X13_seeks lk_13_486 sh_226 rfl rfl rfl (Nat.le_of_ble_eq_true rfl) (mC.mono (mm_contI (fun r3 G4 hK => ?_)) h)
    replace h := hK
    refine mV_goto (off := 4) (tgt := 21) (by decide +kernel) (by decide) ?_
    exact mV_iret (by decide +kernel) rfl h
set_option maxRecDepth 100000 in
set_option maxHeartbeats 4000000 in
theorem e_X13_soughtAt {l : Launch} {κ : mm_K} {d : Nat} {G : mm_G} {K : Int32 → mm_G → Prop} (a1 : Int32) (a2 : Int32) (a3 : Int32) (a4 : Int32) (h : mC l κ true (d + 7) 0 0 m_X13_canSeek [.ref 226, .int a1, .int a2, .int a3] G (rI (fun r1 G2 => ((r1 = 0 → K (-1) G2) ∧ (¬ r1 = 0 → ((0 ≤ a4 → mC l κ true (d + 7) 0 0 m_X13_seeks [.ref 226, .int a1, .int a2, .int a3] G2 (rI (fun r3 G4 => ((r3 ≤ a4 → K (-1) G4) ∧ (¬ r3 ≤ a4 → vp_in a4 8 ∧ K (mg_i G4 267 a4.toNatClampNeg) G4))))) ∧ (¬ 0 ≤ a4 → K (-1) G2))))))) : mC l κ true (d + 8) 0 0 m_X13_soughtAt [.ref 226, .int a1, .int a2, .int a3, .int a4] G (rI K) := by
  refine mC.of (by decide) (Nat.le_of_ble_eq_true rfl) [some (.ref 226), some (.int a1), some (.int a2), some (.int a3), some (.int a4), none] rfl ?_
  refine mV_aload_n (k := 0) (by decide +kernel) rfl ?_
  refine mV_iload_n (k := 1) (by decide +kernel) rfl ?_
  refine mV_iload_n (k := 2) (by decide +kernel) rfl ?_
  refine mV_iload_n (k := 3) (by decide +kernel) rfl ?_
  refine mV_cV (as := [.int a1, .int a2, .int a3]) (rest := []) (mc1 := 0) (ms1 := 0) (mc := 0) (ms := 0) (by decide +kernel) md_X13_canSeek lk_13_483 sh_226 rfl rfl rfl (Nat.le_of_ble_eq_true rfl) (mC.mono (mm_contI (fun r1 G2 hK => ?_)) h)
  replace h := hK
  refine mV_if_eq (off := 8) (tgt := 15) (by decide +kernel) (by decide) (fun hc => ?_) (fun hc => ?_)
  · replace h := h.1 hc
    refine mV_iconst (n := -1) (v := (-1)) (by decide +kernel) (by decide) ?_
    exact mV_iret (by decide +kernel) rfl h
  · replace h := h.2 hc
    refine mV_iload (i := 4) (by decide +kernel) rfl ?_
    refine mV_if_ge (off := 5) (tgt := 17) (by decide +kernel) (by decide) (fun hc => ?_) (fun hc => ?_)
    · replace h := h.1 hc
      refine mV_aload_n (k := 0) (by decide +kernel) rfl ?_
      refine mV_iload_n (k := 1) (by decide +kernel) rfl ?_
      refine mV_iload_n (k := 2) (by decide +kernel) rfl ?_
      refine mV_iload_n (k := 3) (by decide +kernel) rfl ?_
      refine mV_cV (as := [.int a1, .int a2, .int a3]) (rest := []) (mc1 := 0) (ms1 := 0) (mc := 0) (ms := 0) (by decide +kernel) md_X13_seeks lk_13_486 sh_226 rfl rfl rfl (Nat.le_of_ble_eq_true rfl) (mC.mono (mm_contI (fun r3 G4 hK => ?_)) h)
      replace h := hK
      refine mV_istore (i := 5) (ls' := [some (.ref 226), some (.int a1), some (.int a2), some (.int a3), some (.int a4), some (.int r3)]) (by decide +kernel) (Nat.le_of_ble_eq_true rfl) rfl rfl ?_
      refine mV_iload (i := 4) (by decide +kernel) rfl ?_
      refine mV_iload (i := 5) (by decide +kernel) rfl ?_
      refine mV_icmp_ge (off := 13) (tgt := 43) (by decide +kernel) (by decide) (fun hc => ?_) (fun hc => ?_)
      · replace h := h.1 hc
        refine mV_iconst (n := -1) (v := (-1)) (by decide +kernel) (by decide) ?_
        exact mV_iret (by decide +kernel) rfl h
      · replace h := h.2 hc
        refine mV_aload_n (k := 0) (by decide +kernel) rfl ?_
        refine mV_gfr (r := some 267) (by decide +kernel) fk_13_140 sh_226 (mm_rrs st_226_64) rfl ?_
        refine mV_iload (i := 4) (by decide +kernel) rfl ?_
        refine mV_ialx (x := mg_i G4 267 a4.toNatClampNeg) (by decide +kernel) sh_267 h.1 rfl ?_
        replace h := h.2
        refine mV_goto (off := 4) (tgt := 44) (by decide +kernel) (by decide) ?_
        exact mV_iret (by decide +kernel) rfl h
    · replace h := h.2 hc
      refine mV_iconst (n := -1) (v := (-1)) (by decide +kernel) (by decide) ?_
      exact mV_iret (by decide +kernel) rfl h
set_option maxRecDepth 100000 in
set_option maxHeartbeats 4000000 in
theorem e_X13_copiesLine {l : Launch} {κ : mm_K} {d : Nat} {G : mm_G} {K : mm_G → Prop} (a1 : Int32) (a2 : Int32) (h : vp_in a1 320 ∧ vp_in a2 320 ∧ vp_in a1 320 ∧ vp_in a2 320 ∧ vp_in a1 320 ∧ vp_in a2 320 ∧ vp_in a1 320 ∧ vp_in a2 320 ∧ vp_in a1 320 ∧ vp_in a2 320 ∧ vp_in a1 320 ∧ vp_in a2 320 ∧ vp_in a1 320 ∧ vp_in a2 320 ∧ vp_in a1 320 ∧ vp_in a2 320 ∧ vp_in a1 320 ∧ vp_in a2 320 ∧ vp_in a1 320 ∧ vp_in a2 320 ∧ vp_in a1 320 ∧ vp_in a2 320 ∧ K (ms_l (ms_l (ms_i (ms_i (ms_i (ms_i (ms_i (ms_i (ms_i (ms_i (ms_i G 237 a2.toNatClampNeg (mg_i G 237 a1.toNatClampNeg)) 238 a2.toNatClampNeg (mg_i G 238 a1.toNatClampNeg)) 239 a2.toNatClampNeg (mg_i G 239 a1.toNatClampNeg)) 240 a2.toNatClampNeg (mg_i G 240 a1.toNatClampNeg)) 241 a2.toNatClampNeg (mg_i G 241 a1.toNatClampNeg)) 242 a2.toNatClampNeg (mg_i G 242 a1.toNatClampNeg)) 243 a2.toNatClampNeg (mg_i G 243 a1.toNatClampNeg)) 244 a2.toNatClampNeg (mg_i G 244 a1.toNatClampNeg)) 245 a2.toNatClampNeg (mg_i G 245 a1.toNatClampNeg)) 246 a2.toNatClampNeg (mg_l G 246 a1.toNatClampNeg)) 247 a2.toNatClampNeg (mg_l G 247 a1.toNatClampNeg))) : mC l κ true d 0 0 m_X13_copiesLine [.ref 226, .int a1, .int a2] G (rV K) := by
  refine mC.of (by decide) (Nat.le_of_ble_eq_true rfl) [some (.ref 226), some (.int a1), some (.int a2)] rfl ?_
  refine mV_aload_n (k := 0) (by decide +kernel) rfl ?_
  refine mV_gfr (r := some 237) (by decide +kernel) fk_13_49 sh_226 (mm_rrs st_226_23) rfl ?_
  refine mV_iload_n (k := 2) (by decide +kernel) rfl ?_
  refine mV_aload_n (k := 0) (by decide +kernel) rfl ?_
  refine mV_gfr (r := some 237) (by decide +kernel) fk_13_49 sh_226 (mm_rrs st_226_23) rfl ?_
  refine mV_iload_n (k := 1) (by decide +kernel) rfl ?_
  refine mV_ialx (x := mg_i G 237 a1.toNatClampNeg) (by decide +kernel) sh_237 h.1 rfl ?_
  replace h := h.2
  refine mV_ias (by decide +kernel) sh_237 h.1 ?_
  replace h := h.2
  refine mV_aload_n (k := 0) (by decide +kernel) rfl ?_
  refine mV_gfr (r := some 238) (by decide +kernel) fk_13_52 sh_226 (mm_rrs st_226_24) rfl ?_
  refine mV_iload_n (k := 2) (by decide +kernel) rfl ?_
  refine mV_aload_n (k := 0) (by decide +kernel) rfl ?_
  refine mV_gfr (r := some 238) (by decide +kernel) fk_13_52 sh_226 (mm_rrs st_226_24) rfl ?_
  refine mV_iload_n (k := 1) (by decide +kernel) rfl ?_
  refine mV_ialx (x := mg_i G 238 a1.toNatClampNeg) (by decide +kernel) sh_238 h.1 rfl ?_
  replace h := h.2
  refine mV_ias (by decide +kernel) sh_238 h.1 ?_
  replace h := h.2
  refine mV_aload_n (k := 0) (by decide +kernel) rfl ?_
  refine mV_gfr (r := some 239) (by decide +kernel) fk_13_55 sh_226 (mm_rrs st_226_25) rfl ?_
  refine mV_iload_n (k := 2) (by decide +kernel) rfl ?_
  refine mV_aload_n (k := 0) (by decide +kernel) rfl ?_
  refine mV_gfr (r := some 239) (by decide +kernel) fk_13_55 sh_226 (mm_rrs st_226_25) rfl ?_
  refine mV_iload_n (k := 1) (by decide +kernel) rfl ?_
  refine mV_ialx (x := mg_i G 239 a1.toNatClampNeg) (by decide +kernel) sh_239 h.1 rfl ?_
  replace h := h.2
  refine mV_ias (by decide +kernel) sh_239 h.1 ?_
  replace h := h.2
  refine mV_aload_n (k := 0) (by decide +kernel) rfl ?_
  refine mV_gfr (r := some 240) (by decide +kernel) fk_13_58 sh_226 (mm_rrs st_226_26) rfl ?_
  refine mV_iload_n (k := 2) (by decide +kernel) rfl ?_
  refine mV_aload_n (k := 0) (by decide +kernel) rfl ?_
  refine mV_gfr (r := some 240) (by decide +kernel) fk_13_58 sh_226 (mm_rrs st_226_26) rfl ?_
  refine mV_iload_n (k := 1) (by decide +kernel) rfl ?_
  refine mV_ialx (x := mg_i G 240 a1.toNatClampNeg) (by decide +kernel) sh_240 h.1 rfl ?_
  replace h := h.2
  refine mV_ias (by decide +kernel) sh_240 h.1 ?_
  replace h := h.2
  refine mV_aload_n (k := 0) (by decide +kernel) rfl ?_
  refine mV_gfr (r := some 241) (by decide +kernel) fk_13_61 sh_226 (mm_rrs st_226_27) rfl ?_
  refine mV_iload_n (k := 2) (by decide +kernel) rfl ?_
  refine mV_aload_n (k := 0) (by decide +kernel) rfl ?_
  refine mV_gfr (r := some 241) (by decide +kernel) fk_13_61 sh_226 (mm_rrs st_226_27) rfl ?_
  refine mV_iload_n (k := 1) (by decide +kernel) rfl ?_
  refine mV_ialx (x := mg_i G 241 a1.toNatClampNeg) (by decide +kernel) sh_241 h.1 rfl ?_
  replace h := h.2
  refine mV_ias (by decide +kernel) sh_241 h.1 ?_
  replace h := h.2
  refine mV_aload_n (k := 0) (by decide +kernel) rfl ?_
  refine mV_gfr (r := some 242) (by decide +kernel) fk_13_64 sh_226 (mm_rrs st_226_28) rfl ?_
  refine mV_iload_n (k := 2) (by decide +kernel) rfl ?_
  refine mV_aload_n (k := 0) (by decide +kernel) rfl ?_
  refine mV_gfr (r := some 242) (by decide +kernel) fk_13_64 sh_226 (mm_rrs st_226_28) rfl ?_
  refine mV_iload_n (k := 1) (by decide +kernel) rfl ?_
  refine mV_ialx (x := mg_i G 242 a1.toNatClampNeg) (by decide +kernel) sh_242 h.1 rfl ?_
  replace h := h.2
  refine mV_ias (by decide +kernel) sh_242 h.1 ?_
  replace h := h.2
  refine mV_aload_n (k := 0) (by decide +kernel) rfl ?_
  refine mV_gfr (r := some 243) (by decide +kernel) fk_13_67 sh_226 (mm_rrs st_226_29) rfl ?_
  refine mV_iload_n (k := 2) (by decide +kernel) rfl ?_
  refine mV_aload_n (k := 0) (by decide +kernel) rfl ?_
  refine mV_gfr (r := some 243) (by decide +kernel) fk_13_67 sh_226 (mm_rrs st_226_29) rfl ?_
  refine mV_iload_n (k := 1) (by decide +kernel) rfl ?_
  refine mV_ialx (x := mg_i G 243 a1.toNatClampNeg) (by decide +kernel) sh_243 h.1 rfl ?_
  replace h := h.2
  refine mV_ias (by decide +kernel) sh_243 h.1 ?_
  replace h := h.2
  refine mV_aload_n (k := 0) (by decide +kernel) rfl ?_
  refine mV_gfr (r := some 244) (by decide +kernel) fk_13_70 sh_226 (mm_rrs st_226_30) rfl ?_
  refine mV_iload_n (k := 2) (by decide +kernel) rfl ?_
  refine mV_aload_n (k := 0) (by decide +kernel) rfl ?_
  refine mV_gfr (r := some 244) (by decide +kernel) fk_13_70 sh_226 (mm_rrs st_226_30) rfl ?_
  refine mV_iload_n (k := 1) (by decide +kernel) rfl ?_
  refine mV_ialx (x := mg_i G 244 a1.toNatClampNeg) (by decide +kernel) sh_244 h.1 rfl ?_
  replace h := h.2
  refine mV_ias (by decide +kernel) sh_244 h.1 ?_
  replace h := h.2
  refine mV_aload_n (k := 0) (by decide +kernel) rfl ?_
  refine mV_gfr (r := some 245) (by decide +kernel) fk_13_73 sh_226 (mm_rrs st_226_31) rfl ?_
  refine mV_iload_n (k := 2) (by decide +kernel) rfl ?_
  refine mV_aload_n (k := 0) (by decide +kernel) rfl ?_
  refine mV_gfr (r := some 245) (by decide +kernel) fk_13_73 sh_226 (mm_rrs st_226_31) rfl ?_
  refine mV_iload_n (k := 1) (by decide +kernel) rfl ?_
  refine mV_ialx (x := mg_i G 245 a1.toNatClampNeg) (by decide +kernel) sh_245 h.1 rfl ?_
  replace h := h.2
  refine mV_ias (by decide +kernel) sh_245 h.1 ?_
  replace h := h.2
  refine mV_aload_n (k := 0) (by decide +kernel) rfl ?_
  refine mV_gfr (r := some 246) (by decide +kernel) fk_13_76 sh_226 (mm_rrs st_226_32) rfl ?_
  refine mV_iload_n (k := 2) (by decide +kernel) rfl ?_
  refine mV_aload_n (k := 0) (by decide +kernel) rfl ?_
  refine mV_gfr (r := some 246) (by decide +kernel) fk_13_76 sh_226 (mm_rrs st_226_32) rfl ?_
  refine mV_iload_n (k := 1) (by decide +kernel) rfl ?_
  refine mV_lalx (x := mg_l G 246 a1.toNatClampNeg) (by decide +kernel) sh_246 h.1 rfl ?_
  replace h := h.2
  refine mV_las (by decide +kernel) sh_246 h.1 ?_
  replace h := h.2
  refine mV_aload_n (k := 0) (by decide +kernel) rfl ?_
  refine mV_gfr (r := some 247) (by decide +kernel) fk_13_79 sh_226 (mm_rrs st_226_33) rfl ?_
  refine mV_iload_n (k := 2) (by decide +kernel) rfl ?_
  refine mV_aload_n (k := 0) (by decide +kernel) rfl ?_
  refine mV_gfr (r := some 247) (by decide +kernel) fk_13_79 sh_226 (mm_rrs st_226_33) rfl ?_
  refine mV_iload_n (k := 1) (by decide +kernel) rfl ?_
  refine mV_lalx (x := mg_l G 247 a1.toNatClampNeg) (by decide +kernel) sh_247 h.1 rfl ?_
  replace h := h.2
  refine mV_las (by decide +kernel) sh_247 h.1 ?_
  replace h := h.2
  exact mV_vret (by decide +kernel) rfl h
set_option maxRecDepth 100000 in
set_option maxHeartbeats 4000000 in
theorem e_X13_put_ {l : Launch} {κ : mm_K} {d : Nat} {G : mm_G} {K : Int32 → mm_G → Prop} (a1 : Int32) (a2 : Int32) (a3 : Int32) (h : mC l κ true (d + 2) 0 0 m_X13_isLine [.ref 226, .int a1, .int a2] G (rI (fun r1 G2 => ((r1 = 0 → K (-1) G2) ∧ (¬ r1 = 0 → mC l κ true (d + 2) 0 0 m_X13_linesOf [.ref 226, .int a1] G2 (rI (fun r3 G4 => ((r3 = (nI 16) → K (-1) G4) ∧ (¬ r3 = (nI 16) → mC l κ true (d + 2) 0 0 m_X13_linesOf [.ref 226, .int a1] G4 (rI (fun r5 G6 => mC l κ true (d + 2) 0 0 m_X13_in [.int a3, .int (nI 0), .int r5] G6 (rI (fun r7 G8 => ((¬ r7 = 0 → mC l κ true (d + 2) 0 0 m_X13_linesOf [.ref 226, .int a1] G8 (rI (fun r9 G10 => mV l κ true (d + 3) 0 0 m_X13_put_ 45 [some (.ref 226), some (.int a1), some (.int a2), some (.int a3), some (.int r9), some (.int r9)] [] G10 (rI K)))) ∧ (r7 = 0 → K (-1) G8))))))))))))))) : mC l κ true (d + 3) 0 0 m_X13_put_ [.ref 226, .int a1, .int a2, .int a3] G (rI K) := by
  refine mC.of (by decide) (Nat.le_of_ble_eq_true rfl) [some (.ref 226), some (.int a1), some (.int a2), some (.int a3), none, none] rfl ?_
  refine mV_aload_n (k := 0) (by decide +kernel) rfl ?_
  refine mV_iload_n (k := 1) (by decide +kernel) rfl ?_
  refine mV_iload_n (k := 2) (by decide +kernel) rfl ?_
  refine mV_cV (as := [.int a1, .int a2]) (rest := []) (mc1 := 0) (ms1 := 0) (mc := 0) (ms := 0) (by decide +kernel) md_X13_isLine lk_13_406 sh_226 rfl rfl rfl (Nat.le_of_ble_eq_true rfl) (mC.mono (mm_contI (fun r1 G2 hK => ?_)) h)
  replace h := hK
  refine mV_if_eq (off := 26) (tgt := 32) (by decide +kernel) (by decide) (fun hc => ?_) (fun hc => ?_)
  · replace h := h.1 hc
    refine mV_iconst (n := -1) (v := (-1)) (by decide +kernel) (by decide) ?_
    exact mV_iret (by decide +kernel) rfl h
  · replace h := h.2 hc
    refine mV_aload_n (k := 0) (by decide +kernel) rfl ?_
    refine mV_iload_n (k := 1) (by decide +kernel) rfl ?_
    refine mV_cV (as := [.int a1]) (rest := []) (mc1 := 0) (ms1 := 0) (mc := 0) (ms := 0) (by decide +kernel) md_X13_linesOf lk_13_337 sh_226 rfl rfl rfl (Nat.le_of_ble_eq_true rfl) (mC.mono (mm_contI (fun r3 G4 hK => ?_)) h)
    replace h := hK
    refine mV_bipush (n := 16) (v := nI 16) (by decide +kernel) (by decide) ?_
    refine mV_icmp_eq (off := 16) (tgt := 32) (by decide +kernel) (by decide) (fun hc => ?_) (fun hc => ?_)
    · replace h := h.1 hc
      refine mV_iconst (n := -1) (v := (-1)) (by decide +kernel) (by decide) ?_
      exact mV_iret (by decide +kernel) rfl h
    · replace h := h.2 hc
      refine mV_iload_n (k := 3) (by decide +kernel) rfl ?_
      refine mV_iconst (n := 0) (v := nI 0) (by decide +kernel) (by decide) ?_
      refine mV_aload_n (k := 0) (by decide +kernel) rfl ?_
      refine mV_iload_n (k := 1) (by decide +kernel) rfl ?_
      refine mV_cV (as := [.int a1]) (rest := [.int (nI 0), .int a3]) (mc1 := 0) (ms1 := 0) (mc := 0) (ms := 0) (by decide +kernel) md_X13_linesOf lk_13_337 sh_226 rfl rfl rfl (Nat.le_of_ble_eq_true rfl) (mC.mono (mm_contI (fun r5 G6 hK => ?_)) h)
      replace h := hK
      refine mV_cS (as := [.int a3, .int (nI 0), .int r5]) (rest := []) (mc1 := 0) (ms1 := 0) (mc := 0) (ms := 0) (by decide +kernel) md_X13_in lk_13_399 rfl rfl (Nat.le_of_ble_eq_true rfl) (mC.mono (mm_contI (fun r7 G8 hK => ?_)) h)
      replace h := hK
      refine mV_if_ne (off := 5) (tgt := 34) (by decide +kernel) (by decide) (fun hc => ?_) (fun hc => ?_)
      · replace h := h.1 hc
        refine mV_aload_n (k := 0) (by decide +kernel) rfl ?_
        refine mV_iload_n (k := 1) (by decide +kernel) rfl ?_
        refine mV_cV (as := [.int a1]) (rest := []) (mc1 := 0) (ms1 := 0) (mc := 0) (ms := 0) (by decide +kernel) md_X13_linesOf lk_13_337 sh_226 rfl rfl rfl (Nat.le_of_ble_eq_true rfl) (mC.mono (mm_contI (fun r9 G10 hK => ?_)) h)
        replace h := hK
        refine mV_istore (i := 4) (ls' := [some (.ref 226), some (.int a1), some (.int a2), some (.int a3), some (.int r9), none]) (by decide +kernel) (Nat.le_of_ble_eq_true rfl) rfl rfl ?_
        refine mV_iload (i := 4) (by decide +kernel) rfl ?_
        refine mV_istore (i := 5) (ls' := [some (.ref 226), some (.int a1), some (.int a2), some (.int a3), some (.int r9), some (.int r9)]) (by decide +kernel) (Nat.le_of_ble_eq_true rfl) rfl rfl ?_
        exact h
      · replace h := h.2 hc
        refine mV_iconst (n := -1) (v := (-1)) (by decide +kernel) (by decide) ?_
        exact mV_iret (by decide +kernel) rfl h
set_option maxRecDepth 100000 in
set_option maxHeartbeats 4000000 in
theorem p_X13_put__45 {l : Launch} {κ : mm_K} {d : Nat} {G : mm_G} {K : Int32 → mm_G → Prop} (v1 : Int32) (v2 : Int32) (v3 : Int32) (v4 : Int32) (v5 : Int32) (h : ((v5 ≤ v3 → ((v3 ≤ v2 → mC l κ true (d + 2) 0 0 m_X13_lineAt [.ref 226, .int v1, .int (v2 + (nI 1))] G (rI (fun r1 G2 => mC l κ true (d + 2) 0 0 m_X13_lineAt [.ref 226, .int v1, .int v3] G2 (rI (fun r3 G4 => mC l κ true (d + 2) 0 0 m_X13_copiesLine [.ref 226, .int r1, .int r3] G4 (rV (fun G6 => vp_in (((nI 4) * (mg_i G6 226 18)) + v1) 20 ∧ vp_in (((nI 4) * (mg_i G6 226 18)) + v1) 20 ∧ K (v4 + (nI 1)) (ms_i (ms_i G6 236 ((((nI 4) * (mg_i G6 226 18)) + v1).toNatClampNeg) ((mg_i G6 236 ((((nI 4) * (mg_i G6 226 18)) + v1).toNatClampNeg)) + (nI 1))) 226 65 (nI 0))))))))) ∧ (¬ v3 ≤ v2 → mC l κ true (d + 2) 0 0 m_X13_lineAt [.ref 226, .int v1, .int v2] G (rI (fun r7 G8 => mC l κ true (d + 2) 0 0 m_X13_lineAt [.ref 226, .int v1, .int v3] G8 (rI (fun r9 G10 => mC l κ true (d + 2) 0 0 m_X13_copiesLine [.ref 226, .int r7, .int r9] G10 (rV (fun G12 => vp_in (((nI 4) * (mg_i G12 226 18)) + v1) 20 ∧ vp_in (((nI 4) * (mg_i G12 226 18)) + v1) 20 ∧ K (v4 + (nI 1)) (ms_i (ms_i G12 236 ((((nI 4) * (mg_i G12 226 18)) + v1).toNatClampNeg) ((mg_i G12 236 ((((nI 4) * (mg_i G12 226 18)) + v1).toNatClampNeg)) + (nI 1))) 226 65 (nI 0))))))))))) ∧ (¬ v5 ≤ v3 → mC l κ true (d + 2) 0 0 m_X13_lineAt [.ref 226, .int v1, .int (v5 - (nI 1))] G (rI (fun r13 G14 => mC l κ true (d + 2) 0 0 m_X13_lineAt [.ref 226, .int v1, .int v5] G14 (rI (fun r15 G16 => mC l κ true (d + 2) 0 0 m_X13_copiesLine [.ref 226, .int r13, .int r15] G16 (rV (fun G18 => mV l κ true (d + 3) 0 0 m_X13_put_ 45 [some (.ref 226), some (.int v1), some (.int v2), some (.int v3), some (.int v4), some (.int (v5 + (-1)))] [] G18 (rI K)))))))))) : mV l κ true (d + 3) 0 0 m_X13_put_ 45 [some (.ref 226), some (.int v1), some (.int v2), some (.int v3), some (.int v4), some (.int v5)] [] G (rI K) := by
  refine mV_iload (i := 5) (by decide +kernel) rfl ?_
  refine mV_iload_n (k := 3) (by decide +kernel) rfl ?_
  refine mV_icmp_le (off := 29) (tgt := 77) (by decide +kernel) (by decide) (fun hc => ?_) (fun hc => ?_)
  · replace h := h.1 hc
    refine mV_aload_n (k := 0) (by decide +kernel) rfl ?_
    refine mV_aload_n (k := 0) (by decide +kernel) rfl ?_
    refine mV_iload_n (k := 1) (by decide +kernel) rfl ?_
    refine mV_iload_n (k := 2) (by decide +kernel) rfl ?_
    refine mV_iload_n (k := 3) (by decide +kernel) rfl ?_
    refine mV_icmp_ge (off := 7) (tgt := 89) (by decide +kernel) (by decide) (fun hc => ?_) (fun hc => ?_)
    · replace h := h.1 hc
      refine mV_iload_n (k := 2) (by decide +kernel) rfl ?_
      refine mV_iconst (n := 1) (v := nI 1) (by decide +kernel) (by decide) ?_
      refine mV_iadd (by decide +kernel) ?_
      refine mV_cV (as := [.int v1, .int (v2 + (nI 1))]) (rest := [.ref 226]) (mc1 := 0) (ms1 := 0) (mc := 0) (ms := 0) (by decide +kernel) md_X13_lineAt lk_13_346 sh_226 rfl rfl rfl (Nat.le_of_ble_eq_true rfl) (mC.mono (mm_contI (fun r1 G2 hK => ?_)) h)
      replace h := hK
      refine mV_aload_n (k := 0) (by decide +kernel) rfl ?_
      refine mV_iload_n (k := 1) (by decide +kernel) rfl ?_
      refine mV_iload_n (k := 3) (by decide +kernel) rfl ?_
      refine mV_cV (as := [.int v1, .int v3]) (rest := [.int r1, .ref 226]) (mc1 := 0) (ms1 := 0) (mc := 0) (ms := 0) (by decide +kernel) md_X13_lineAt lk_13_346 sh_226 rfl rfl rfl (Nat.le_of_ble_eq_true rfl) (mC.mono (mm_contI (fun r3 G4 hK => ?_)) h)
      replace h := hK
      refine mV_cV (as := [.int r1, .int r3]) (rest := []) (mc1 := 0) (ms1 := 0) (mc := 0) (ms := 0) (by decide +kernel) md_X13_copiesLine lk_13_489 sh_226 rfl rfl rfl (Nat.le_of_ble_eq_true rfl) (mC.mono (mm_contV (fun G6 hK => ?_)) h)
      replace h := hK
      refine mV_aload_n (k := 0) (by decide +kernel) rfl ?_
      refine mV_gfr (r := some 236) (by decide +kernel) fk_13_46 sh_226 (mm_rrs st_226_22) rfl ?_
      refine mV_iconst (n := 4) (v := nI 4) (by decide +kernel) (by decide) ?_
      refine mV_aload_n (k := 0) (by decide +kernel) rfl ?_
      refine mV_gfix (x := mg_i G6 226 18) (by decide +kernel) fk_13_266 sh_226 rfl ?_
      refine mV_imul (by decide +kernel) ?_
      refine mV_iload_n (k := 1) (by decide +kernel) rfl ?_
      refine mV_iadd (by decide +kernel) ?_
      refine mV_dup2 (by decide +kernel) rfl rfl ?_
      refine mV_ialx (x := mg_i G6 236 ((((nI 4) * (mg_i G6 226 18)) + v1).toNatClampNeg)) (by decide +kernel) sh_236 h.1 rfl ?_
      replace h := h.2
      refine mV_iconst (n := 1) (v := nI 1) (by decide +kernel) (by decide) ?_
      refine mV_iadd (by decide +kernel) ?_
      refine mV_ias (by decide +kernel) sh_236 h.1 ?_
      replace h := h.2
      refine mV_aload_n (k := 0) (by decide +kernel) rfl ?_
      refine mV_iconst (n := 0) (v := nI 0) (by decide +kernel) (by decide) ?_
      refine mV_pfi (by decide +kernel) fk_13_275 sh_226 ?_
      refine mV_iload (i := 4) (by decide +kernel) rfl ?_
      refine mV_iconst (n := 1) (v := nI 1) (by decide +kernel) (by decide) ?_
      refine mV_iadd (by decide +kernel) ?_
      exact mV_iret (by decide +kernel) rfl h
    · replace h := h.2 hc
      refine mV_iload_n (k := 2) (by decide +kernel) rfl ?_
      refine mV_goto (off := 6) (tgt := 92) (by decide +kernel) (by decide) ?_
      refine mV_cV (as := [.int v1, .int v2]) (rest := [.ref 226]) (mc1 := 0) (ms1 := 0) (mc := 0) (ms := 0) (by decide +kernel) md_X13_lineAt lk_13_346 sh_226 rfl rfl rfl (Nat.le_of_ble_eq_true rfl) (mC.mono (mm_contI (fun r7 G8 hK => ?_)) h)
      replace h := hK
      refine mV_aload_n (k := 0) (by decide +kernel) rfl ?_
      refine mV_iload_n (k := 1) (by decide +kernel) rfl ?_
      refine mV_iload_n (k := 3) (by decide +kernel) rfl ?_
      refine mV_cV (as := [.int v1, .int v3]) (rest := [.int r7, .ref 226]) (mc1 := 0) (ms1 := 0) (mc := 0) (ms := 0) (by decide +kernel) md_X13_lineAt lk_13_346 sh_226 rfl rfl rfl (Nat.le_of_ble_eq_true rfl) (mC.mono (mm_contI (fun r9 G10 hK => ?_)) h)
      replace h := hK
      refine mV_cV (as := [.int r7, .int r9]) (rest := []) (mc1 := 0) (ms1 := 0) (mc := 0) (ms := 0) (by decide +kernel) md_X13_copiesLine lk_13_489 sh_226 rfl rfl rfl (Nat.le_of_ble_eq_true rfl) (mC.mono (mm_contV (fun G12 hK => ?_)) h)
      replace h := hK
      refine mV_aload_n (k := 0) (by decide +kernel) rfl ?_
      refine mV_gfr (r := some 236) (by decide +kernel) fk_13_46 sh_226 (mm_rrs st_226_22) rfl ?_
      refine mV_iconst (n := 4) (v := nI 4) (by decide +kernel) (by decide) ?_
      refine mV_aload_n (k := 0) (by decide +kernel) rfl ?_
      refine mV_gfix (x := mg_i G12 226 18) (by decide +kernel) fk_13_266 sh_226 rfl ?_
      refine mV_imul (by decide +kernel) ?_
      refine mV_iload_n (k := 1) (by decide +kernel) rfl ?_
      refine mV_iadd (by decide +kernel) ?_
      refine mV_dup2 (by decide +kernel) rfl rfl ?_
      refine mV_ialx (x := mg_i G12 236 ((((nI 4) * (mg_i G12 226 18)) + v1).toNatClampNeg)) (by decide +kernel) sh_236 h.1 rfl ?_
      replace h := h.2
      refine mV_iconst (n := 1) (v := nI 1) (by decide +kernel) (by decide) ?_
      refine mV_iadd (by decide +kernel) ?_
      refine mV_ias (by decide +kernel) sh_236 h.1 ?_
      replace h := h.2
      refine mV_aload_n (k := 0) (by decide +kernel) rfl ?_
      refine mV_iconst (n := 0) (v := nI 0) (by decide +kernel) (by decide) ?_
      refine mV_pfi (by decide +kernel) fk_13_275 sh_226 ?_
      refine mV_iload (i := 4) (by decide +kernel) rfl ?_
      refine mV_iconst (n := 1) (v := nI 1) (by decide +kernel) (by decide) ?_
      refine mV_iadd (by decide +kernel) ?_
      exact mV_iret (by decide +kernel) rfl h
  · replace h := h.2 hc
    refine mV_aload_n (k := 0) (by decide +kernel) rfl ?_
    refine mV_aload_n (k := 0) (by decide +kernel) rfl ?_
    refine mV_iload_n (k := 1) (by decide +kernel) rfl ?_
    refine mV_iload (i := 5) (by decide +kernel) rfl ?_
    refine mV_iconst (n := 1) (v := nI 1) (by decide +kernel) (by decide) ?_
    refine mV_isub (by decide +kernel) ?_
    refine mV_cV (as := [.int v1, .int (v5 - (nI 1))]) (rest := [.ref 226]) (mc1 := 0) (ms1 := 0) (mc := 0) (ms := 0) (by decide +kernel) md_X13_lineAt lk_13_346 sh_226 rfl rfl rfl (Nat.le_of_ble_eq_true rfl) (mC.mono (mm_contI (fun r13 G14 hK => ?_)) h)
    replace h := hK
    refine mV_aload_n (k := 0) (by decide +kernel) rfl ?_
    refine mV_iload_n (k := 1) (by decide +kernel) rfl ?_
    refine mV_iload (i := 5) (by decide +kernel) rfl ?_
    refine mV_cV (as := [.int v1, .int v5]) (rest := [.int r13, .ref 226]) (mc1 := 0) (ms1 := 0) (mc := 0) (ms := 0) (by decide +kernel) md_X13_lineAt lk_13_346 sh_226 rfl rfl rfl (Nat.le_of_ble_eq_true rfl) (mC.mono (mm_contI (fun r15 G16 hK => ?_)) h)
    replace h := hK
    refine mV_cV (as := [.int r13, .int r15]) (rest := []) (mc1 := 0) (ms1 := 0) (mc := 0) (ms := 0) (by decide +kernel) md_X13_copiesLine lk_13_489 sh_226 rfl rfl rfl (Nat.le_of_ble_eq_true rfl) (mC.mono (mm_contV (fun G18 hK => ?_)) h)
    replace h := hK
    refine mV_iincc (i := 5) (n := -1) (c := (-1)) (ls' := [some (.ref 226), some (.int v1), some (.int v2), some (.int v3), some (.int v4), some (.int (v5 + (-1)))]) (by decide +kernel) (by decide) rfl (Nat.le_of_ble_eq_true rfl) rfl rfl ?_
    refine mV_goto (off := -29) (tgt := 45) (by decide +kernel) (by decide) ?_
    exact h
set_option maxRecDepth 100000 in
set_option maxHeartbeats 4000000 in
theorem e_X13_take {l : Launch} {κ : mm_K} {d : Nat} {G : mm_G} {K : Int32 → mm_G → Prop} (a1 : Int32) (a2 : Int32) (h : mC l κ true (d + 2) 0 0 m_X13_isLine [.ref 226, .int a1, .int a2] G (rI (fun r1 G2 => ((¬ r1 = 0 → mC l κ true (d + 2) 0 0 m_X13_linesOf [.ref 226, .int a1] G2 (rI (fun r3 G4 => mV l κ true (d + 3) 0 0 m_X13_take 20 [some (.ref 226), some (.int a1), some (.int a2), some (.int r3), some (.int a2)] [] G4 (rI K)))) ∧ (r1 = 0 → K (-1) G2))))) : mC l κ true (d + 3) 0 0 m_X13_take [.ref 226, .int a1, .int a2] G (rI K) := by
  refine mC.of (by decide) (Nat.le_of_ble_eq_true rfl) [some (.ref 226), some (.int a1), some (.int a2), none, none] rfl ?_
  refine mV_aload_n (k := 0) (by decide +kernel) rfl ?_
  refine mV_iload_n (k := 1) (by decide +kernel) rfl ?_
  refine mV_iload_n (k := 2) (by decide +kernel) rfl ?_
  refine mV_cV (as := [.int a1, .int a2]) (rest := []) (mc1 := 0) (ms1 := 0) (mc := 0) (ms := 0) (by decide +kernel) md_X13_isLine lk_13_406 sh_226 rfl rfl rfl (Nat.le_of_ble_eq_true rfl) (mC.mono (mm_contI (fun r1 G2 hK => ?_)) h)
  replace h := hK
  refine mV_if_ne (off := 5) (tgt := 11) (by decide +kernel) (by decide) (fun hc => ?_) (fun hc => ?_)
  · replace h := h.1 hc
    refine mV_aload_n (k := 0) (by decide +kernel) rfl ?_
    refine mV_iload_n (k := 1) (by decide +kernel) rfl ?_
    refine mV_cV (as := [.int a1]) (rest := []) (mc1 := 0) (ms1 := 0) (mc := 0) (ms := 0) (by decide +kernel) md_X13_linesOf lk_13_337 sh_226 rfl rfl rfl (Nat.le_of_ble_eq_true rfl) (mC.mono (mm_contI (fun r3 G4 hK => ?_)) h)
    replace h := hK
    refine mV_istore_n (k := 3) (ls' := [some (.ref 226), some (.int a1), some (.int a2), some (.int r3), none]) (by decide +kernel) (Nat.le_of_ble_eq_true rfl) rfl rfl ?_
    refine mV_iload_n (k := 2) (by decide +kernel) rfl ?_
    refine mV_istore (i := 4) (ls' := [some (.ref 226), some (.int a1), some (.int a2), some (.int r3), some (.int a2)]) (by decide +kernel) (Nat.le_of_ble_eq_true rfl) rfl rfl ?_
    exact h
  · replace h := h.2 hc
    refine mV_iconst (n := -1) (v := (-1)) (by decide +kernel) (by decide) ?_
    exact mV_iret (by decide +kernel) rfl h
set_option maxRecDepth 100000 in
set_option maxHeartbeats 4000000 in
theorem p_X13_take_20 {l : Launch} {κ : mm_K} {d : Nat} {G : mm_G} {K : Int32 → mm_G → Prop} (v1 : Int32) (v2 : Int32) (v3 : Int32) (v4 : Int32) (h : ((v3 ≤ (v4 + (nI 1)) → vp_in (((nI 4) * (mg_i G 226 18)) + v1) 20 ∧ vp_in (((nI 4) * (mg_i G 226 18)) + v1) 20 ∧ K (v3 - (nI 1)) (ms_i (ms_i G 236 ((((nI 4) * (mg_i G 226 18)) + v1).toNatClampNeg) ((mg_i G 236 ((((nI 4) * (mg_i G 226 18)) + v1).toNatClampNeg)) - (nI 1))) 226 65 (nI 0))) ∧ (¬ v3 ≤ (v4 + (nI 1)) → mC l κ true (d + 2) 0 0 m_X13_lineAt [.ref 226, .int v1, .int (v4 + (nI 1))] G (rI (fun r1 G2 => mC l κ true (d + 2) 0 0 m_X13_lineAt [.ref 226, .int v1, .int v4] G2 (rI (fun r3 G4 => mC l κ true (d + 2) 0 0 m_X13_copiesLine [.ref 226, .int r1, .int r3] G4 (rV (fun G6 => mV l κ true (d + 3) 0 0 m_X13_take 20 [some (.ref 226), some (.int v1), some (.int v2), some (.int v3), some (.int (v4 + (nI 1)))] [] G6 (rI K)))))))))) : mV l κ true (d + 3) 0 0 m_X13_take 20 [some (.ref 226), some (.int v1), some (.int v2), some (.int v3), some (.int v4)] [] G (rI K) := by
  refine mV_iload (i := 4) (by decide +kernel) rfl ?_
  refine mV_iconst (n := 1) (v := nI 1) (by decide +kernel) (by decide) ?_
  refine mV_iadd (by decide +kernel) ?_
  refine mV_iload_n (k := 3) (by decide +kernel) rfl ?_
  refine mV_icmp_ge (off := 29) (tgt := 54) (by decide +kernel) (by decide) (fun hc => ?_) (fun hc => ?_)
  · replace h := h.1 hc
    refine mV_aload_n (k := 0) (by decide +kernel) rfl ?_
    refine mV_gfr (r := some 236) (by decide +kernel) fk_13_46 sh_226 (mm_rrs st_226_22) rfl ?_
    refine mV_iconst (n := 4) (v := nI 4) (by decide +kernel) (by decide) ?_
    refine mV_aload_n (k := 0) (by decide +kernel) rfl ?_
    refine mV_gfix (x := mg_i G 226 18) (by decide +kernel) fk_13_266 sh_226 rfl ?_
    refine mV_imul (by decide +kernel) ?_
    refine mV_iload_n (k := 1) (by decide +kernel) rfl ?_
    refine mV_iadd (by decide +kernel) ?_
    refine mV_dup2 (by decide +kernel) rfl rfl ?_
    refine mV_ialx (x := mg_i G 236 ((((nI 4) * (mg_i G 226 18)) + v1).toNatClampNeg)) (by decide +kernel) sh_236 h.1 rfl ?_
    replace h := h.2
    refine mV_iconst (n := 1) (v := nI 1) (by decide +kernel) (by decide) ?_
    refine mV_isub (by decide +kernel) ?_
    refine mV_ias (by decide +kernel) sh_236 h.1 ?_
    replace h := h.2
    refine mV_aload_n (k := 0) (by decide +kernel) rfl ?_
    refine mV_iconst (n := 0) (v := nI 0) (by decide +kernel) (by decide) ?_
    refine mV_pfi (by decide +kernel) fk_13_275 sh_226 ?_
    refine mV_iload_n (k := 3) (by decide +kernel) rfl ?_
    refine mV_iconst (n := 1) (v := nI 1) (by decide +kernel) (by decide) ?_
    refine mV_isub (by decide +kernel) ?_
    exact mV_iret (by decide +kernel) rfl h
  · replace h := h.2 hc
    refine mV_aload_n (k := 0) (by decide +kernel) rfl ?_
    refine mV_aload_n (k := 0) (by decide +kernel) rfl ?_
    refine mV_iload_n (k := 1) (by decide +kernel) rfl ?_
    refine mV_iload (i := 4) (by decide +kernel) rfl ?_
    refine mV_iconst (n := 1) (v := nI 1) (by decide +kernel) (by decide) ?_
    refine mV_iadd (by decide +kernel) ?_
    refine mV_cV (as := [.int v1, .int (v4 + (nI 1))]) (rest := [.ref 226]) (mc1 := 0) (ms1 := 0) (mc := 0) (ms := 0) (by decide +kernel) md_X13_lineAt lk_13_346 sh_226 rfl rfl rfl (Nat.le_of_ble_eq_true rfl) (mC.mono (mm_contI (fun r1 G2 hK => ?_)) h)
    replace h := hK
    refine mV_aload_n (k := 0) (by decide +kernel) rfl ?_
    refine mV_iload_n (k := 1) (by decide +kernel) rfl ?_
    refine mV_iload (i := 4) (by decide +kernel) rfl ?_
    refine mV_cV (as := [.int v1, .int v4]) (rest := [.int r1, .ref 226]) (mc1 := 0) (ms1 := 0) (mc := 0) (ms := 0) (by decide +kernel) md_X13_lineAt lk_13_346 sh_226 rfl rfl rfl (Nat.le_of_ble_eq_true rfl) (mC.mono (mm_contI (fun r3 G4 hK => ?_)) h)
    replace h := hK
    refine mV_cV (as := [.int r1, .int r3]) (rest := []) (mc1 := 0) (ms1 := 0) (mc := 0) (ms := 0) (by decide +kernel) md_X13_copiesLine lk_13_489 sh_226 rfl rfl rfl (Nat.le_of_ble_eq_true rfl) (mC.mono (mm_contV (fun G6 hK => ?_)) h)
    replace h := hK
    refine mV_iincc (i := 4) (n := 1) (c := nI 1) (ls' := [some (.ref 226), some (.int v1), some (.int v2), some (.int v3), some (.int (v4 + (nI 1)))]) (by decide +kernel) (by decide) rfl (Nat.le_of_ble_eq_true rfl) rfl rfl ?_
    refine mV_goto (off := -31) (tgt := 20) (by decide +kernel) (by decide) ?_
    exact h
set_option maxRecDepth 100000 in
set_option maxHeartbeats 4000000 in
theorem e_X13_see {l : Launch} {κ : mm_K} {d : Nat} {G : mm_G} {K : Int32 → mm_G → Prop} (a1 : Int32) (a2 : Int32) (a3 : Int32) (h : (((mg_i G 226 65) = (nI 20) → K (-1) G) ∧ (¬ (mg_i G 226 65) = (nI 20) → (((mg_i G 226 65) ≤ 0 → mC l κ true (d + 5) 0 0 m_X13_goes [.ref 226, .int a1, .int a3, .int a2] G (rI (fun r1 G2 => ((¬ r1 = 0 → vp_in (mg_i G2 226 65) 20 ∧ vp_in (mg_i G2 226 65) 20 ∧ vp_in (mg_i G2 226 65) 20 ∧ mV l κ true (d + 6) 0 0 m_X13_see 80 [some (.ref 226), some (.int a1), some (.int a2), some (.int a3), some (.int (nI 0))] [] (ms_i (ms_i (ms_i (ms_i G2 226 66 a1) 268 ((mg_i G2 226 65).toNatClampNeg) a2) 269 ((mg_i G2 226 65).toNatClampNeg) (mg_i G2 226 55)) 270 ((mg_i G2 226 65).toNatClampNeg) (mg_i G2 226 51)) (rI K)) ∧ (r1 = 0 → K (-1) G2))))) ∧ (¬ (mg_i G 226 65) ≤ 0 → ((¬ (mg_i G 226 66) = a1 → K (-1) G) ∧ ((mg_i G 226 66) = a1 → mC l κ true (d + 5) 0 0 m_X13_goes [.ref 226, .int a1, .int a3, .int a2] G (rI (fun r3 G4 => ((¬ r3 = 0 → vp_in (mg_i G4 226 65) 20 ∧ vp_in (mg_i G4 226 65) 20 ∧ vp_in (mg_i G4 226 65) 20 ∧ mV l κ true (d + 6) 0 0 m_X13_see 80 [some (.ref 226), some (.int a1), some (.int a2), some (.int a3), some (.int (nI 0))] [] (ms_i (ms_i (ms_i (ms_i G4 226 66 a1) 268 ((mg_i G4 226 65).toNatClampNeg) a2) 269 ((mg_i G4 226 65).toNatClampNeg) (mg_i G4 226 55)) 270 ((mg_i G4 226 65).toNatClampNeg) (mg_i G4 226 51)) (rI K)) ∧ (r3 = 0 → K (-1) G4))))))))))) : mC l κ true (d + 6) 0 0 m_X13_see [.ref 226, .int a1, .int a2, .int a3] G (rI K) := by
  refine mC.of (by decide) (Nat.le_of_ble_eq_true rfl) [some (.ref 226), some (.int a1), some (.int a2), some (.int a3), none] rfl ?_
  refine mV_aload_n (k := 0) (by decide +kernel) rfl ?_
  refine mV_gfix (x := mg_i G 226 65) (by decide +kernel) fk_13_275 sh_226 rfl ?_
  refine mV_bipush (n := 20) (v := nI 20) (by decide +kernel) (by decide) ?_
  refine mV_icmp_eq (off := 28) (tgt := 34) (by decide +kernel) (by decide) (fun hc => ?_) (fun hc => ?_)
  · replace h := h.1 hc
    refine mV_iconst (n := -1) (v := (-1)) (by decide +kernel) (by decide) ?_
    exact mV_iret (by decide +kernel) rfl h
  · replace h := h.2 hc
    refine mV_aload_n (k := 0) (by decide +kernel) rfl ?_
    refine mV_gfix (x := mg_i G 226 65) (by decide +kernel) fk_13_275 sh_226 rfl ?_
    refine mV_if_le (off := 11) (tgt := 24) (by decide +kernel) (by decide) (fun hc => ?_) (fun hc => ?_)
    · replace h := h.1 hc
      refine mV_aload_n (k := 0) (by decide +kernel) rfl ?_
      refine mV_iload_n (k := 1) (by decide +kernel) rfl ?_
      refine mV_iload_n (k := 3) (by decide +kernel) rfl ?_
      refine mV_iload_n (k := 2) (by decide +kernel) rfl ?_
      refine mV_cV (as := [.int a1, .int a3, .int a2]) (rest := []) (mc1 := 0) (ms1 := 0) (mc := 0) (ms := 0) (by decide +kernel) md_X13_goes lk_13_416 sh_226 rfl rfl rfl (Nat.le_of_ble_eq_true rfl) (mC.mono (mm_contI (fun r1 G2 hK => ?_)) h)
      replace h := hK
      refine mV_if_ne (off := 5) (tgt := 36) (by decide +kernel) (by decide) (fun hc => ?_) (fun hc => ?_)
      · replace h := h.1 hc
        refine mV_aload_n (k := 0) (by decide +kernel) rfl ?_
        refine mV_iload_n (k := 1) (by decide +kernel) rfl ?_
        refine mV_pfi (by decide +kernel) fk_13_492 sh_226 ?_
        refine mV_aload_n (k := 0) (by decide +kernel) rfl ?_
        refine mV_gfr (r := some 268) (by decide +kernel) fk_13_143 sh_226 (mm_rrs st_226_67) rfl ?_
        refine mV_aload_n (k := 0) (by decide +kernel) rfl ?_
        refine mV_gfix (x := mg_i G2 226 65) (by decide +kernel) fk_13_275 sh_226 rfl ?_
        refine mV_iload_n (k := 2) (by decide +kernel) rfl ?_
        refine mV_ias (by decide +kernel) sh_268 h.1 ?_
        replace h := h.2
        refine mV_aload_n (k := 0) (by decide +kernel) rfl ?_
        refine mV_gfr (r := some 269) (by decide +kernel) fk_13_146 sh_226 (mm_rrs st_226_68) rfl ?_
        refine mV_aload_n (k := 0) (by decide +kernel) rfl ?_
        refine mV_gfix (x := mg_i G2 226 65) (by decide +kernel) fk_13_275 sh_226 rfl ?_
        refine mV_aload_n (k := 0) (by decide +kernel) rfl ?_
        refine mV_gfix (x := mg_i G2 226 55) (by decide +kernel) fk_13_374 sh_226 rfl ?_
        refine mV_ias (by decide +kernel) sh_269 h.1 ?_
        replace h := h.2
        refine mV_aload_n (k := 0) (by decide +kernel) rfl ?_
        refine mV_gfr (r := some 270) (by decide +kernel) fk_13_149 sh_226 (mm_rrs st_226_69) rfl ?_
        refine mV_aload_n (k := 0) (by decide +kernel) rfl ?_
        refine mV_gfix (x := mg_i G2 226 65) (by decide +kernel) fk_13_275 sh_226 rfl ?_
        refine mV_aload_n (k := 0) (by decide +kernel) rfl ?_
        refine mV_gfix (x := mg_i G2 226 51) (by decide +kernel) fk_13_368 sh_226 rfl ?_
        refine mV_ias (by decide +kernel) sh_270 h.1 ?_
        replace h := h.2
        refine mV_iconst (n := 0) (v := nI 0) (by decide +kernel) (by decide) ?_
        refine mV_istore (i := 4) (ls' := [some (.ref 226), some (.int a1), some (.int a2), some (.int a3), some (.int (nI 0))]) (by decide +kernel) (Nat.le_of_ble_eq_true rfl) rfl rfl ?_
        exact h
      · replace h := h.2 hc
        refine mV_iconst (n := -1) (v := (-1)) (by decide +kernel) (by decide) ?_
        exact mV_iret (by decide +kernel) rfl h
    · replace h := h.2 hc
      refine mV_aload_n (k := 0) (by decide +kernel) rfl ?_
      refine mV_gfix (x := mg_i G 226 66) (by decide +kernel) fk_13_492 sh_226 rfl ?_
      refine mV_iload_n (k := 1) (by decide +kernel) rfl ?_
      refine mV_icmp_ne (off := 13) (tgt := 34) (by decide +kernel) (by decide) (fun hc => ?_) (fun hc => ?_)
      · replace h := h.1 hc
        refine mV_iconst (n := -1) (v := (-1)) (by decide +kernel) (by decide) ?_
        exact mV_iret (by decide +kernel) rfl h
      · replace h := h.2 hc
        refine mV_aload_n (k := 0) (by decide +kernel) rfl ?_
        refine mV_iload_n (k := 1) (by decide +kernel) rfl ?_
        refine mV_iload_n (k := 3) (by decide +kernel) rfl ?_
        refine mV_iload_n (k := 2) (by decide +kernel) rfl ?_
        refine mV_cV (as := [.int a1, .int a3, .int a2]) (rest := []) (mc1 := 0) (ms1 := 0) (mc := 0) (ms := 0) (by decide +kernel) md_X13_goes lk_13_416 sh_226 rfl rfl rfl (Nat.le_of_ble_eq_true rfl) (mC.mono (mm_contI (fun r3 G4 hK => ?_)) h)
        replace h := hK
        refine mV_if_ne (off := 5) (tgt := 36) (by decide +kernel) (by decide) (fun hc => ?_) (fun hc => ?_)
        · replace h := h.1 hc
          refine mV_aload_n (k := 0) (by decide +kernel) rfl ?_
          refine mV_iload_n (k := 1) (by decide +kernel) rfl ?_
          refine mV_pfi (by decide +kernel) fk_13_492 sh_226 ?_
          refine mV_aload_n (k := 0) (by decide +kernel) rfl ?_
          refine mV_gfr (r := some 268) (by decide +kernel) fk_13_143 sh_226 (mm_rrs st_226_67) rfl ?_
          refine mV_aload_n (k := 0) (by decide +kernel) rfl ?_
          refine mV_gfix (x := mg_i G4 226 65) (by decide +kernel) fk_13_275 sh_226 rfl ?_
          refine mV_iload_n (k := 2) (by decide +kernel) rfl ?_
          refine mV_ias (by decide +kernel) sh_268 h.1 ?_
          replace h := h.2
          refine mV_aload_n (k := 0) (by decide +kernel) rfl ?_
          refine mV_gfr (r := some 269) (by decide +kernel) fk_13_146 sh_226 (mm_rrs st_226_68) rfl ?_
          refine mV_aload_n (k := 0) (by decide +kernel) rfl ?_
          refine mV_gfix (x := mg_i G4 226 65) (by decide +kernel) fk_13_275 sh_226 rfl ?_
          refine mV_aload_n (k := 0) (by decide +kernel) rfl ?_
          refine mV_gfix (x := mg_i G4 226 55) (by decide +kernel) fk_13_374 sh_226 rfl ?_
          refine mV_ias (by decide +kernel) sh_269 h.1 ?_
          replace h := h.2
          refine mV_aload_n (k := 0) (by decide +kernel) rfl ?_
          refine mV_gfr (r := some 270) (by decide +kernel) fk_13_149 sh_226 (mm_rrs st_226_69) rfl ?_
          refine mV_aload_n (k := 0) (by decide +kernel) rfl ?_
          refine mV_gfix (x := mg_i G4 226 65) (by decide +kernel) fk_13_275 sh_226 rfl ?_
          refine mV_aload_n (k := 0) (by decide +kernel) rfl ?_
          refine mV_gfix (x := mg_i G4 226 51) (by decide +kernel) fk_13_368 sh_226 rfl ?_
          refine mV_ias (by decide +kernel) sh_270 h.1 ?_
          replace h := h.2
          refine mV_iconst (n := 0) (v := nI 0) (by decide +kernel) (by decide) ?_
          refine mV_istore (i := 4) (ls' := [some (.ref 226), some (.int a1), some (.int a2), some (.int a3), some (.int (nI 0))]) (by decide +kernel) (Nat.le_of_ble_eq_true rfl) rfl rfl ?_
          exact h
        · replace h := h.2 hc
          refine mV_iconst (n := -1) (v := (-1)) (by decide +kernel) (by decide) ?_
          exact mV_iret (by decide +kernel) rfl h
set_option maxRecDepth 100000 in
set_option maxHeartbeats 4000000 in
theorem p_X13_see_80 {l : Launch} {κ : mm_K} {d : Nat} {G : mm_G} {K : Int32 → mm_G → Prop} (v1 : Int32) (v2 : Int32) (v3 : Int32) (v4 : Int32) (h : (((mg_i G 226 51) ≤ v4 → K (((mg_i G 226 65) + (nI 1)) - (nI 1)) (ms_i G 226 65 ((mg_i G 226 65) + (nI 1)))) ∧ (¬ (mg_i G 226 51) ≤ v4 → vp_in v4 8 ∧ vp_in (((nI 8) * (mg_i G 226 65)) + v4) 160 ∧ mV l κ true (d + 6) 0 0 m_X13_see 80 [some (.ref 226), some (.int v1), some (.int v2), some (.int v3), some (.int (v4 + (nI 1)))] [] (ms_i G 271 ((((nI 8) * (mg_i G 226 65)) + v4).toNatClampNeg) (mg_i G 258 v4.toNatClampNeg)) (rI K)))) : mV l κ true (d + 6) 0 0 m_X13_see 80 [some (.ref 226), some (.int v1), some (.int v2), some (.int v3), some (.int v4)] [] G (rI K) := by
  refine mV_iload (i := 4) (by decide +kernel) rfl ?_
  refine mV_aload_n (k := 0) (by decide +kernel) rfl ?_
  refine mV_gfix (x := mg_i G 226 51) (by decide +kernel) fk_13_368 sh_226 rfl ?_
  refine mV_icmp_ge (off := 31) (tgt := 117) (by decide +kernel) (by decide) (fun hc => ?_) (fun hc => ?_)
  · replace h := h.1 hc
    refine mV_aload_n (k := 0) (by decide +kernel) rfl ?_
    refine mV_dup (by decide +kernel) rfl ?_
    refine mV_gfix (x := mg_i G 226 65) (by decide +kernel) fk_13_275 sh_226 rfl ?_
    refine mV_iconst (n := 1) (v := nI 1) (by decide +kernel) (by decide) ?_
    refine mV_iadd (by decide +kernel) ?_
    refine mV_pfi (by decide +kernel) fk_13_275 sh_226 ?_
    refine mV_aload_n (k := 0) (by decide +kernel) rfl ?_
    refine mV_gfix (x := (mg_i G 226 65) + (nI 1)) (by decide +kernel) fk_13_275 sh_226 rfl ?_
    refine mV_iconst (n := 1) (v := nI 1) (by decide +kernel) (by decide) ?_
    refine mV_isub (by decide +kernel) ?_
    exact mV_iret (by decide +kernel) rfl h
  · replace h := h.2 hc
    refine mV_aload_n (k := 0) (by decide +kernel) rfl ?_
    refine mV_gfr (r := some 271) (by decide +kernel) fk_13_152 sh_226 (mm_rrs st_226_70) rfl ?_
    refine mV_bipush (n := 8) (v := nI 8) (by decide +kernel) (by decide) ?_
    refine mV_aload_n (k := 0) (by decide +kernel) rfl ?_
    refine mV_gfix (x := mg_i G 226 65) (by decide +kernel) fk_13_275 sh_226 rfl ?_
    refine mV_imul (by decide +kernel) ?_
    refine mV_iload (i := 4) (by decide +kernel) rfl ?_
    refine mV_iadd (by decide +kernel) ?_
    refine mV_aload_n (k := 0) (by decide +kernel) rfl ?_
    refine mV_gfr (r := some 258) (by decide +kernel) fk_13_112 sh_226 (mm_rrs st_226_52) rfl ?_
    refine mV_iload (i := 4) (by decide +kernel) rfl ?_
    refine mV_ialx (x := mg_i G 258 v4.toNatClampNeg) (by decide +kernel) sh_258 h.1 rfl ?_
    replace h := h.2
    refine mV_ias (by decide +kernel) sh_271 h.1 ?_
    replace h := h.2
    refine mV_iincc (i := 4) (n := 1) (c := nI 1) (ls' := [some (.ref 226), some (.int v1), some (.int v2), some (.int v3), some (.int (v4 + (nI 1)))]) (by decide +kernel) (by decide) rfl (Nat.le_of_ble_eq_true rfl) rfl rfl ?_
    refine mV_goto (off := -34) (tgt := 80) (by decide +kernel) (by decide) ?_
    exact h
set_option maxRecDepth 100000 in
set_option maxHeartbeats 4000000 in
theorem e_X13_forget {l : Launch} {κ : mm_K} {d : Nat} {G : mm_G} {K : Int32 → mm_G → Prop}  (h : K (mg_i G 226 65) (ms_i G 226 65 (nI 0))) : mC l κ true d 0 0 m_X13_forget [.ref 226] G (rI K) := by
  refine mC.of (by decide) (Nat.le_of_ble_eq_true rfl) [some (.ref 226), none] rfl ?_
  refine mV_aload_n (k := 0) (by decide +kernel) rfl ?_
  refine mV_gfix (x := mg_i G 226 65) (by decide +kernel) fk_13_275 sh_226 rfl ?_
  refine mV_istore_n (k := 1) (ls' := [some (.ref 226), some (.int (mg_i G 226 65))]) (by decide +kernel) (Nat.le_of_ble_eq_true rfl) rfl rfl ?_
  refine mV_aload_n (k := 0) (by decide +kernel) rfl ?_
  refine mV_iconst (n := 0) (v := nI 0) (by decide +kernel) (by decide) ?_
  refine mV_pfi (by decide +kernel) fk_13_275 sh_226 ?_
  refine mV_iload_n (k := 1) (by decide +kernel) rfl ?_
  exact mV_iret (by decide +kernel) rfl h
set_option maxRecDepth 100000 in
set_option maxHeartbeats 4000000 in
theorem e_X13_isAsSeen {l : Launch} {κ : mm_K} {d : Nat} {G : mm_G} {K : Int32 → mm_G → Prop} (a1 : Int32) (h : vp_in a1 20 ∧ ((¬ (mg_i G 226 55) = (mg_i G 269 a1.toNatClampNeg) → K (nI 0) G) ∧ ((mg_i G 226 55) = (mg_i G 269 a1.toNatClampNeg) → vp_in a1 20 ∧ (((mg_i G 226 51) = (mg_i G 270 a1.toNatClampNeg) → mV l κ true d 0 0 m_X13_isAsSeen 30 [some (.ref 226), some (.int a1), some (.int (nI 0))] [] G (rI K)) ∧ (¬ (mg_i G 226 51) = (mg_i G 270 a1.toNatClampNeg) → K (nI 0) G))))) : mC l κ true d 0 0 m_X13_isAsSeen [.ref 226, .int a1] G (rI K) := by
  refine mC.of (by decide) (Nat.le_of_ble_eq_true rfl) [some (.ref 226), some (.int a1), none] rfl ?_
  refine mV_aload_n (k := 0) (by decide +kernel) rfl ?_
  refine mV_gfix (x := mg_i G 226 55) (by decide +kernel) fk_13_374 sh_226 rfl ?_
  refine mV_aload_n (k := 0) (by decide +kernel) rfl ?_
  refine mV_gfr (r := some 269) (by decide +kernel) fk_13_146 sh_226 (mm_rrs st_226_68) rfl ?_
  refine mV_iload_n (k := 1) (by decide +kernel) rfl ?_
  refine mV_ialx (x := mg_i G 269 a1.toNatClampNeg) (by decide +kernel) sh_269 h.1 rfl ?_
  replace h := h.2
  refine mV_icmp_ne (off := 16) (tgt := 26) (by decide +kernel) (by decide) (fun hc => ?_) (fun hc => ?_)
  · replace h := h.1 hc
    refine mV_iconst (n := 0) (v := nI 0) (by decide +kernel) (by decide) ?_
    exact mV_zret (by decide +kernel) rfl (by decide) h
  · replace h := h.2 hc
    refine mV_aload_n (k := 0) (by decide +kernel) rfl ?_
    refine mV_gfix (x := mg_i G 226 51) (by decide +kernel) fk_13_368 sh_226 rfl ?_
    refine mV_aload_n (k := 0) (by decide +kernel) rfl ?_
    refine mV_gfr (r := some 270) (by decide +kernel) fk_13_149 sh_226 (mm_rrs st_226_69) rfl ?_
    refine mV_iload_n (k := 1) (by decide +kernel) rfl ?_
    refine mV_ialx (x := mg_i G 270 a1.toNatClampNeg) (by decide +kernel) sh_270 h.1 rfl ?_
    replace h := h.2
    refine mV_icmp_eq (off := 5) (tgt := 28) (by decide +kernel) (by decide) (fun hc => ?_) (fun hc => ?_)
    · replace h := h.1 hc
      refine mV_iconst (n := 0) (v := nI 0) (by decide +kernel) (by decide) ?_
      refine mV_istore_n (k := 2) (ls' := [some (.ref 226), some (.int a1), some (.int (nI 0))]) (by decide +kernel) (Nat.le_of_ble_eq_true rfl) rfl rfl ?_
      exact h
    · replace h := h.2 hc
      refine mV_iconst (n := 0) (v := nI 0) (by decide +kernel) (by decide) ?_
      exact mV_zret (by decide +kernel) rfl (by decide) h
set_option maxRecDepth 100000 in
set_option maxHeartbeats 4000000 in
theorem p_X13_isAsSeen_30 {l : Launch} {κ : mm_K} {d : Nat} {G : mm_G} {K : Int32 → mm_G → Prop} (v1 : Int32) (v2 : Int32) (h : (((mg_i G 226 51) ≤ v2 → K (nI 1) G) ∧ (¬ (mg_i G 226 51) ≤ v2 → vp_in v2 8 ∧ vp_in (((nI 8) * v1) + v2) 160 ∧ (((mg_i G 258 v2.toNatClampNeg) = (mg_i G 271 ((((nI 8) * v1) + v2).toNatClampNeg)) → mV l κ true d 0 0 m_X13_isAsSeen 30 [some (.ref 226), some (.int v1), some (.int (v2 + (nI 1)))] [] G (rI K)) ∧ (¬ (mg_i G 258 v2.toNatClampNeg) = (mg_i G 271 ((((nI 8) * v1) + v2).toNatClampNeg)) → K (nI 0) G))))) : mV l κ true d 0 0 m_X13_isAsSeen 30 [some (.ref 226), some (.int v1), some (.int v2)] [] G (rI K) := by
  refine mV_iload_n (k := 2) (by decide +kernel) rfl ?_
  refine mV_aload_n (k := 0) (by decide +kernel) rfl ?_
  refine mV_gfix (x := mg_i G 226 51) (by decide +kernel) fk_13_368 sh_226 rfl ?_
  refine mV_icmp_ge (off := 31) (tgt := 66) (by decide +kernel) (by decide) (fun hc => ?_) (fun hc => ?_)
  · replace h := h.1 hc
    refine mV_iconst (n := 1) (v := nI 1) (by decide +kernel) (by decide) ?_
    exact mV_zret (by decide +kernel) rfl (by decide) h
  · replace h := h.2 hc
    refine mV_aload_n (k := 0) (by decide +kernel) rfl ?_
    refine mV_gfr (r := some 258) (by decide +kernel) fk_13_112 sh_226 (mm_rrs st_226_52) rfl ?_
    refine mV_iload_n (k := 2) (by decide +kernel) rfl ?_
    refine mV_ialx (x := mg_i G 258 v2.toNatClampNeg) (by decide +kernel) sh_258 h.1 rfl ?_
    replace h := h.2
    refine mV_aload_n (k := 0) (by decide +kernel) rfl ?_
    refine mV_gfr (r := some 271) (by decide +kernel) fk_13_152 sh_226 (mm_rrs st_226_70) rfl ?_
    refine mV_bipush (n := 8) (v := nI 8) (by decide +kernel) (by decide) ?_
    refine mV_iload_n (k := 1) (by decide +kernel) rfl ?_
    refine mV_imul (by decide +kernel) ?_
    refine mV_iload_n (k := 2) (by decide +kernel) rfl ?_
    refine mV_iadd (by decide +kernel) ?_
    refine mV_ialx (x := mg_i G 271 ((((nI 8) * v1) + v2).toNatClampNeg)) (by decide +kernel) sh_271 h.1 rfl ?_
    replace h := h.2
    refine mV_icmp_eq (off := 5) (tgt := 60) (by decide +kernel) (by decide) (fun hc => ?_) (fun hc => ?_)
    · replace h := h.1 hc
      refine mV_iincc (i := 2) (n := 1) (c := nI 1) (ls' := [some (.ref 226), some (.int v1), some (.int (v2 + (nI 1)))]) (by decide +kernel) (by decide) rfl (Nat.le_of_ble_eq_true rfl) rfl rfl ?_
      refine mV_goto (off := -33) (tgt := 30) (by decide +kernel) (by decide) ?_
      exact h
    · replace h := h.2 hc
      refine mV_iconst (n := 0) (v := nI 0) (by decide +kernel) (by decide) ?_
      exact mV_zret (by decide +kernel) rfl (by decide) h
set_option maxRecDepth 100000 in
set_option maxHeartbeats 4000000 in
theorem e_X13_canBe {l : Launch} {κ : mm_K} {d : Nat} {G : mm_G} {K : Int32 → mm_G → Prop} (a1 : Int32) (a2 : Int32) (a3 : Int32) (h : mC l κ true (d + 4) 0 0 m_X13_takesRow [.ref 226, .int a1, .int a2] G (rV (fun G2 => mV l κ true (d + 5) 0 0 m_X13_canBe 9 [some (.ref 226), some (.int a1), some (.int a2), some (.int a3), some (.int (nI 0))] [] G2 (rI K)))) : mC l κ true (d + 5) 0 0 m_X13_canBe [.ref 226, .int a1, .int a2, .int a3] G (rI K) := by
  refine mC.of (by decide) (Nat.le_of_ble_eq_true rfl) [some (.ref 226), some (.int a1), some (.int a2), some (.int a3), none] rfl ?_
  refine mV_aload_n (k := 0) (by decide +kernel) rfl ?_
  refine mV_iload_n (k := 1) (by decide +kernel) rfl ?_
  refine mV_iload_n (k := 2) (by decide +kernel) rfl ?_
  refine mV_cV (as := [.int a1, .int a2]) (rest := []) (mc1 := 0) (ms1 := 0) (mc := 0) (ms := 0) (by decide +kernel) md_X13_takesRow lk_13_387 sh_226 rfl rfl rfl (Nat.le_of_ble_eq_true rfl) (mC.mono (mm_contV (fun G2 hK => ?_)) h)
  replace h := hK
  refine mV_iconst (n := 0) (v := nI 0) (by decide +kernel) (by decide) ?_
  refine mV_istore (i := 4) (ls' := [some (.ref 226), some (.int a1), some (.int a2), some (.int a3), some (.int (nI 0))]) (by decide +kernel) (Nat.le_of_ble_eq_true rfl) rfl rfl ?_
  exact h
set_option maxRecDepth 100000 in
set_option maxHeartbeats 4000000 in
theorem p_X13_canBe_9 {l : Launch} {κ : mm_K} {d : Nat} {G : mm_G} {K : Int32 → mm_G → Prop} (v1 : Int32) (v2 : Int32) (v3 : Int32) (v4 : Int32) (h : ((v3 ≤ v4 → K (nI 1) G) ∧ (¬ v3 ≤ v4 → vp_in v4 20 ∧ mC l κ true (d + 4) 0 0 m_X13_runs [.ref 226, .int (mg_i G 268 v4.toNatClampNeg)] G (rV (fun G2 => mC l κ true (d + 4) 0 0 m_X13_isAsSeen [.ref 226, .int v4] G2 (rI (fun r3 G4 => ((¬ r3 = 0 → mV l κ true (d + 5) 0 0 m_X13_canBe 9 [some (.ref 226), some (.int v1), some (.int v2), some (.int v3), some (.int (v4 + (nI 1)))] [] G4 (rI K)) ∧ (r3 = 0 → K (nI 0) G4))))))))) : mV l κ true (d + 5) 0 0 m_X13_canBe 9 [some (.ref 226), some (.int v1), some (.int v2), some (.int v3), some (.int v4)] [] G (rI K) := by
  refine mV_iload (i := 4) (by decide +kernel) rfl ?_
  refine mV_iload_n (k := 3) (by decide +kernel) rfl ?_
  refine mV_icmp_ge (off := 31) (tgt := 43) (by decide +kernel) (by decide) (fun hc => ?_) (fun hc => ?_)
  · replace h := h.1 hc
    refine mV_iconst (n := 1) (v := nI 1) (by decide +kernel) (by decide) ?_
    exact mV_zret (by decide +kernel) rfl (by decide) h
  · replace h := h.2 hc
    refine mV_aload_n (k := 0) (by decide +kernel) rfl ?_
    refine mV_aload_n (k := 0) (by decide +kernel) rfl ?_
    refine mV_gfr (r := some 268) (by decide +kernel) fk_13_143 sh_226 (mm_rrs st_226_67) rfl ?_
    refine mV_iload (i := 4) (by decide +kernel) rfl ?_
    refine mV_ialx (x := mg_i G 268 v4.toNatClampNeg) (by decide +kernel) sh_268 h.1 rfl ?_
    replace h := h.2
    refine mV_cV (as := [.int (mg_i G 268 v4.toNatClampNeg)]) (rest := []) (mc1 := 0) (ms1 := 0) (mc := 0) (ms := 0) (by decide +kernel) md_X13_runs lk_13_390 sh_226 rfl rfl rfl (Nat.le_of_ble_eq_true rfl) (mC.mono (mm_contV (fun G2 hK => ?_)) h)
    replace h := hK
    refine mV_aload_n (k := 0) (by decide +kernel) rfl ?_
    refine mV_iload (i := 4) (by decide +kernel) rfl ?_
    refine mV_cV (as := [.int v4]) (rest := []) (mc1 := 0) (ms1 := 0) (mc := 0) (ms := 0) (by decide +kernel) md_X13_isAsSeen lk_13_495 sh_226 rfl rfl rfl (Nat.le_of_ble_eq_true rfl) (mC.mono (mm_contI (fun r3 G4 hK => ?_)) h)
    replace h := hK
    refine mV_if_ne (off := 5) (tgt := 37) (by decide +kernel) (by decide) (fun hc => ?_) (fun hc => ?_)
    · replace h := h.1 hc
      refine mV_iincc (i := 4) (n := 1) (c := nI 1) (ls' := [some (.ref 226), some (.int v1), some (.int v2), some (.int v3), some (.int (v4 + (nI 1)))]) (by decide +kernel) (by decide) rfl (Nat.le_of_ble_eq_true rfl) rfl rfl ?_
      refine mV_goto (off := -31) (tgt := 9) (by decide +kernel) (by decide) ?_
      exact h
    · replace h := h.2 hc
      refine mV_iconst (n := 0) (v := nI 0) (by decide +kernel) (by decide) ?_
      exact mV_zret (by decide +kernel) rfl (by decide) h
set_option maxRecDepth 100000 in
set_option maxHeartbeats 4000000 in
theorem e_X13_fillSuspects {l : Launch} {κ : mm_K} {d : Nat} {G : mm_G} {K : mm_G → Prop} (a1 : Int32) (a2 : Int32) (a3 : Int32) (h : mV l κ true (d + 6) 0 0 m_X13_fillSuspects 8 [some (.ref 226), some (.int a1), some (.int a2), some (.int a3), some (.int (nI 0))] [] (ms_i G 226 72 (nI 0)) (rV K)) : mC l κ true (d + 6) 0 0 m_X13_fillSuspects [.ref 226, .int a1, .int a2, .int a3] G (rV K) := by
  refine mC.of (by decide) (Nat.le_of_ble_eq_true rfl) [some (.ref 226), some (.int a1), some (.int a2), some (.int a3), none] rfl ?_
  refine mV_aload_n (k := 0) (by decide +kernel) rfl ?_
  refine mV_iconst (n := 0) (v := nI 0) (by decide +kernel) (by decide) ?_
  refine mV_pfi (by decide +kernel) fk_13_498 sh_226 ?_
  refine mV_iconst (n := 0) (v := nI 0) (by decide +kernel) (by decide) ?_
  refine mV_istore (i := 4) (ls' := [some (.ref 226), some (.int a1), some (.int a2), some (.int a3), some (.int (nI 0))]) (by decide +kernel) (Nat.le_of_ble_eq_true rfl) rfl rfl ?_
  exact h
set_option maxRecDepth 100000 in
set_option maxHeartbeats 4000000 in
theorem p_X13_fillSuspects_8 {l : Launch} {κ : mm_K} {d : Nat} {G : mm_G} {K : mm_G → Prop} (v1 : Int32) (v2 : Int32) (v3 : Int32) (v4 : Int32) (h : mC l κ true (d + 5) 0 0 m_X13_linesOf [.ref 226, .int v1] G (rI (fun r1 G2 => ((((nI 1) <<< (r1 &&& 31)) ≤ v4 → K G2) ∧ (¬ ((nI 1) <<< (r1 &&& 31)) ≤ v4 → mC l κ true (d + 5) 0 0 m_X13_bits [.int v4] G2 (rI (fun r3 G4 => ((¬ r3 = v2 → mV l κ true (d + 6) 0 0 m_X13_fillSuspects 8 [some (.ref 226), some (.int v1), some (.int v2), some (.int v3), some (.int (v4 + (nI 1)))] [] G4 (rV K)) ∧ (r3 = v2 → mC l κ true (d + 5) 0 0 m_X13_canBe [.ref 226, .int v1, .int v4, .int v3] G4 (rI (fun r5 G6 => ((¬ r5 = 0 → vp_in (mg_i G6 226 72) 140 ∧ mV l κ true (d + 6) 0 0 m_X13_fillSuspects 8 [some (.ref 226), some (.int v1), some (.int v2), some (.int v3), some (.int (v4 + (nI 1)))] [] (ms_i (ms_i G6 272 ((mg_i G6 226 72).toNatClampNeg) v4) 226 72 ((mg_i G6 226 72) + (nI 1))) (rV K)) ∧ (r5 = 0 → mV l κ true (d + 6) 0 0 m_X13_fillSuspects 8 [some (.ref 226), some (.int v1), some (.int v2), some (.int v3), some (.int (v4 + (nI 1)))] [] G6 (rV K)))))))))))))) : mV l κ true (d + 6) 0 0 m_X13_fillSuspects 8 [some (.ref 226), some (.int v1), some (.int v2), some (.int v3), some (.int v4)] [] G (rV K) := by
  refine mV_iload (i := 4) (by decide +kernel) rfl ?_
  refine mV_iconst (n := 1) (v := nI 1) (by decide +kernel) (by decide) ?_
  refine mV_aload_n (k := 0) (by decide +kernel) rfl ?_
  refine mV_iload_n (k := 1) (by decide +kernel) rfl ?_
  refine mV_cV (as := [.int v1]) (rest := [.int (nI 1), .int v4]) (mc1 := 0) (ms1 := 0) (mc := 0) (ms := 0) (by decide +kernel) md_X13_linesOf lk_13_337 sh_226 rfl rfl rfl (Nat.le_of_ble_eq_true rfl) (mC.mono (mm_contI (fun r1 G2 hK => ?_)) h)
  replace h := hK
  refine mV_ishl (by decide +kernel) ?_
  refine mV_icmp_ge (off := 53) (tgt := 70) (by decide +kernel) (by decide) (fun hc => ?_) (fun hc => ?_)
  · replace h := h.1 hc
    exact mV_vret (by decide +kernel) rfl h
  · replace h := h.2 hc
    refine mV_iload (i := 4) (by decide +kernel) rfl ?_
    refine mV_cS (as := [.int v4]) (rest := []) (mc1 := 0) (ms1 := 0) (mc := 0) (ms := 0) (by decide +kernel) md_X13_bits lk_13_426 rfl rfl (Nat.le_of_ble_eq_true rfl) (mC.mono (mm_contI (fun r3 G4 hK => ?_)) h)
    replace h := hK
    refine mV_iload_n (k := 2) (by decide +kernel) rfl ?_
    refine mV_icmp_ne (off := 38) (tgt := 64) (by decide +kernel) (by decide) (fun hc => ?_) (fun hc => ?_)
    · replace h := h.1 hc
      refine mV_iincc (i := 4) (n := 1) (c := nI 1) (ls' := [some (.ref 226), some (.int v1), some (.int v2), some (.int v3), some (.int (v4 + (nI 1)))]) (by decide +kernel) (by decide) rfl (Nat.le_of_ble_eq_true rfl) rfl rfl ?_
      refine mV_goto (off := -59) (tgt := 8) (by decide +kernel) (by decide) ?_
      exact h
    · replace h := h.2 hc
      refine mV_aload_n (k := 0) (by decide +kernel) rfl ?_
      refine mV_iload_n (k := 1) (by decide +kernel) rfl ?_
      refine mV_iload (i := 4) (by decide +kernel) rfl ?_
      refine mV_iload_n (k := 3) (by decide +kernel) rfl ?_
      refine mV_cV (as := [.int v1, .int v4, .int v3]) (rest := []) (mc1 := 0) (ms1 := 0) (mc := 0) (ms := 0) (by decide +kernel) md_X13_canBe lk_13_501 sh_226 rfl rfl rfl (Nat.le_of_ble_eq_true rfl) (mC.mono (mm_contI (fun r5 G6 hK => ?_)) h)
      replace h := hK
      refine mV_if_ne (off := 6) (tgt := 43) (by decide +kernel) (by decide) (fun hc => ?_) (fun hc => ?_)
      · replace h := h.1 hc
        refine mV_aload_n (k := 0) (by decide +kernel) rfl ?_
        refine mV_gfr (r := some 272) (by decide +kernel) fk_13_155 sh_226 (mm_rrs st_226_71) rfl ?_
        refine mV_aload_n (k := 0) (by decide +kernel) rfl ?_
        refine mV_gfix (x := mg_i G6 226 72) (by decide +kernel) fk_13_498 sh_226 rfl ?_
        refine mV_iload (i := 4) (by decide +kernel) rfl ?_
        refine mV_ias (by decide +kernel) sh_272 h.1 ?_
        replace h := h.2
        refine mV_aload_n (k := 0) (by decide +kernel) rfl ?_
        refine mV_dup (by decide +kernel) rfl ?_
        refine mV_gfix (x := mg_i G6 226 72) (by decide +kernel) fk_13_498 sh_226 rfl ?_
        refine mV_iconst (n := 1) (v := nI 1) (by decide +kernel) (by decide) ?_
        refine mV_iadd (by decide +kernel) ?_
        refine mV_pfi (by decide +kernel) fk_13_498 sh_226 ?_
        refine mV_iincc (i := 4) (n := 1) (c := nI 1) (ls' := [some (.ref 226), some (.int v1), some (.int v2), some (.int v3), some (.int (v4 + (nI 1)))]) (by decide +kernel) (by decide) rfl (Nat.le_of_ble_eq_true rfl) rfl rfl ?_
        refine mV_goto (off := -59) (tgt := 8) (by decide +kernel) (by decide) ?_
        exact h
      · replace h := h.2 hc
        refine mV_goto (off := 24) (tgt := 64) (by decide +kernel) (by decide) ?_
        refine mV_iincc (i := 4) (n := 1) (c := nI 1) (ls' := [some (.ref 226), some (.int v1), some (.int v2), some (.int v3), some (.int (v4 + (nI 1)))]) (by decide +kernel) (by decide) rfl (Nat.le_of_ble_eq_true rfl) rfl rfl ?_
        refine mV_goto (off := -59) (tgt := 8) (by decide +kernel) (by decide) ?_
        exact h
set_option maxRecDepth 100000 in
set_option maxHeartbeats 4000000 in
theorem e_X13_canSuspect {l : Launch} {κ : mm_K} {d : Nat} {G : mm_G} {K : Int32 → mm_G → Prop} (a1 : Int32) (a2 : Int32) (a3 : Int32) (h : mC l κ true (d + 1) 0 0 m_X13_isRow [.ref 226, .int a1] G (rI (fun r1 G2 => ((r1 = 0 → K (nI 0) G2) ∧ (¬ r1 = 0 → mC l κ true (d + 1) 0 0 m_X13_in [.int a2, .int (nI 0), .int (nI 2)] G2 (rI (fun r3 G4 => ((r3 = 0 → K (nI 0) G4) ∧ (¬ r3 = 0 → mC l κ true (d + 1) 0 0 m_X13_in [.int a3, .int (nI 0), .int (mg_i G4 226 65)] G4 (rI (fun r5 G6 => ((r5 = 0 → K (nI 0) G6) ∧ (¬ r5 = 0 → ((a3 = 0 → K (nI 1) G6) ∧ (¬ a3 = 0 → ((¬ a1 = (mg_i G6 226 66) → K (nI 0) G6) ∧ (a1 = (mg_i G6 226 66) → K (nI 1) G6))))))))))))))))) : mC l κ true (d + 2) 0 0 m_X13_canSuspect [.ref 226, .int a1, .int a2, .int a3] G (rI K) := by
  refine mC.of (by decide) (Nat.le_of_ble_eq_true rfl) [some (.ref 226), some (.int a1), some (.int a2), some (.int a3)] rfl ?_
  refine mV_aload_n (k := 0) (by decide +kernel) rfl ?_
  refine mV_iload_n (k := 1) (by decide +kernel) rfl ?_
  refine mV_cV (as := [.int a1]) (rest := []) (mc1 := 0) (ms1 := 0) (mc := 0) (ms := 0) (by decide +kernel) md_X13_isRow lk_13_403 sh_226 rfl rfl rfl (Nat.le_of_ble_eq_true rfl) (mC.mono (mm_contI (fun r1 G2 hK => ?_)) h)
  replace h := hK
  refine mV_if_eq (off := 40) (tgt := 45) (by decide +kernel) (by decide) (fun hc => ?_) (fun hc => ?_)
  · replace h := h.1 hc
    refine mV_iconst (n := 0) (v := nI 0) (by decide +kernel) (by decide) ?_
    exact mV_zret (by decide +kernel) rfl (by decide) h
  · replace h := h.2 hc
    refine mV_iload_n (k := 2) (by decide +kernel) rfl ?_
    refine mV_iconst (n := 0) (v := nI 0) (by decide +kernel) (by decide) ?_
    refine mV_iconst (n := 2) (v := nI 2) (by decide +kernel) (by decide) ?_
    refine mV_cS (as := [.int a2, .int (nI 0), .int (nI 2)]) (rest := []) (mc1 := 0) (ms1 := 0) (mc := 0) (ms := 0) (by decide +kernel) md_X13_in lk_13_399 rfl rfl (Nat.le_of_ble_eq_true rfl) (mC.mono (mm_contI (fun r3 G4 hK => ?_)) h)
    replace h := hK
    refine mV_if_eq (off := 31) (tgt := 45) (by decide +kernel) (by decide) (fun hc => ?_) (fun hc => ?_)
    · replace h := h.1 hc
      refine mV_iconst (n := 0) (v := nI 0) (by decide +kernel) (by decide) ?_
      exact mV_zret (by decide +kernel) rfl (by decide) h
    · replace h := h.2 hc
      refine mV_iload_n (k := 3) (by decide +kernel) rfl ?_
      refine mV_iconst (n := 0) (v := nI 0) (by decide +kernel) (by decide) ?_
      refine mV_aload_n (k := 0) (by decide +kernel) rfl ?_
      refine mV_gfix (x := mg_i G4 226 65) (by decide +kernel) fk_13_275 sh_226 rfl ?_
      refine mV_cS (as := [.int a3, .int (nI 0), .int (mg_i G4 226 65)]) (rest := []) (mc1 := 0) (ms1 := 0) (mc := 0) (ms := 0) (by decide +kernel) md_X13_in lk_13_399 rfl rfl (Nat.le_of_ble_eq_true rfl) (mC.mono (mm_contI (fun r5 G6 hK => ?_)) h)
      replace h := hK
      refine mV_if_eq (off := 19) (tgt := 45) (by decide +kernel) (by decide) (fun hc => ?_) (fun hc => ?_)
      · replace h := h.1 hc
        refine mV_iconst (n := 0) (v := nI 0) (by decide +kernel) (by decide) ?_
        exact mV_zret (by decide +kernel) rfl (by decide) h
      · replace h := h.2 hc
        refine mV_iload_n (k := 3) (by decide +kernel) rfl ?_
        refine mV_if_eq (off := 11) (tgt := 41) (by decide +kernel) (by decide) (fun hc => ?_) (fun hc => ?_)
        · replace h := h.1 hc
          refine mV_iconst (n := 1) (v := nI 1) (by decide +kernel) (by decide) ?_
          refine mV_goto (off := 4) (tgt := 46) (by decide +kernel) (by decide) ?_
          exact mV_zret (by decide +kernel) rfl (by decide) h
        · replace h := h.2 hc
          refine mV_iload_n (k := 1) (by decide +kernel) rfl ?_
          refine mV_aload_n (k := 0) (by decide +kernel) rfl ?_
          refine mV_gfix (x := mg_i G6 226 66) (by decide +kernel) fk_13_492 sh_226 rfl ?_
          refine mV_icmp_ne (off := 7) (tgt := 45) (by decide +kernel) (by decide) (fun hc => ?_) (fun hc => ?_)
          · replace h := h.1 hc
            refine mV_iconst (n := 0) (v := nI 0) (by decide +kernel) (by decide) ?_
            exact mV_zret (by decide +kernel) rfl (by decide) h
          · replace h := h.2 hc
            refine mV_iconst (n := 1) (v := nI 1) (by decide +kernel) (by decide) ?_
            refine mV_goto (off := 4) (tgt := 46) (by decide +kernel) (by decide) ?_
            exact mV_zret (by decide +kernel) rfl (by decide) h
set_option maxRecDepth 100000 in
set_option maxHeartbeats 4000000 in
theorem e_X13_suspects {l : Launch} {κ : mm_K} {d : Nat} {G : mm_G} {K : Int32 → mm_G → Prop} (a1 : Int32) (a2 : Int32) (a3 : Int32) (h : mC l κ true (d + 6) 0 0 m_X13_canSuspect [.ref 226, .int a1, .int a2, .int a3] G (rI (fun r1 G2 => ((¬ r1 = 0 → mC l κ true (d + 6) 0 0 m_X13_fillSuspects [.ref 226, .int a1, .int a2, .int a3] G2 (rV (fun G4 => K (mg_i G4 226 72) G4))) ∧ (r1 = 0 → K (-1) G2))))) : mC l κ true (d + 7) 0 0 m_X13_suspects [.ref 226, .int a1, .int a2, .int a3] G (rI K) := by
  refine mC.of (by decide) (Nat.le_of_ble_eq_true rfl) [some (.ref 226), some (.int a1), some (.int a2), some (.int a3)] rfl ?_
  refine mV_aload_n (k := 0) (by decide +kernel) rfl ?_
  refine mV_iload_n (k := 1) (by decide +kernel) rfl ?_
  refine mV_iload_n (k := 2) (by decide +kernel) rfl ?_
  refine mV_iload_n (k := 3) (by decide +kernel) rfl ?_
  refine mV_cV (as := [.int a1, .int a2, .int a3]) (rest := []) (mc1 := 0) (ms1 := 0) (mc := 0) (ms := 0) (by decide +kernel) md_X13_canSuspect lk_13_504 sh_226 rfl rfl rfl (Nat.le_of_ble_eq_true rfl) (mC.mono (mm_contI (fun r1 G2 hK => ?_)) h)
  replace h := hK
  refine mV_if_ne (off := 5) (tgt := 12) (by decide +kernel) (by decide) (fun hc => ?_) (fun hc => ?_)
  · replace h := h.1 hc
    refine mV_aload_n (k := 0) (by decide +kernel) rfl ?_
    refine mV_iload_n (k := 1) (by decide +kernel) rfl ?_
    refine mV_iload_n (k := 2) (by decide +kernel) rfl ?_
    refine mV_iload_n (k := 3) (by decide +kernel) rfl ?_
    refine mV_cV (as := [.int a1, .int a2, .int a3]) (rest := []) (mc1 := 0) (ms1 := 0) (mc := 0) (ms := 0) (by decide +kernel) md_X13_fillSuspects lk_13_507 sh_226 rfl rfl rfl (Nat.le_of_ble_eq_true rfl) (mC.mono (mm_contV (fun G4 hK => ?_)) h)
    replace h := hK
    refine mV_aload_n (k := 0) (by decide +kernel) rfl ?_
    refine mV_gfix (x := mg_i G4 226 72) (by decide +kernel) fk_13_498 sh_226 rfl ?_
    exact mV_iret (by decide +kernel) rfl h
  · replace h := h.2 hc
    refine mV_iconst (n := -1) (v := (-1)) (by decide +kernel) (by decide) ?_
    exact mV_iret (by decide +kernel) rfl h
set_option maxRecDepth 100000 in
set_option maxHeartbeats 4000000 in
theorem e_X13_suspect {l : Launch} {κ : mm_K} {d : Nat} {G : mm_G} {K : Int32 → mm_G → Prop} (a1 : Int32) (a2 : Int32) (a3 : Int32) (a4 : Int32) (h : mC l κ true (d + 6) 0 0 m_X13_canSuspect [.ref 226, .int a1, .int a2, .int a3] G (rI (fun r1 G2 => ((¬ r1 = 0 → mC l κ true (d + 6) 0 0 m_X13_fillSuspects [.ref 226, .int a1, .int a2, .int a3] G2 (rV (fun G4 => mC l κ true (d + 6) 0 0 m_X13_in [.int a4, .int (nI 0), .int ((mg_i G4 226 72) - (nI 1))] G4 (rI (fun r5 G6 => ((r5 = 0 → K (-1) G6) ∧ (¬ r5 = 0 → vp_in a4 140 ∧ K (mg_i G6 272 a4.toNatClampNeg) G6))))))) ∧ (r1 = 0 → K (-1) G2))))) : mC l κ true (d + 7) 0 0 m_X13_suspect [.ref 226, .int a1, .int a2, .int a3, .int a4] G (rI K) := by
  refine mC.of (by decide) (Nat.le_of_ble_eq_true rfl) [some (.ref 226), some (.int a1), some (.int a2), some (.int a3), some (.int a4)] rfl ?_
  refine mV_aload_n (k := 0) (by decide +kernel) rfl ?_
  refine mV_iload_n (k := 1) (by decide +kernel) rfl ?_
  refine mV_iload_n (k := 2) (by decide +kernel) rfl ?_
  refine mV_iload_n (k := 3) (by decide +kernel) rfl ?_
  refine mV_cV (as := [.int a1, .int a2, .int a3]) (rest := []) (mc1 := 0) (ms1 := 0) (mc := 0) (ms := 0) (by decide +kernel) md_X13_canSuspect lk_13_504 sh_226 rfl rfl rfl (Nat.le_of_ble_eq_true rfl) (mC.mono (mm_contI (fun r1 G2 hK => ?_)) h)
  replace h := hK
  refine mV_if_ne (off := 5) (tgt := 12) (by decide +kernel) (by decide) (fun hc => ?_) (fun hc => ?_)
  · replace h := h.1 hc
    refine mV_aload_n (k := 0) (by decide +kernel) rfl ?_
    refine mV_iload_n (k := 1) (by decide +kernel) rfl ?_
    refine mV_iload_n (k := 2) (by decide +kernel) rfl ?_
    refine mV_iload_n (k := 3) (by decide +kernel) rfl ?_
    refine mV_cV (as := [.int a1, .int a2, .int a3]) (rest := []) (mc1 := 0) (ms1 := 0) (mc := 0) (ms := 0) (by decide +kernel) md_X13_fillSuspects lk_13_507 sh_226 rfl rfl rfl (Nat.le_of_ble_eq_true rfl) (mC.mono (mm_contV (fun G4 hK => ?_)) h)
    replace h := hK
    refine mV_iload (i := 4) (by decide +kernel) rfl ?_
    refine mV_iconst (n := 0) (v := nI 0) (by decide +kernel) (by decide) ?_
    refine mV_aload_n (k := 0) (by decide +kernel) rfl ?_
    refine mV_gfix (x := mg_i G4 226 72) (by decide +kernel) fk_13_498 sh_226 rfl ?_
    refine mV_iconst (n := 1) (v := nI 1) (by decide +kernel) (by decide) ?_
    refine mV_isub (by decide +kernel) ?_
    refine mV_cS (as := [.int a4, .int (nI 0), .int ((mg_i G4 226 72) - (nI 1))]) (rest := []) (mc1 := 0) (ms1 := 0) (mc := 0) (ms := 0) (by decide +kernel) md_X13_in lk_13_399 rfl rfl (Nat.le_of_ble_eq_true rfl) (mC.mono (mm_contI (fun r5 G6 hK => ?_)) h)
    replace h := hK
    refine mV_if_eq (off := 13) (tgt := 44) (by decide +kernel) (by decide) (fun hc => ?_) (fun hc => ?_)
    · replace h := h.1 hc
      refine mV_iconst (n := -1) (v := (-1)) (by decide +kernel) (by decide) ?_
      exact mV_iret (by decide +kernel) rfl h
    · replace h := h.2 hc
      refine mV_aload_n (k := 0) (by decide +kernel) rfl ?_
      refine mV_gfr (r := some 272) (by decide +kernel) fk_13_155 sh_226 (mm_rrs st_226_71) rfl ?_
      refine mV_iload (i := 4) (by decide +kernel) rfl ?_
      refine mV_ialx (x := mg_i G6 272 a4.toNatClampNeg) (by decide +kernel) sh_272 h.1 rfl ?_
      replace h := h.2
      refine mV_goto (off := 4) (tgt := 45) (by decide +kernel) (by decide) ?_
      exact mV_iret (by decide +kernel) rfl h
  · replace h := h.2 hc
    refine mV_iconst (n := -1) (v := (-1)) (by decide +kernel) (by decide) ?_
    exact mV_iret (by decide +kernel) rfl h
set_option maxRecDepth 100000 in
set_option maxHeartbeats 4000000 in
theorem e_X13_didSame {l : Launch} {κ : mm_K} {d : Nat} {G : mm_G} {K : Int32 → mm_G → Prop} (a1 : Int32) (a2 : Int32) (h : vp_in a1 140 ∧ vp_in a2 140 ∧ ((¬ (mg_i G 274 a1.toNatClampNeg) = (mg_i G 274 a2.toNatClampNeg) → K (nI 0) G) ∧ ((mg_i G 274 a1.toNatClampNeg) = (mg_i G 274 a2.toNatClampNeg) → vp_in a1 140 ∧ vp_in a2 140 ∧ (((mg_i G 275 a1.toNatClampNeg) = (mg_i G 275 a2.toNatClampNeg) → mV l κ true d 0 0 m_X13_didSame 34 [some (.ref 226), some (.int a1), some (.int a2), some (.int (nI 0))] [] G (rI K)) ∧ (¬ (mg_i G 275 a1.toNatClampNeg) = (mg_i G 275 a2.toNatClampNeg) → K (nI 0) G))))) : mC l κ true d 0 0 m_X13_didSame [.ref 226, .int a1, .int a2] G (rI K) := by
  refine mC.of (by decide) (Nat.le_of_ble_eq_true rfl) [some (.ref 226), some (.int a1), some (.int a2), none] rfl ?_
  refine mV_aload_n (k := 0) (by decide +kernel) rfl ?_
  refine mV_gfr (r := some 274) (by decide +kernel) fk_13_161 sh_226 (mm_rrs st_226_74) rfl ?_
  refine mV_iload_n (k := 1) (by decide +kernel) rfl ?_
  refine mV_ialx (x := mg_i G 274 a1.toNatClampNeg) (by decide +kernel) sh_274 h.1 rfl ?_
  replace h := h.2
  refine mV_aload_n (k := 0) (by decide +kernel) rfl ?_
  refine mV_gfr (r := some 274) (by decide +kernel) fk_13_161 sh_226 (mm_rrs st_226_74) rfl ?_
  refine mV_iload_n (k := 2) (by decide +kernel) rfl ?_
  refine mV_ialx (x := mg_i G 274 a2.toNatClampNeg) (by decide +kernel) sh_274 h.1 rfl ?_
  replace h := h.2
  refine mV_icmp_ne (off := 18) (tgt := 30) (by decide +kernel) (by decide) (fun hc => ?_) (fun hc => ?_)
  · replace h := h.1 hc
    refine mV_iconst (n := 0) (v := nI 0) (by decide +kernel) (by decide) ?_
    exact mV_zret (by decide +kernel) rfl (by decide) h
  · replace h := h.2 hc
    refine mV_aload_n (k := 0) (by decide +kernel) rfl ?_
    refine mV_gfr (r := some 275) (by decide +kernel) fk_13_164 sh_226 (mm_rrs st_226_75) rfl ?_
    refine mV_iload_n (k := 1) (by decide +kernel) rfl ?_
    refine mV_ialx (x := mg_i G 275 a1.toNatClampNeg) (by decide +kernel) sh_275 h.1 rfl ?_
    replace h := h.2
    refine mV_aload_n (k := 0) (by decide +kernel) rfl ?_
    refine mV_gfr (r := some 275) (by decide +kernel) fk_13_164 sh_226 (mm_rrs st_226_75) rfl ?_
    refine mV_iload_n (k := 2) (by decide +kernel) rfl ?_
    refine mV_ialx (x := mg_i G 275 a2.toNatClampNeg) (by decide +kernel) sh_275 h.1 rfl ?_
    replace h := h.2
    refine mV_icmp_eq (off := 5) (tgt := 32) (by decide +kernel) (by decide) (fun hc => ?_) (fun hc => ?_)
    · replace h := h.1 hc
      refine mV_iconst (n := 0) (v := nI 0) (by decide +kernel) (by decide) ?_
      refine mV_istore_n (k := 3) (ls' := [some (.ref 226), some (.int a1), some (.int a2), some (.int (nI 0))]) (by decide +kernel) (Nat.le_of_ble_eq_true rfl) rfl rfl ?_
      exact h
    · replace h := h.2 hc
      refine mV_iconst (n := 0) (v := nI 0) (by decide +kernel) (by decide) ?_
      exact mV_zret (by decide +kernel) rfl (by decide) h
set_option maxRecDepth 100000 in
set_option maxHeartbeats 4000000 in
theorem p_X13_didSame_34 {l : Launch} {κ : mm_K} {d : Nat} {G : mm_G} {K : Int32 → mm_G → Prop} (v1 : Int32) (v2 : Int32) (v3 : Int32) (h : vp_in v1 140 ∧ (((mg_i G 275 v1.toNatClampNeg) ≤ v3 → K (nI 1) G) ∧ (¬ (mg_i G 275 v1.toNatClampNeg) ≤ v3 → vp_in (((nI 8) * v1) + v3) 1120 ∧ vp_in (((nI 8) * v2) + v3) 1120 ∧ (((mg_i G 276 ((((nI 8) * v1) + v3).toNatClampNeg)) = (mg_i G 276 ((((nI 8) * v2) + v3).toNatClampNeg)) → mV l κ true d 0 0 m_X13_didSame 34 [some (.ref 226), some (.int v1), some (.int v2), some (.int (v3 + (nI 1)))] [] G (rI K)) ∧ (¬ (mg_i G 276 ((((nI 8) * v1) + v3).toNatClampNeg)) = (mg_i G 276 ((((nI 8) * v2) + v3).toNatClampNeg)) → K (nI 0) G))))) : mV l κ true d 0 0 m_X13_didSame 34 [some (.ref 226), some (.int v1), some (.int v2), some (.int v3)] [] G (rI K) := by
  refine mV_iload_n (k := 3) (by decide +kernel) rfl ?_
  refine mV_aload_n (k := 0) (by decide +kernel) rfl ?_
  refine mV_gfr (r := some 275) (by decide +kernel) fk_13_164 sh_226 (mm_rrs st_226_75) rfl ?_
  refine mV_iload_n (k := 1) (by decide +kernel) rfl ?_
  refine mV_ialx (x := mg_i G 275 v1.toNatClampNeg) (by decide +kernel) sh_275 h.1 rfl ?_
  replace h := h.2
  refine mV_icmp_ge (off := 36) (tgt := 77) (by decide +kernel) (by decide) (fun hc => ?_) (fun hc => ?_)
  · replace h := h.1 hc
    refine mV_iconst (n := 1) (v := nI 1) (by decide +kernel) (by decide) ?_
    exact mV_zret (by decide +kernel) rfl (by decide) h
  · replace h := h.2 hc
    refine mV_aload_n (k := 0) (by decide +kernel) rfl ?_
    refine mV_gfr (r := some 276) (by decide +kernel) fk_13_167 sh_226 (mm_rrs st_226_76) rfl ?_
    refine mV_bipush (n := 8) (v := nI 8) (by decide +kernel) (by decide) ?_
    refine mV_iload_n (k := 1) (by decide +kernel) rfl ?_
    refine mV_imul (by decide +kernel) ?_
    refine mV_iload_n (k := 3) (by decide +kernel) rfl ?_
    refine mV_iadd (by decide +kernel) ?_
    refine mV_ialx (x := mg_i G 276 ((((nI 8) * v1) + v3).toNatClampNeg)) (by decide +kernel) sh_276 h.1 rfl ?_
    replace h := h.2
    refine mV_aload_n (k := 0) (by decide +kernel) rfl ?_
    refine mV_gfr (r := some 276) (by decide +kernel) fk_13_167 sh_226 (mm_rrs st_226_76) rfl ?_
    refine mV_bipush (n := 8) (v := nI 8) (by decide +kernel) (by decide) ?_
    refine mV_iload_n (k := 2) (by decide +kernel) rfl ?_
    refine mV_imul (by decide +kernel) ?_
    refine mV_iload_n (k := 3) (by decide +kernel) rfl ?_
    refine mV_iadd (by decide +kernel) ?_
    refine mV_ialx (x := mg_i G 276 ((((nI 8) * v2) + v3).toNatClampNeg)) (by decide +kernel) sh_276 h.1 rfl ?_
    replace h := h.2
    refine mV_icmp_eq (off := 5) (tgt := 71) (by decide +kernel) (by decide) (fun hc => ?_) (fun hc => ?_)
    · replace h := h.1 hc
      refine mV_iincc (i := 3) (n := 1) (c := nI 1) (ls' := [some (.ref 226), some (.int v1), some (.int v2), some (.int (v3 + (nI 1)))]) (by decide +kernel) (by decide) rfl (Nat.le_of_ble_eq_true rfl) rfl rfl ?_
      refine mV_goto (off := -40) (tgt := 34) (by decide +kernel) (by decide) ?_
      exact h
    · replace h := h.2 hc
      refine mV_iconst (n := 0) (v := nI 0) (by decide +kernel) (by decide) ?_
      exact mV_zret (by decide +kernel) rfl (by decide) h
set_option maxRecDepth 100000 in
set_option maxHeartbeats 4000000 in
theorem e_X13_fillGroups {l : Launch} {κ : mm_K} {d : Nat} {G : mm_G} {K : mm_G → Prop} (a1 : Int32) (h : mV l κ true (d + 5) 0 0 m_X13_fillGroups 2 [some (.ref 226), some (.int a1), some (.int (nI 0)), none, none] [] G (rV K)) : mC l κ true (d + 5) 0 0 m_X13_fillGroups [.ref 226, .int a1] G (rV K) := by
  refine mC.of (by decide) (Nat.le_of_ble_eq_true rfl) [some (.ref 226), some (.int a1), none, none, none] rfl ?_
  refine mV_iconst (n := 0) (v := nI 0) (by decide +kernel) (by decide) ?_
  refine mV_istore_n (k := 2) (ls' := [some (.ref 226), some (.int a1), some (.int (nI 0)), none, none]) (by decide +kernel) (Nat.le_of_ble_eq_true rfl) rfl rfl ?_
  exact h
set_option maxRecDepth 100000 in
set_option maxHeartbeats 4000000 in
theorem p_X13_fillGroups_2 {l : Launch} {κ : mm_K} {d : Nat} {G : mm_G} {K : mm_G → Prop} (v1 : Int32) (v2 : Int32) (h : vp_in (mg_i G 226 18) 2 ∧ (((mg_i G 249 ((mg_i G 226 18).toNatClampNeg)) ≤ v2 → K G) ∧ (¬ (mg_i G 249 ((mg_i G 226 18).toNatClampNeg)) ≤ v2 → mV l κ true (d + 5) 0 0 m_X13_fillGroups 17 [some (.ref 226), some (.int v1), some (.int v2), some (.int (nI 0)), none] [] G (rV K)))) : mV l κ true (d + 5) 0 0 m_X13_fillGroups 2 [some (.ref 226), some (.int v1), some (.int v2), none, none] [] G (rV K) := by
  refine mV_iload_n (k := 2) (by decide +kernel) rfl ?_
  refine mV_aload_n (k := 0) (by decide +kernel) rfl ?_
  refine mV_gfr (r := some 249) (by decide +kernel) fk_13_85 sh_226 (mm_rrs st_226_35) rfl ?_
  refine mV_aload_n (k := 0) (by decide +kernel) rfl ?_
  refine mV_gfix (x := mg_i G 226 18) (by decide +kernel) fk_13_266 sh_226 rfl ?_
  refine mV_ialx (x := mg_i G 249 ((mg_i G 226 18).toNatClampNeg)) (by decide +kernel) sh_249 h.1 rfl ?_
  replace h := h.2
  refine mV_icmp_ge (off := 131) (tgt := 143) (by decide +kernel) (by decide) (fun hc => ?_) (fun hc => ?_)
  · replace h := h.1 hc
    exact mV_vret (by decide +kernel) rfl h
  · replace h := h.2 hc
    refine mV_iconst (n := 0) (v := nI 0) (by decide +kernel) (by decide) ?_
    refine mV_istore_n (k := 3) (ls' := [some (.ref 226), some (.int v1), some (.int v2), some (.int (nI 0)), none]) (by decide +kernel) (Nat.le_of_ble_eq_true rfl) rfl rfl ?_
    exact h
set_option maxRecDepth 100000 in
set_option maxHeartbeats 4000000 in
theorem p_X13_fillGroups_17 {l : Launch} {κ : mm_K} {d : Nat} {G : mm_G} {K : mm_G → Prop} (v1 : Int32) (v2 : Int32) (v3 : Int32) (h : (((mg_i G 226 72) ≤ v3 → mV l κ true (d + 5) 0 0 m_X13_fillGroups 2 [some (.ref 226), some (.int v1), some (.int (v2 + (nI 1))), none, none] [] G (rV K)) ∧ (¬ (mg_i G 226 72) ≤ v3 → vp_in v3 140 ∧ mC l κ true (d + 4) 0 0 m_X13_takesRow [.ref 226, .int v1, .int (mg_i G 272 v3.toNatClampNeg)] G (rV (fun G2 => mC l κ true (d + 4) 0 0 m_X13_runs [.ref 226, .int v2] G2 (rV (fun G4 => vp_in v3 140 ∧ vp_in v3 140 ∧ mV l κ true (d + 5) 0 0 m_X13_fillGroups 64 [some (.ref 226), some (.int v1), some (.int v2), some (.int v3), some (.int (nI 0))] [] (ms_i (ms_i G4 274 v3.toNatClampNeg (mg_i G4 226 55)) 275 v3.toNatClampNeg (mg_i G4 226 51)) (rV K)))))))) : mV l κ true (d + 5) 0 0 m_X13_fillGroups 17 [some (.ref 226), some (.int v1), some (.int v2), some (.int v3), none] [] G (rV K) := by
  refine mV_iload_n (k := 3) (by decide +kernel) rfl ?_
  refine mV_aload_n (k := 0) (by decide +kernel) rfl ?_
  refine mV_gfix (x := mg_i G 226 72) (by decide +kernel) fk_13_498 sh_226 rfl ?_
  refine mV_icmp_ge (off := 115) (tgt := 137) (by decide +kernel) (by decide) (fun hc => ?_) (fun hc => ?_)
  · replace h := h.1 hc
    refine mV_iincc (i := 2) (n := 1) (c := nI 1) (ls' := [some (.ref 226), some (.int v1), some (.int (v2 + (nI 1))), some (.int v3), none]) (by decide +kernel) (by decide) rfl (Nat.le_of_ble_eq_true rfl) rfl rfl ?_
    refine mV_goto (off := -138) (tgt := 2) (by decide +kernel) (by decide) ?_
    refine mV_fg [3] (ls' := [some (.ref 226), some (.int v1), some (.int (v2 + (nI 1))), none, none]) rfl ?_
    exact h
  · replace h := h.2 hc
    refine mV_aload_n (k := 0) (by decide +kernel) rfl ?_
    refine mV_iload_n (k := 1) (by decide +kernel) rfl ?_
    refine mV_aload_n (k := 0) (by decide +kernel) rfl ?_
    refine mV_gfr (r := some 272) (by decide +kernel) fk_13_155 sh_226 (mm_rrs st_226_71) rfl ?_
    refine mV_iload_n (k := 3) (by decide +kernel) rfl ?_
    refine mV_ialx (x := mg_i G 272 v3.toNatClampNeg) (by decide +kernel) sh_272 h.1 rfl ?_
    replace h := h.2
    refine mV_cV (as := [.int v1, .int (mg_i G 272 v3.toNatClampNeg)]) (rest := []) (mc1 := 0) (ms1 := 0) (mc := 0) (ms := 0) (by decide +kernel) md_X13_takesRow lk_13_387 sh_226 rfl rfl rfl (Nat.le_of_ble_eq_true rfl) (mC.mono (mm_contV (fun G2 hK => ?_)) h)
    replace h := hK
    refine mV_aload_n (k := 0) (by decide +kernel) rfl ?_
    refine mV_iload_n (k := 2) (by decide +kernel) rfl ?_
    refine mV_cV (as := [.int v2]) (rest := []) (mc1 := 0) (ms1 := 0) (mc := 0) (ms := 0) (by decide +kernel) md_X13_runs lk_13_390 sh_226 rfl rfl rfl (Nat.le_of_ble_eq_true rfl) (mC.mono (mm_contV (fun G4 hK => ?_)) h)
    replace h := hK
    refine mV_aload_n (k := 0) (by decide +kernel) rfl ?_
    refine mV_gfr (r := some 274) (by decide +kernel) fk_13_161 sh_226 (mm_rrs st_226_74) rfl ?_
    refine mV_iload_n (k := 3) (by decide +kernel) rfl ?_
    refine mV_aload_n (k := 0) (by decide +kernel) rfl ?_
    refine mV_gfix (x := mg_i G4 226 55) (by decide +kernel) fk_13_374 sh_226 rfl ?_
    refine mV_ias (by decide +kernel) sh_274 h.1 ?_
    replace h := h.2
    refine mV_aload_n (k := 0) (by decide +kernel) rfl ?_
    refine mV_gfr (r := some 275) (by decide +kernel) fk_13_164 sh_226 (mm_rrs st_226_75) rfl ?_
    refine mV_iload_n (k := 3) (by decide +kernel) rfl ?_
    refine mV_aload_n (k := 0) (by decide +kernel) rfl ?_
    refine mV_gfix (x := mg_i G4 226 51) (by decide +kernel) fk_13_368 sh_226 rfl ?_
    refine mV_ias (by decide +kernel) sh_275 h.1 ?_
    replace h := h.2
    refine mV_iconst (n := 0) (v := nI 0) (by decide +kernel) (by decide) ?_
    refine mV_istore (i := 4) (ls' := [some (.ref 226), some (.int v1), some (.int v2), some (.int v3), some (.int (nI 0))]) (by decide +kernel) (Nat.le_of_ble_eq_true rfl) rfl rfl ?_
    exact h
set_option maxRecDepth 100000 in
set_option maxHeartbeats 4000000 in
theorem p_X13_fillGroups_64 {l : Launch} {κ : mm_K} {d : Nat} {G : mm_G} {K : mm_G → Prop} (v1 : Int32) (v2 : Int32) (v3 : Int32) (v4 : Int32) (h : (((mg_i G 226 51) ≤ v4 → mV l κ true (d + 5) 0 0 m_X13_fillGroups 101 [some (.ref 226), some (.int v1), some (.int v2), some (.int v3), some (.int (nI 0))] [] G (rV K)) ∧ (¬ (mg_i G 226 51) ≤ v4 → vp_in v4 8 ∧ vp_in (((nI 8) * v3) + v4) 1120 ∧ mV l κ true (d + 5) 0 0 m_X13_fillGroups 64 [some (.ref 226), some (.int v1), some (.int v2), some (.int v3), some (.int (v4 + (nI 1)))] [] (ms_i G 276 ((((nI 8) * v3) + v4).toNatClampNeg) (mg_i G 258 v4.toNatClampNeg)) (rV K)))) : mV l κ true (d + 5) 0 0 m_X13_fillGroups 64 [some (.ref 226), some (.int v1), some (.int v2), some (.int v3), some (.int v4)] [] G (rV K) := by
  refine mV_iload (i := 4) (by decide +kernel) rfl ?_
  refine mV_aload_n (k := 0) (by decide +kernel) rfl ?_
  refine mV_gfix (x := mg_i G 226 51) (by decide +kernel) fk_13_368 sh_226 rfl ?_
  refine mV_icmp_ge (off := 28) (tgt := 98) (by decide +kernel) (by decide) (fun hc => ?_) (fun hc => ?_)
  · replace h := h.1 hc
    refine mV_iconst (n := 0) (v := nI 0) (by decide +kernel) (by decide) ?_
    refine mV_istore (i := 4) (ls' := [some (.ref 226), some (.int v1), some (.int v2), some (.int v3), some (.int (nI 0))]) (by decide +kernel) (Nat.le_of_ble_eq_true rfl) rfl rfl ?_
    exact h
  · replace h := h.2 hc
    refine mV_aload_n (k := 0) (by decide +kernel) rfl ?_
    refine mV_gfr (r := some 276) (by decide +kernel) fk_13_167 sh_226 (mm_rrs st_226_76) rfl ?_
    refine mV_bipush (n := 8) (v := nI 8) (by decide +kernel) (by decide) ?_
    refine mV_iload_n (k := 3) (by decide +kernel) rfl ?_
    refine mV_imul (by decide +kernel) ?_
    refine mV_iload (i := 4) (by decide +kernel) rfl ?_
    refine mV_iadd (by decide +kernel) ?_
    refine mV_aload_n (k := 0) (by decide +kernel) rfl ?_
    refine mV_gfr (r := some 258) (by decide +kernel) fk_13_112 sh_226 (mm_rrs st_226_52) rfl ?_
    refine mV_iload (i := 4) (by decide +kernel) rfl ?_
    refine mV_ialx (x := mg_i G 258 v4.toNatClampNeg) (by decide +kernel) sh_258 h.1 rfl ?_
    replace h := h.2
    refine mV_ias (by decide +kernel) sh_276 h.1 ?_
    replace h := h.2
    refine mV_iincc (i := 4) (n := 1) (c := nI 1) (ls' := [some (.ref 226), some (.int v1), some (.int v2), some (.int v3), some (.int (v4 + (nI 1)))]) (by decide +kernel) (by decide) rfl (Nat.le_of_ble_eq_true rfl) rfl rfl ?_
    refine mV_goto (off := -31) (tgt := 64) (by decide +kernel) (by decide) ?_
    exact h
set_option maxRecDepth 100000 in
set_option maxHeartbeats 4000000 in
theorem p_X13_fillGroups_101 {l : Launch} {κ : mm_K} {d : Nat} {G : mm_G} {K : mm_G → Prop} (v1 : Int32) (v2 : Int32) (v3 : Int32) (v4 : Int32) (h : mC l κ true (d + 4) 0 0 m_X13_didSame [.ref 226, .int v4, .int v3] G (rI (fun r1 G2 => ((¬ r1 = 0 → vp_in (((nI 140) * v2) + v3) 1120 ∧ mV l κ true (d + 5) 0 0 m_X13_fillGroups 17 [some (.ref 226), some (.int v1), some (.int v2), some (.int (v3 + (nI 1))), none] [] (ms_i G2 273 ((((nI 140) * v2) + v3).toNatClampNeg) v4) (rV K)) ∧ (r1 = 0 → mV l κ true (d + 5) 0 0 m_X13_fillGroups 101 [some (.ref 226), some (.int v1), some (.int v2), some (.int v3), some (.int (v4 + (nI 1)))] [] G2 (rV K)))))) : mV l κ true (d + 5) 0 0 m_X13_fillGroups 101 [some (.ref 226), some (.int v1), some (.int v2), some (.int v3), some (.int v4)] [] G (rV K) := by
  refine mV_aload_n (k := 0) (by decide +kernel) rfl ?_
  refine mV_iload (i := 4) (by decide +kernel) rfl ?_
  refine mV_iload_n (k := 3) (by decide +kernel) rfl ?_
  refine mV_cV (as := [.int v4, .int v3]) (rest := []) (mc1 := 0) (ms1 := 0) (mc := 0) (ms := 0) (by decide +kernel) md_X13_didSame lk_13_510 sh_226 rfl rfl rfl (Nat.le_of_ble_eq_true rfl) (mC.mono (mm_contI (fun r1 G2 hK => ?_)) h)
  replace h := hK
  refine mV_if_ne (off := 9) (tgt := 117) (by decide +kernel) (by decide) (fun hc => ?_) (fun hc => ?_)
  · replace h := h.1 hc
    refine mV_aload_n (k := 0) (by decide +kernel) rfl ?_
    refine mV_gfr (r := some 273) (by decide +kernel) fk_13_158 sh_226 (mm_rrs st_226_73) rfl ?_
    refine mV_sipush (n := 140) (v := nI 140) (by decide +kernel) (by decide) ?_
    refine mV_iload_n (k := 2) (by decide +kernel) rfl ?_
    refine mV_imul (by decide +kernel) ?_
    refine mV_iload_n (k := 3) (by decide +kernel) rfl ?_
    refine mV_iadd (by decide +kernel) ?_
    refine mV_iload (i := 4) (by decide +kernel) rfl ?_
    refine mV_ias (by decide +kernel) sh_273 h.1 ?_
    replace h := h.2
    refine mV_iincc (i := 3) (n := 1) (c := nI 1) (ls' := [some (.ref 226), some (.int v1), some (.int v2), some (.int (v3 + (nI 1))), some (.int v4)]) (by decide +kernel) (by decide) rfl (Nat.le_of_ble_eq_true rfl) rfl rfl ?_
    refine mV_goto (off := -117) (tgt := 17) (by decide +kernel) (by decide) ?_
    refine mV_fg [4] (ls' := [some (.ref 226), some (.int v1), some (.int v2), some (.int (v3 + (nI 1))), none]) rfl ?_
    exact h
  · replace h := h.2 hc
    refine mV_iincc (i := 4) (n := 1) (c := nI 1) (ls' := [some (.ref 226), some (.int v1), some (.int v2), some (.int v3), some (.int (v4 + (nI 1)))]) (by decide +kernel) (by decide) rfl (Nat.le_of_ble_eq_true rfl) rfl rfl ?_
    refine mV_goto (off := -13) (tgt := 101) (by decide +kernel) (by decide) ?_
    exact h
set_option maxRecDepth 100000 in
set_option maxHeartbeats 4000000 in
theorem e_X13_splits {l : Launch} {κ : mm_K} {d : Nat} {G : mm_G} {K : Int32 → mm_G → Prop} (a1 : Int32) (a2 : Int32) (h : mV l κ true d 0 0 m_X13_splits 5 [some (.ref 226), some (.int a1), some (.int a2), some (.int (-1)), some (.int (nI 0))] [] G (rI K)) : mC l κ true d 0 0 m_X13_splits [.ref 226, .int a1, .int a2] G (rI K) := by
  refine mC.of (by decide) (Nat.le_of_ble_eq_true rfl) [some (.ref 226), some (.int a1), some (.int a2), none, none] rfl ?_
  refine mV_iconst (n := -1) (v := (-1)) (by decide +kernel) (by decide) ?_
  refine mV_istore_n (k := 3) (ls' := [some (.ref 226), some (.int a1), some (.int a2), some (.int (-1)), none]) (by decide +kernel) (Nat.le_of_ble_eq_true rfl) rfl rfl ?_
  refine mV_iconst (n := 0) (v := nI 0) (by decide +kernel) (by decide) ?_
  refine mV_istore (i := 4) (ls' := [some (.ref 226), some (.int a1), some (.int a2), some (.int (-1)), some (.int (nI 0))]) (by decide +kernel) (Nat.le_of_ble_eq_true rfl) rfl rfl ?_
  exact h
set_option maxRecDepth 100000 in
set_option maxHeartbeats 4000000 in
theorem p_X13_splits_5 {l : Launch} {κ : mm_K} {d : Nat} {G : mm_G} {K : Int32 → mm_G → Prop} (v1 : Int32) (v2 : Int32) (v3 : Int32) (v4 : Int32) (h : (((mg_i G 226 72) ≤ v4 → K (nI 0) G) ∧ (¬ (mg_i G 226 72) ≤ v4 → vp_in (((nI 140) * v1) + v4) 700 ∧ ((¬ (mg_i G 277 ((((nI 140) * v1) + v4).toNatClampNeg)) = 0 → ((¬ v3 = (-1) → vp_in (((nI 140) * v2) + v4) 1120 ∧ (((mg_i G 273 ((((nI 140) * v2) + v4).toNatClampNeg)) = v3 → mV l κ true d 0 0 m_X13_splits 5 [some (.ref 226), some (.int v1), some (.int v2), some (.int v3), some (.int (v4 + (nI 1)))] [] G (rI K)) ∧ (¬ (mg_i G 273 ((((nI 140) * v2) + v4).toNatClampNeg)) = v3 → K (nI 1) G))) ∧ (v3 = (-1) → vp_in (((nI 140) * v2) + v4) 1120 ∧ vp_in (((nI 140) * v2) + v4) 1120 ∧ (((mg_i G 273 ((((nI 140) * v2) + v4).toNatClampNeg)) = (mg_i G 273 ((((nI 140) * v2) + v4).toNatClampNeg)) → mV l κ true d 0 0 m_X13_splits 5 [some (.ref 226), some (.int v1), some (.int v2), some (.int (mg_i G 273 ((((nI 140) * v2) + v4).toNatClampNeg))), some (.int (v4 + (nI 1)))] [] G (rI K)) ∧ (¬ (mg_i G 273 ((((nI 140) * v2) + v4).toNatClampNeg)) = (mg_i G 273 ((((nI 140) * v2) + v4).toNatClampNeg)) → K (nI 1) G))))) ∧ ((mg_i G 277 ((((nI 140) * v1) + v4).toNatClampNeg)) = 0 → mV l κ true d 0 0 m_X13_splits 5 [some (.ref 226), some (.int v1), some (.int v2), some (.int v3), some (.int (v4 + (nI 1)))] [] G (rI K)))))) : mV l κ true d 0 0 m_X13_splits 5 [some (.ref 226), some (.int v1), some (.int v2), some (.int v3), some (.int v4)] [] G (rI K) := by
  refine mV_iload (i := 4) (by decide +kernel) rfl ?_
  refine mV_aload_n (k := 0) (by decide +kernel) rfl ?_
  refine mV_gfix (x := mg_i G 226 72) (by decide +kernel) fk_13_498 sh_226 rfl ?_
  refine mV_icmp_ge (off := 66) (tgt := 77) (by decide +kernel) (by decide) (fun hc => ?_) (fun hc => ?_)
  · replace h := h.1 hc
    refine mV_iconst (n := 0) (v := nI 0) (by decide +kernel) (by decide) ?_
    exact mV_zret (by decide +kernel) rfl (by decide) h
  · replace h := h.2 hc
    refine mV_aload_n (k := 0) (by decide +kernel) rfl ?_
    refine mV_gfr (r := some 277) (by decide +kernel) fk_13_170 sh_226 (mm_rrs st_226_77) rfl ?_
    refine mV_sipush (n := 140) (v := nI 140) (by decide +kernel) (by decide) ?_
    refine mV_iload_n (k := 1) (by decide +kernel) rfl ?_
    refine mV_imul (by decide +kernel) ?_
    refine mV_iload (i := 4) (by decide +kernel) rfl ?_
    refine mV_iadd (by decide +kernel) ?_
    refine mV_zalx (x := mg_i G 277 ((((nI 140) * v1) + v4).toNatClampNeg)) (by decide +kernel) sh_277 h.1 rfl ?_
    replace h := h.2
    refine mV_if_ne (off := 6) (tgt := 33) (by decide +kernel) (by decide) (fun hc => ?_) (fun hc => ?_)
    · replace h := h.1 hc
      refine mV_iload_n (k := 3) (by decide +kernel) rfl ?_
      refine mV_iconst (n := -1) (v := (-1)) (by decide +kernel) (by decide) ?_
      refine mV_icmp_ne (off := 17) (tgt := 52) (by decide +kernel) (by decide) (fun hc => ?_) (fun hc => ?_)
      · replace h := h.1 hc
        refine mV_aload_n (k := 0) (by decide +kernel) rfl ?_
        refine mV_gfr (r := some 273) (by decide +kernel) fk_13_158 sh_226 (mm_rrs st_226_73) rfl ?_
        refine mV_sipush (n := 140) (v := nI 140) (by decide +kernel) (by decide) ?_
        refine mV_iload_n (k := 2) (by decide +kernel) rfl ?_
        refine mV_imul (by decide +kernel) ?_
        refine mV_iload (i := 4) (by decide +kernel) rfl ?_
        refine mV_iadd (by decide +kernel) ?_
        refine mV_ialx (x := mg_i G 273 ((((nI 140) * v2) + v4).toNatClampNeg)) (by decide +kernel) sh_273 h.1 rfl ?_
        replace h := h.2
        refine mV_iload_n (k := 3) (by decide +kernel) rfl ?_
        refine mV_icmp_eq (off := 5) (tgt := 71) (by decide +kernel) (by decide) (fun hc => ?_) (fun hc => ?_)
        · replace h := h.1 hc
          refine mV_iincc (i := 4) (n := 1) (c := nI 1) (ls' := [some (.ref 226), some (.int v1), some (.int v2), some (.int v3), some (.int (v4 + (nI 1)))]) (by decide +kernel) (by decide) rfl (Nat.le_of_ble_eq_true rfl) rfl rfl ?_
          refine mV_goto (off := -69) (tgt := 5) (by decide +kernel) (by decide) ?_
          exact h
        · replace h := h.2 hc
          refine mV_iconst (n := 1) (v := nI 1) (by decide +kernel) (by decide) ?_
          exact mV_zret (by decide +kernel) rfl (by decide) h
      · replace h := h.2 hc
        refine mV_aload_n (k := 0) (by decide +kernel) rfl ?_
        refine mV_gfr (r := some 273) (by decide +kernel) fk_13_158 sh_226 (mm_rrs st_226_73) rfl ?_
        refine mV_sipush (n := 140) (v := nI 140) (by decide +kernel) (by decide) ?_
        refine mV_iload_n (k := 2) (by decide +kernel) rfl ?_
        refine mV_imul (by decide +kernel) ?_
        refine mV_iload (i := 4) (by decide +kernel) rfl ?_
        refine mV_iadd (by decide +kernel) ?_
        refine mV_ialx (x := mg_i G 273 ((((nI 140) * v2) + v4).toNatClampNeg)) (by decide +kernel) sh_273 h.1 rfl ?_
        replace h := h.2
        refine mV_istore_n (k := 3) (ls' := [some (.ref 226), some (.int v1), some (.int v2), some (.int (mg_i G 273 ((((nI 140) * v2) + v4).toNatClampNeg))), some (.int v4)]) (by decide +kernel) (Nat.le_of_ble_eq_true rfl) rfl rfl ?_
        refine mV_aload_n (k := 0) (by decide +kernel) rfl ?_
        refine mV_gfr (r := some 273) (by decide +kernel) fk_13_158 sh_226 (mm_rrs st_226_73) rfl ?_
        refine mV_sipush (n := 140) (v := nI 140) (by decide +kernel) (by decide) ?_
        refine mV_iload_n (k := 2) (by decide +kernel) rfl ?_
        refine mV_imul (by decide +kernel) ?_
        refine mV_iload (i := 4) (by decide +kernel) rfl ?_
        refine mV_iadd (by decide +kernel) ?_
        refine mV_ialx (x := mg_i G 273 ((((nI 140) * v2) + v4).toNatClampNeg)) (by decide +kernel) sh_273 h.1 rfl ?_
        replace h := h.2
        refine mV_iload_n (k := 3) (by decide +kernel) rfl ?_
        refine mV_icmp_eq (off := 5) (tgt := 71) (by decide +kernel) (by decide) (fun hc => ?_) (fun hc => ?_)
        · replace h := h.1 hc
          refine mV_iincc (i := 4) (n := 1) (c := nI 1) (ls' := [some (.ref 226), some (.int v1), some (.int v2), some (.int (mg_i G 273 ((((nI 140) * v2) + v4).toNatClampNeg))), some (.int (v4 + (nI 1)))]) (by decide +kernel) (by decide) rfl (Nat.le_of_ble_eq_true rfl) rfl rfl ?_
          refine mV_goto (off := -69) (tgt := 5) (by decide +kernel) (by decide) ?_
          exact h
        · replace h := h.2 hc
          refine mV_iconst (n := 1) (v := nI 1) (by decide +kernel) (by decide) ?_
          exact mV_zret (by decide +kernel) rfl (by decide) h
    · replace h := h.2 hc
      refine mV_goto (off := 41) (tgt := 71) (by decide +kernel) (by decide) ?_
      refine mV_iincc (i := 4) (n := 1) (c := nI 1) (ls' := [some (.ref 226), some (.int v1), some (.int v2), some (.int v3), some (.int (v4 + (nI 1)))]) (by decide +kernel) (by decide) rfl (Nat.le_of_ble_eq_true rfl) rfl rfl ?_
      refine mV_goto (off := -69) (tgt := 5) (by decide +kernel) (by decide) ?_
      exact h
set_option maxRecDepth 100000 in
set_option maxHeartbeats 4000000 in
theorem e_X13_greatest {l : Launch} {κ : mm_K} {d : Nat} {G : mm_G} {K : Int32 → mm_G → Prop} (a1 : Int32) (h : mV l κ true d 0 0 m_X13_greatest 4 [some (.ref 226), some (.int a1), some (.int (nI 0)), some (.int (nI 0)), none, none] [] G (rI K)) : mC l κ true d 0 0 m_X13_greatest [.ref 226, .int a1] G (rI K) := by
  refine mC.of (by decide) (Nat.le_of_ble_eq_true rfl) [some (.ref 226), some (.int a1), none, none, none, none] rfl ?_
  refine mV_iconst (n := 0) (v := nI 0) (by decide +kernel) (by decide) ?_
  refine mV_istore_n (k := 2) (ls' := [some (.ref 226), some (.int a1), some (.int (nI 0)), none, none, none]) (by decide +kernel) (Nat.le_of_ble_eq_true rfl) rfl rfl ?_
  refine mV_iconst (n := 0) (v := nI 0) (by decide +kernel) (by decide) ?_
  refine mV_istore_n (k := 3) (ls' := [some (.ref 226), some (.int a1), some (.int (nI 0)), some (.int (nI 0)), none, none]) (by decide +kernel) (Nat.le_of_ble_eq_true rfl) rfl rfl ?_
  exact h
set_option maxRecDepth 100000 in
set_option maxHeartbeats 4000000 in
theorem p_X13_greatest_4 {l : Launch} {κ : mm_K} {d : Nat} {G : mm_G} {K : Int32 → mm_G → Prop} (v1 : Int32) (v2 : Int32) (v3 : Int32) (h : (((mg_i G 226 72) ≤ v3 → K v2 G) ∧ (¬ (mg_i G 226 72) ≤ v3 → mV l κ true d 0 0 m_X13_greatest 18 [some (.ref 226), some (.int v1), some (.int v2), some (.int v3), some (.int (nI 0)), some (.int (nI 0))] [] G (rI K)))) : mV l κ true d 0 0 m_X13_greatest 4 [some (.ref 226), some (.int v1), some (.int v2), some (.int v3), none, none] [] G (rI K) := by
  refine mV_iload_n (k := 3) (by decide +kernel) rfl ?_
  refine mV_aload_n (k := 0) (by decide +kernel) rfl ?_
  refine mV_gfix (x := mg_i G 226 72) (by decide +kernel) fk_13_498 sh_226 rfl ?_
  refine mV_icmp_ge (off := 59) (tgt := 68) (by decide +kernel) (by decide) (fun hc => ?_) (fun hc => ?_)
  · replace h := h.1 hc
    refine mV_iload_n (k := 2) (by decide +kernel) rfl ?_
    exact mV_iret (by decide +kernel) rfl h
  · replace h := h.2 hc
    refine mV_iconst (n := 0) (v := nI 0) (by decide +kernel) (by decide) ?_
    refine mV_istore (i := 4) (ls' := [some (.ref 226), some (.int v1), some (.int v2), some (.int v3), some (.int (nI 0)), none]) (by decide +kernel) (Nat.le_of_ble_eq_true rfl) rfl rfl ?_
    refine mV_iconst (n := 0) (v := nI 0) (by decide +kernel) (by decide) ?_
    refine mV_istore (i := 5) (ls' := [some (.ref 226), some (.int v1), some (.int v2), some (.int v3), some (.int (nI 0)), some (.int (nI 0))]) (by decide +kernel) (Nat.le_of_ble_eq_true rfl) rfl rfl ?_
    exact h
set_option maxRecDepth 100000 in
set_option maxHeartbeats 4000000 in
theorem p_X13_greatest_18 {l : Launch} {κ : mm_K} {d : Nat} {G : mm_G} {K : Int32 → mm_G → Prop} (v1 : Int32) (v2 : Int32) (v3 : Int32) (v4 : Int32) (v5 : Int32) (h : (((mg_i G 226 72) ≤ v5 → ((v4 ≤ v2 → mV l κ true d 0 0 m_X13_greatest 4 [some (.ref 226), some (.int v1), some (.int v2), some (.int (v3 + (nI 1))), none, none] [] G (rI K)) ∧ (¬ v4 ≤ v2 → mV l κ true d 0 0 m_X13_greatest 4 [some (.ref 226), some (.int v1), some (.int v4), some (.int (v3 + (nI 1))), none, none] [] G (rI K)))) ∧ (¬ (mg_i G 226 72) ≤ v5 → vp_in (((nI 140) * v1) + v5) 1120 ∧ ((¬ (mg_i G 273 ((((nI 140) * v1) + v5).toNatClampNeg)) = v3 → mV l κ true d 0 0 m_X13_greatest 18 [some (.ref 226), some (.int v1), some (.int v2), some (.int v3), some (.int v4), some (.int (v5 + (nI 1)))] [] G (rI K)) ∧ ((mg_i G 273 ((((nI 140) * v1) + v5).toNatClampNeg)) = v3 → mV l κ true d 0 0 m_X13_greatest 18 [some (.ref 226), some (.int v1), some (.int v2), some (.int v3), some (.int (v4 + (nI 1))), some (.int (v5 + (nI 1)))] [] G (rI K)))))) : mV l κ true d 0 0 m_X13_greatest 18 [some (.ref 226), some (.int v1), some (.int v2), some (.int v3), some (.int v4), some (.int v5)] [] G (rI K) := by
  refine mV_iload (i := 5) (by decide +kernel) rfl ?_
  refine mV_aload_n (k := 0) (by decide +kernel) rfl ?_
  refine mV_gfix (x := mg_i G 226 72) (by decide +kernel) fk_13_498 sh_226 rfl ?_
  refine mV_icmp_ge (off := 29) (tgt := 53) (by decide +kernel) (by decide) (fun hc => ?_) (fun hc => ?_)
  · replace h := h.1 hc
    refine mV_iload (i := 4) (by decide +kernel) rfl ?_
    refine mV_iload_n (k := 2) (by decide +kernel) rfl ?_
    refine mV_icmp_le (off := 6) (tgt := 62) (by decide +kernel) (by decide) (fun hc => ?_) (fun hc => ?_)
    · replace h := h.1 hc
      refine mV_iincc (i := 3) (n := 1) (c := nI 1) (ls' := [some (.ref 226), some (.int v1), some (.int v2), some (.int (v3 + (nI 1))), some (.int v4), some (.int v5)]) (by decide +kernel) (by decide) rfl (Nat.le_of_ble_eq_true rfl) rfl rfl ?_
      refine mV_goto (off := -61) (tgt := 4) (by decide +kernel) (by decide) ?_
      refine mV_fg [4, 5] (ls' := [some (.ref 226), some (.int v1), some (.int v2), some (.int (v3 + (nI 1))), none, none]) rfl ?_
      exact h
    · replace h := h.2 hc
      refine mV_iload (i := 4) (by decide +kernel) rfl ?_
      refine mV_istore_n (k := 2) (ls' := [some (.ref 226), some (.int v1), some (.int v4), some (.int v3), some (.int v4), some (.int v5)]) (by decide +kernel) (Nat.le_of_ble_eq_true rfl) rfl rfl ?_
      refine mV_iincc (i := 3) (n := 1) (c := nI 1) (ls' := [some (.ref 226), some (.int v1), some (.int v4), some (.int (v3 + (nI 1))), some (.int v4), some (.int v5)]) (by decide +kernel) (by decide) rfl (Nat.le_of_ble_eq_true rfl) rfl rfl ?_
      refine mV_goto (off := -61) (tgt := 4) (by decide +kernel) (by decide) ?_
      refine mV_fg [4, 5] (ls' := [some (.ref 226), some (.int v1), some (.int v4), some (.int (v3 + (nI 1))), none, none]) rfl ?_
      exact h
  · replace h := h.2 hc
    refine mV_aload_n (k := 0) (by decide +kernel) rfl ?_
    refine mV_gfr (r := some 273) (by decide +kernel) fk_13_158 sh_226 (mm_rrs st_226_73) rfl ?_
    refine mV_sipush (n := 140) (v := nI 140) (by decide +kernel) (by decide) ?_
    refine mV_iload_n (k := 1) (by decide +kernel) rfl ?_
    refine mV_imul (by decide +kernel) ?_
    refine mV_iload (i := 5) (by decide +kernel) rfl ?_
    refine mV_iadd (by decide +kernel) ?_
    refine mV_ialx (x := mg_i G 273 ((((nI 140) * v1) + v5).toNatClampNeg)) (by decide +kernel) sh_273 h.1 rfl ?_
    replace h := h.2
    refine mV_iload_n (k := 3) (by decide +kernel) rfl ?_
    refine mV_icmp_ne (off := 6) (tgt := 47) (by decide +kernel) (by decide) (fun hc => ?_) (fun hc => ?_)
    · replace h := h.1 hc
      refine mV_iincc (i := 5) (n := 1) (c := nI 1) (ls' := [some (.ref 226), some (.int v1), some (.int v2), some (.int v3), some (.int v4), some (.int (v5 + (nI 1)))]) (by decide +kernel) (by decide) rfl (Nat.le_of_ble_eq_true rfl) rfl rfl ?_
      refine mV_goto (off := -32) (tgt := 18) (by decide +kernel) (by decide) ?_
      exact h
    · replace h := h.2 hc
      refine mV_iincc (i := 4) (n := 1) (c := nI 1) (ls' := [some (.ref 226), some (.int v1), some (.int v2), some (.int v3), some (.int (v4 + (nI 1))), some (.int v5)]) (by decide +kernel) (by decide) rfl (Nat.le_of_ble_eq_true rfl) rfl rfl ?_
      refine mV_iincc (i := 5) (n := 1) (c := nI 1) (ls' := [some (.ref 226), some (.int v1), some (.int v2), some (.int v3), some (.int (v4 + (nI 1))), some (.int (v5 + (nI 1)))]) (by decide +kernel) (by decide) rfl (Nat.le_of_ble_eq_true rfl) rfl rfl ?_
      refine mV_goto (off := -32) (tgt := 18) (by decide +kernel) (by decide) ?_
      exact h
set_option maxRecDepth 100000 in
set_option maxHeartbeats 4000000 in
theorem e_X13_next {l : Launch} {κ : mm_K} {d : Nat} {G : mm_G} {K : Int32 → mm_G → Prop} (a1 : Int32) (a2 : Int32) (a3 : Int32) (h : mC l κ true (d + 6) 0 0 m_X13_canSuspect [.ref 226, .int a1, .int a2, .int a3] G (rI (fun r1 G2 => ((¬ r1 = 0 → mC l κ true (d + 6) 0 0 m_X13_fillSuspects [.ref 226, .int a1, .int a2, .int a3] G2 (rV (fun G4 => (((mg_i G4 226 72) = 0 → K (-2) G4) ∧ (¬ (mg_i G4 226 72) = 0 → vp_in (mg_i G4 226 18) 2 ∧ ((¬ (mg_i G4 249 ((mg_i G4 226 18).toNatClampNeg)) = 0 → mC l κ true (d + 6) 0 0 m_X13_fillGroups [.ref 226, .int a1] G4 (rV (fun G6 => mV l κ true (d + 7) 0 0 m_X13_next 52 [some (.ref 226), some (.int a1), some (.int a2), some (.int a3), some (.int (nI 0)), some (.int (nI 1))] [] G6 (rI K)))) ∧ ((mg_i G4 249 ((mg_i G4 226 18).toNatClampNeg)) = 0 → K (-2) G4))))))) ∧ (r1 = 0 → K (-1) G2))))) : mC l κ true (d + 7) 0 0 m_X13_next [.ref 226, .int a1, .int a2, .int a3] G (rI K) := by
  refine mC.of (by decide) (Nat.le_of_ble_eq_true rfl) [some (.ref 226), some (.int a1), some (.int a2), some (.int a3), none, none] rfl ?_
  refine mV_aload_n (k := 0) (by decide +kernel) rfl ?_
  refine mV_iload_n (k := 1) (by decide +kernel) rfl ?_
  refine mV_iload_n (k := 2) (by decide +kernel) rfl ?_
  refine mV_iload_n (k := 3) (by decide +kernel) rfl ?_
  refine mV_cV (as := [.int a1, .int a2, .int a3]) (rest := []) (mc1 := 0) (ms1 := 0) (mc := 0) (ms := 0) (by decide +kernel) md_X13_canSuspect lk_13_504 sh_226 rfl rfl rfl (Nat.le_of_ble_eq_true rfl) (mC.mono (mm_contI (fun r1 G2 hK => ?_)) h)
  replace h := hK
  refine mV_if_ne (off := 5) (tgt := 12) (by decide +kernel) (by decide) (fun hc => ?_) (fun hc => ?_)
  · replace h := h.1 hc
    refine mV_aload_n (k := 0) (by decide +kernel) rfl ?_
    refine mV_iload_n (k := 1) (by decide +kernel) rfl ?_
    refine mV_iload_n (k := 2) (by decide +kernel) rfl ?_
    refine mV_iload_n (k := 3) (by decide +kernel) rfl ?_
    refine mV_cV (as := [.int a1, .int a2, .int a3]) (rest := []) (mc1 := 0) (ms1 := 0) (mc := 0) (ms := 0) (by decide +kernel) md_X13_fillSuspects lk_13_507 sh_226 rfl rfl rfl (Nat.le_of_ble_eq_true rfl) (mC.mono (mm_contV (fun G4 hK => ?_)) h)
    replace h := hK
    refine mV_aload_n (k := 0) (by decide +kernel) rfl ?_
    refine mV_gfix (x := mg_i G4 226 72) (by decide +kernel) fk_13_498 sh_226 rfl ?_
    refine mV_if_eq (off := 15) (tgt := 38) (by decide +kernel) (by decide) (fun hc => ?_) (fun hc => ?_)
    · replace h := h.1 hc
      refine mV_bipush (n := -2) (v := (-2)) (by decide +kernel) (by decide) ?_
      exact mV_iret (by decide +kernel) rfl h
    · replace h := h.2 hc
      refine mV_aload_n (k := 0) (by decide +kernel) rfl ?_
      refine mV_gfr (r := some 249) (by decide +kernel) fk_13_85 sh_226 (mm_rrs st_226_35) rfl ?_
      refine mV_aload_n (k := 0) (by decide +kernel) rfl ?_
      refine mV_gfix (x := mg_i G4 226 18) (by decide +kernel) fk_13_266 sh_226 rfl ?_
      refine mV_ialx (x := mg_i G4 249 ((mg_i G4 226 18).toNatClampNeg)) (by decide +kernel) sh_249 h.1 rfl ?_
      replace h := h.2
      refine mV_if_ne (off := 6) (tgt := 41) (by decide +kernel) (by decide) (fun hc => ?_) (fun hc => ?_)
      · replace h := h.1 hc
        refine mV_aload_n (k := 0) (by decide +kernel) rfl ?_
        refine mV_iload_n (k := 1) (by decide +kernel) rfl ?_
        refine mV_cV (as := [.int a1]) (rest := []) (mc1 := 0) (ms1 := 0) (mc := 0) (ms := 0) (by decide +kernel) md_X13_fillGroups lk_13_513 sh_226 rfl rfl rfl (Nat.le_of_ble_eq_true rfl) (mC.mono (mm_contV (fun G6 hK => ?_)) h)
        replace h := hK
        refine mV_iconst (n := 0) (v := nI 0) (by decide +kernel) (by decide) ?_
        refine mV_istore (i := 4) (ls' := [some (.ref 226), some (.int a1), some (.int a2), some (.int a3), some (.int (nI 0)), none]) (by decide +kernel) (Nat.le_of_ble_eq_true rfl) rfl rfl ?_
        refine mV_iconst (n := 1) (v := nI 1) (by decide +kernel) (by decide) ?_
        refine mV_istore (i := 5) (ls' := [some (.ref 226), some (.int a1), some (.int a2), some (.int a3), some (.int (nI 0)), some (.int (nI 1))]) (by decide +kernel) (Nat.le_of_ble_eq_true rfl) rfl rfl ?_
        exact h
      · replace h := h.2 hc
        refine mV_bipush (n := -2) (v := (-2)) (by decide +kernel) (by decide) ?_
        exact mV_iret (by decide +kernel) rfl h
  · replace h := h.2 hc
    refine mV_iconst (n := -1) (v := (-1)) (by decide +kernel) (by decide) ?_
    exact mV_iret (by decide +kernel) rfl h
set_option maxRecDepth 100000 in
set_option maxHeartbeats 4000000 in
theorem p_X13_next_52 {l : Launch} {κ : mm_K} {d : Nat} {G : mm_G} {K : Int32 → mm_G → Prop} (v1 : Int32) (v2 : Int32) (v3 : Int32) (v4 : Int32) (v5 : Int32) (h : vp_in (mg_i G 226 18) 2 ∧ (((mg_i G 249 ((mg_i G 226 18).toNatClampNeg)) ≤ v5 → K v4 G) ∧ (¬ (mg_i G 249 ((mg_i G 226 18).toNatClampNeg)) ≤ v5 → mC l κ true (d + 6) 0 0 m_X13_greatest [.ref 226, .int v5] G (rI (fun r1 G2 => mC l κ true (d + 6) 0 0 m_X13_greatest [.ref 226, .int v4] G2 (rI (fun r3 G4 => ((r3 ≤ r1 → mV l κ true (d + 7) 0 0 m_X13_next 52 [some (.ref 226), some (.int v1), some (.int v2), some (.int v3), some (.int v4), some (.int (v5 + (nI 1)))] [] G4 (rI K)) ∧ (¬ r3 ≤ r1 → mV l κ true (d + 7) 0 0 m_X13_next 52 [some (.ref 226), some (.int v1), some (.int v2), some (.int v3), some (.int v5), some (.int (v5 + (nI 1)))] [] G4 (rI K)))))))))) : mV l κ true (d + 7) 0 0 m_X13_next 52 [some (.ref 226), some (.int v1), some (.int v2), some (.int v3), some (.int v4), some (.int v5)] [] G (rI K) := by
  refine mV_iload (i := 5) (by decide +kernel) rfl ?_
  refine mV_aload_n (k := 0) (by decide +kernel) rfl ?_
  refine mV_gfr (r := some 249) (by decide +kernel) fk_13_85 sh_226 (mm_rrs st_226_35) rfl ?_
  refine mV_aload_n (k := 0) (by decide +kernel) rfl ?_
  refine mV_gfix (x := mg_i G 226 18) (by decide +kernel) fk_13_266 sh_226 rfl ?_
  refine mV_ialx (x := mg_i G 249 ((mg_i G 226 18).toNatClampNeg)) (by decide +kernel) sh_249 h.1 rfl ?_
  replace h := h.2
  refine mV_icmp_ge (off := 28) (tgt := 91) (by decide +kernel) (by decide) (fun hc => ?_) (fun hc => ?_)
  · replace h := h.1 hc
    refine mV_iload (i := 4) (by decide +kernel) rfl ?_
    exact mV_iret (by decide +kernel) rfl h
  · replace h := h.2 hc
    refine mV_aload_n (k := 0) (by decide +kernel) rfl ?_
    refine mV_iload (i := 5) (by decide +kernel) rfl ?_
    refine mV_cV (as := [.int v5]) (rest := []) (mc1 := 0) (ms1 := 0) (mc := 0) (ms := 0) (by decide +kernel) md_X13_greatest lk_13_516 sh_226 rfl rfl rfl (Nat.le_of_ble_eq_true rfl) (mC.mono (mm_contI (fun r1 G2 hK => ?_)) h)
    replace h := hK
    refine mV_aload_n (k := 0) (by decide +kernel) rfl ?_
    refine mV_iload (i := 4) (by decide +kernel) rfl ?_
    refine mV_cV (as := [.int v4]) (rest := [.int r1]) (mc1 := 0) (ms1 := 0) (mc := 0) (ms := 0) (by decide +kernel) md_X13_greatest lk_13_516 sh_226 rfl rfl rfl (Nat.le_of_ble_eq_true rfl) (mC.mono (mm_contI (fun r3 G4 hK => ?_)) h)
    replace h := hK
    refine mV_icmp_ge (off := 7) (tgt := 85) (by decide +kernel) (by decide) (fun hc => ?_) (fun hc => ?_)
    · replace h := h.1 hc
      refine mV_iincc (i := 5) (n := 1) (c := nI 1) (ls' := [some (.ref 226), some (.int v1), some (.int v2), some (.int v3), some (.int v4), some (.int (v5 + (nI 1)))]) (by decide +kernel) (by decide) rfl (Nat.le_of_ble_eq_true rfl) rfl rfl ?_
      refine mV_goto (off := -36) (tgt := 52) (by decide +kernel) (by decide) ?_
      exact h
    · replace h := h.2 hc
      refine mV_iload (i := 5) (by decide +kernel) rfl ?_
      refine mV_istore (i := 4) (ls' := [some (.ref 226), some (.int v1), some (.int v2), some (.int v3), some (.int v5), some (.int v5)]) (by decide +kernel) (Nat.le_of_ble_eq_true rfl) rfl rfl ?_
      refine mV_iincc (i := 5) (n := 1) (c := nI 1) (ls' := [some (.ref 226), some (.int v1), some (.int v2), some (.int v3), some (.int v5), some (.int (v5 + (nI 1)))]) (by decide +kernel) (by decide) rfl (Nat.le_of_ble_eq_true rfl) rfl rfl ?_
      refine mV_goto (off := -36) (tgt := 52) (by decide +kernel) (by decide) ?_
      exact h
set_option maxRecDepth 100000 in
set_option maxHeartbeats 4000000 in
theorem e_X13_isDone {l : Launch} {κ : mm_K} {d : Nat} {G : mm_G} {K : Int32 → mm_G → Prop} (a1 : Int32) (h : mV l κ true d 0 0 m_X13_isDone 4 [some (.ref 226), some (.int a1), some (.int (-1)), some (.int (nI 0)), none] [] G (rI K)) : mC l κ true d 0 0 m_X13_isDone [.ref 226, .int a1] G (rI K) := by
  refine mC.of (by decide) (Nat.le_of_ble_eq_true rfl) [some (.ref 226), some (.int a1), none, none, none] rfl ?_
  refine mV_iconst (n := -1) (v := (-1)) (by decide +kernel) (by decide) ?_
  refine mV_istore_n (k := 2) (ls' := [some (.ref 226), some (.int a1), some (.int (-1)), none, none]) (by decide +kernel) (Nat.le_of_ble_eq_true rfl) rfl rfl ?_
  refine mV_iconst (n := 0) (v := nI 0) (by decide +kernel) (by decide) ?_
  refine mV_istore_n (k := 3) (ls' := [some (.ref 226), some (.int a1), some (.int (-1)), some (.int (nI 0)), none]) (by decide +kernel) (Nat.le_of_ble_eq_true rfl) rfl rfl ?_
  exact h
set_option maxRecDepth 100000 in
set_option maxHeartbeats 4000000 in
theorem p_X13_isDone_4 {l : Launch} {κ : mm_K} {d : Nat} {G : mm_G} {K : Int32 → mm_G → Prop} (v1 : Int32) (v2 : Int32) (v3 : Int32) (h : (((mg_i G 226 72) ≤ v3 → K (nI 1) G) ∧ (¬ (mg_i G 226 72) ≤ v3 → vp_in (((nI 140) * v1) + v3) 700 ∧ ((¬ (mg_i G 277 ((((nI 140) * v1) + v3).toNatClampNeg)) = 0 → ((¬ v2 = (-1) → mV l κ true d 0 0 m_X13_isDone 40 [some (.ref 226), some (.int v1), some (.int v2), some (.int v3), some (.int (nI 0))] [] G (rI K)) ∧ (v2 = (-1) → mV l κ true d 0 0 m_X13_isDone 40 [some (.ref 226), some (.int v1), some (.int v3), some (.int v3), some (.int (nI 0))] [] G (rI K)))) ∧ ((mg_i G 277 ((((nI 140) * v1) + v3).toNatClampNeg)) = 0 → mV l κ true d 0 0 m_X13_isDone 4 [some (.ref 226), some (.int v1), some (.int v2), some (.int (v3 + (nI 1))), none] [] G (rI K)))))) : mV l κ true d 0 0 m_X13_isDone 4 [some (.ref 226), some (.int v1), some (.int v2), some (.int v3), none] [] G (rI K) := by
  refine mV_iload_n (k := 3) (by decide +kernel) rfl ?_
  refine mV_aload_n (k := 0) (by decide +kernel) rfl ?_
  refine mV_gfix (x := mg_i G 226 72) (by decide +kernel) fk_13_498 sh_226 rfl ?_
  refine mV_icmp_ge (off := 88) (tgt := 97) (by decide +kernel) (by decide) (fun hc => ?_) (fun hc => ?_)
  · replace h := h.1 hc
    refine mV_iconst (n := 1) (v := nI 1) (by decide +kernel) (by decide) ?_
    exact mV_zret (by decide +kernel) rfl (by decide) h
  · replace h := h.2 hc
    refine mV_aload_n (k := 0) (by decide +kernel) rfl ?_
    refine mV_gfr (r := some 277) (by decide +kernel) fk_13_170 sh_226 (mm_rrs st_226_77) rfl ?_
    refine mV_sipush (n := 140) (v := nI 140) (by decide +kernel) (by decide) ?_
    refine mV_iload_n (k := 1) (by decide +kernel) rfl ?_
    refine mV_imul (by decide +kernel) ?_
    refine mV_iload_n (k := 3) (by decide +kernel) rfl ?_
    refine mV_iadd (by decide +kernel) ?_
    refine mV_zalx (x := mg_i G 277 ((((nI 140) * v1) + v3).toNatClampNeg)) (by decide +kernel) sh_277 h.1 rfl ?_
    replace h := h.2
    refine mV_if_ne (off := 6) (tgt := 30) (by decide +kernel) (by decide) (fun hc => ?_) (fun hc => ?_)
    · replace h := h.1 hc
      refine mV_iload_n (k := 2) (by decide +kernel) rfl ?_
      refine mV_iconst (n := -1) (v := (-1)) (by decide +kernel) (by decide) ?_
      refine mV_icmp_ne (off := 5) (tgt := 37) (by decide +kernel) (by decide) (fun hc => ?_) (fun hc => ?_)
      · replace h := h.1 hc
        refine mV_iconst (n := 0) (v := nI 0) (by decide +kernel) (by decide) ?_
        refine mV_istore (i := 4) (ls' := [some (.ref 226), some (.int v1), some (.int v2), some (.int v3), some (.int (nI 0))]) (by decide +kernel) (Nat.le_of_ble_eq_true rfl) rfl rfl ?_
        exact h
      · replace h := h.2 hc
        refine mV_iload_n (k := 3) (by decide +kernel) rfl ?_
        refine mV_istore_n (k := 2) (ls' := [some (.ref 226), some (.int v1), some (.int v3), some (.int v3), none]) (by decide +kernel) (Nat.le_of_ble_eq_true rfl) rfl rfl ?_
        refine mV_iconst (n := 0) (v := nI 0) (by decide +kernel) (by decide) ?_
        refine mV_istore (i := 4) (ls' := [some (.ref 226), some (.int v1), some (.int v3), some (.int v3), some (.int (nI 0))]) (by decide +kernel) (Nat.le_of_ble_eq_true rfl) rfl rfl ?_
        exact h
    · replace h := h.2 hc
      refine mV_goto (off := 64) (tgt := 91) (by decide +kernel) (by decide) ?_
      refine mV_iincc (i := 3) (n := 1) (c := nI 1) (ls' := [some (.ref 226), some (.int v1), some (.int v2), some (.int (v3 + (nI 1))), none]) (by decide +kernel) (by decide) rfl (Nat.le_of_ble_eq_true rfl) rfl rfl ?_
      refine mV_goto (off := -90) (tgt := 4) (by decide +kernel) (by decide) ?_
      exact h
set_option maxRecDepth 100000 in
set_option maxHeartbeats 4000000 in
theorem p_X13_isDone_40 {l : Launch} {κ : mm_K} {d : Nat} {G : mm_G} {K : Int32 → mm_G → Prop} (v1 : Int32) (v2 : Int32) (v3 : Int32) (v4 : Int32) (h : vp_in (mg_i G 226 18) 2 ∧ (((mg_i G 249 ((mg_i G 226 18).toNatClampNeg)) ≤ v4 → mV l κ true d 0 0 m_X13_isDone 4 [some (.ref 226), some (.int v1), some (.int v2), some (.int (v3 + (nI 1))), none] [] G (rI K)) ∧ (¬ (mg_i G 249 ((mg_i G 226 18).toNatClampNeg)) ≤ v4 → vp_in (((nI 140) * v4) + v3) 1120 ∧ vp_in (((nI 140) * v4) + v2) 1120 ∧ (((mg_i G 273 ((((nI 140) * v4) + v3).toNatClampNeg)) = (mg_i G 273 ((((nI 140) * v4) + v2).toNatClampNeg)) → mV l κ true d 0 0 m_X13_isDone 40 [some (.ref 226), some (.int v1), some (.int v2), some (.int v3), some (.int (v4 + (nI 1)))] [] G (rI K)) ∧ (¬ (mg_i G 273 ((((nI 140) * v4) + v3).toNatClampNeg)) = (mg_i G 273 ((((nI 140) * v4) + v2).toNatClampNeg)) → K (nI 0) G))))) : mV l κ true d 0 0 m_X13_isDone 40 [some (.ref 226), some (.int v1), some (.int v2), some (.int v3), some (.int v4)] [] G (rI K) := by
  refine mV_iload (i := 4) (by decide +kernel) rfl ?_
  refine mV_aload_n (k := 0) (by decide +kernel) rfl ?_
  refine mV_gfr (r := some 249) (by decide +kernel) fk_13_85 sh_226 (mm_rrs st_226_35) rfl ?_
  refine mV_aload_n (k := 0) (by decide +kernel) rfl ?_
  refine mV_gfix (x := mg_i G 226 18) (by decide +kernel) fk_13_266 sh_226 rfl ?_
  refine mV_ialx (x := mg_i G 249 ((mg_i G 226 18).toNatClampNeg)) (by decide +kernel) sh_249 h.1 rfl ?_
  replace h := h.2
  refine mV_icmp_ge (off := 40) (tgt := 91) (by decide +kernel) (by decide) (fun hc => ?_) (fun hc => ?_)
  · replace h := h.1 hc
    refine mV_iincc (i := 3) (n := 1) (c := nI 1) (ls' := [some (.ref 226), some (.int v1), some (.int v2), some (.int (v3 + (nI 1))), some (.int v4)]) (by decide +kernel) (by decide) rfl (Nat.le_of_ble_eq_true rfl) rfl rfl ?_
    refine mV_goto (off := -90) (tgt := 4) (by decide +kernel) (by decide) ?_
    refine mV_fg [4] (ls' := [some (.ref 226), some (.int v1), some (.int v2), some (.int (v3 + (nI 1))), none]) rfl ?_
    exact h
  · replace h := h.2 hc
    refine mV_aload_n (k := 0) (by decide +kernel) rfl ?_
    refine mV_gfr (r := some 273) (by decide +kernel) fk_13_158 sh_226 (mm_rrs st_226_73) rfl ?_
    refine mV_sipush (n := 140) (v := nI 140) (by decide +kernel) (by decide) ?_
    refine mV_iload (i := 4) (by decide +kernel) rfl ?_
    refine mV_imul (by decide +kernel) ?_
    refine mV_iload_n (k := 3) (by decide +kernel) rfl ?_
    refine mV_iadd (by decide +kernel) ?_
    refine mV_ialx (x := mg_i G 273 ((((nI 140) * v4) + v3).toNatClampNeg)) (by decide +kernel) sh_273 h.1 rfl ?_
    replace h := h.2
    refine mV_aload_n (k := 0) (by decide +kernel) rfl ?_
    refine mV_gfr (r := some 273) (by decide +kernel) fk_13_158 sh_226 (mm_rrs st_226_73) rfl ?_
    refine mV_sipush (n := 140) (v := nI 140) (by decide +kernel) (by decide) ?_
    refine mV_iload (i := 4) (by decide +kernel) rfl ?_
    refine mV_imul (by decide +kernel) ?_
    refine mV_iload_n (k := 2) (by decide +kernel) rfl ?_
    refine mV_iadd (by decide +kernel) ?_
    refine mV_ialx (x := mg_i G 273 ((((nI 140) * v4) + v2).toNatClampNeg)) (by decide +kernel) sh_273 h.1 rfl ?_
    replace h := h.2
    refine mV_icmp_eq (off := 5) (tgt := 85) (by decide +kernel) (by decide) (fun hc => ?_) (fun hc => ?_)
    · replace h := h.1 hc
      refine mV_iincc (i := 4) (n := 1) (c := nI 1) (ls' := [some (.ref 226), some (.int v1), some (.int v2), some (.int v3), some (.int (v4 + (nI 1)))]) (by decide +kernel) (by decide) rfl (Nat.le_of_ble_eq_true rfl) rfl rfl ?_
      refine mV_goto (off := -48) (tgt := 40) (by decide +kernel) (by decide) ?_
      exact h
    · replace h := h.2 hc
      refine mV_iconst (n := 0) (v := nI 0) (by decide +kernel) (by decide) ?_
      exact mV_zret (by decide +kernel) rfl (by decide) h
set_option maxRecDepth 100000 in
set_option maxHeartbeats 4000000 in
theorem e_X13_parts {l : Launch} {κ : mm_K} {d : Nat} {G : mm_G} {K : Int32 → mm_G → Prop} (a1 : Int32) (a2 : Int32) (a3 : Int32) (h : mV l κ true d 0 0 m_X13_parts 6 [some (.ref 226), some (.int a1), some (.int a2), some (.int a3), some (.int (nI 0)), some (.int (nI 0)), none] [] G (rI K)) : mC l κ true d 0 0 m_X13_parts [.ref 226, .int a1, .int a2, .int a3] G (rI K) := by
  refine mC.of (by decide) (Nat.le_of_ble_eq_true rfl) [some (.ref 226), some (.int a1), some (.int a2), some (.int a3), none, none, none] rfl ?_
  refine mV_iconst (n := 0) (v := nI 0) (by decide +kernel) (by decide) ?_
  refine mV_istore (i := 4) (ls' := [some (.ref 226), some (.int a1), some (.int a2), some (.int a3), some (.int (nI 0)), none, none]) (by decide +kernel) (Nat.le_of_ble_eq_true rfl) rfl rfl ?_
  refine mV_iconst (n := 0) (v := nI 0) (by decide +kernel) (by decide) ?_
  refine mV_istore (i := 5) (ls' := [some (.ref 226), some (.int a1), some (.int a2), some (.int a3), some (.int (nI 0)), some (.int (nI 0)), none]) (by decide +kernel) (Nat.le_of_ble_eq_true rfl) rfl rfl ?_
  exact h
set_option maxRecDepth 100000 in
set_option maxHeartbeats 4000000 in
theorem p_X13_parts_6 {l : Launch} {κ : mm_K} {d : Nat} {G : mm_G} {K : Int32 → mm_G → Prop} (v1 : Int32) (v2 : Int32) (v3 : Int32) (v4 : Int32) (v5 : Int32) (h : (((mg_i G 226 72) ≤ v5 → (v4 = 0 ∨ v4 = 1) ∧ K v4 G) ∧ (¬ (mg_i G 226 72) ≤ v5 → vp_in (((nI 140) * v1) + v5) 700 ∧ (((mg_i G 277 ((((nI 140) * v1) + v5).toNatClampNeg)) = 0 → vp_in ((((nI 140) * v1) + (nI 140)) + v5) 700 ∧ ((¬ v4 = 0 → mV l κ true d 0 0 m_X13_parts 6 [some (.ref 226), some (.int v1), some (.int v2), some (.int v3), some (.int (nI 1)), some (.int (v5 + (nI 1))), none] [] (ms_i G 277 (((((nI 140) * v1) + (nI 140)) + v5).toNatClampNeg) (vp_nar .boolean (nI 0))) (rI K)) ∧ (v4 = 0 → (((nI 0) = 0 → mV l κ true d 0 0 m_X13_parts 6 [some (.ref 226), some (.int v1), some (.int v2), some (.int v3), some (.int (nI 0)), some (.int (v5 + (nI 1))), none] [] (ms_i G 277 (((((nI 140) * v1) + (nI 140)) + v5).toNatClampNeg) (vp_nar .boolean (nI 0))) (rI K)) ∧ (¬ (nI 0) = 0 → mV l κ true d 0 0 m_X13_parts 6 [some (.ref 226), some (.int v1), some (.int v2), some (.int v3), some (.int (nI 1)), some (.int (v5 + (nI 1))), none] [] (ms_i G 277 (((((nI 140) * v1) + (nI 140)) + v5).toNatClampNeg) (vp_nar .boolean (nI 0))) (rI K)))))) ∧ (¬ (mg_i G 277 ((((nI 140) * v1) + v5).toNatClampNeg)) = 0 → vp_in (((nI 140) * v2) + v5) 1120 ∧ ((¬ (mg_i G 273 ((((nI 140) * v2) + v5).toNatClampNeg)) = v3 → vp_in ((((nI 140) * v1) + (nI 140)) + v5) 700 ∧ ((¬ v4 = 0 → mV l κ true d 0 0 m_X13_parts 6 [some (.ref 226), some (.int v1), some (.int v2), some (.int v3), some (.int (nI 1)), some (.int (v5 + (nI 1))), none] [] (ms_i G 277 (((((nI 140) * v1) + (nI 140)) + v5).toNatClampNeg) (vp_nar .boolean (nI 0))) (rI K)) ∧ (v4 = 0 → (((nI 0) = 0 → mV l κ true d 0 0 m_X13_parts 6 [some (.ref 226), some (.int v1), some (.int v2), some (.int v3), some (.int (nI 0)), some (.int (v5 + (nI 1))), none] [] (ms_i G 277 (((((nI 140) * v1) + (nI 140)) + v5).toNatClampNeg) (vp_nar .boolean (nI 0))) (rI K)) ∧ (¬ (nI 0) = 0 → mV l κ true d 0 0 m_X13_parts 6 [some (.ref 226), some (.int v1), some (.int v2), some (.int v3), some (.int (nI 1)), some (.int (v5 + (nI 1))), none] [] (ms_i G 277 (((((nI 140) * v1) + (nI 140)) + v5).toNatClampNeg) (vp_nar .boolean (nI 0))) (rI K)))))) ∧ ((mg_i G 273 ((((nI 140) * v2) + v5).toNatClampNeg)) = v3 → vp_in ((((nI 140) * v1) + (nI 140)) + v5) 700 ∧ ((¬ v4 = 0 → mV l κ true d 0 0 m_X13_parts 6 [some (.ref 226), some (.int v1), some (.int v2), some (.int v3), some (.int (nI 1)), some (.int (v5 + (nI 1))), none] [] (ms_i G 277 (((((nI 140) * v1) + (nI 140)) + v5).toNatClampNeg) (vp_nar .boolean (nI 1))) (rI K)) ∧ (v4 = 0 → (((nI 1) = 0 → mV l κ true d 0 0 m_X13_parts 6 [some (.ref 226), some (.int v1), some (.int v2), some (.int v3), some (.int (nI 0)), some (.int (v5 + (nI 1))), none] [] (ms_i G 277 (((((nI 140) * v1) + (nI 140)) + v5).toNatClampNeg) (vp_nar .boolean (nI 1))) (rI K)) ∧ (¬ (nI 1) = 0 → mV l κ true d 0 0 m_X13_parts 6 [some (.ref 226), some (.int v1), some (.int v2), some (.int v3), some (.int (nI 1)), some (.int (v5 + (nI 1))), none] [] (ms_i G 277 (((((nI 140) * v1) + (nI 140)) + v5).toNatClampNeg) (vp_nar .boolean (nI 1))) (rI K)))))))))))) : mV l κ true d 0 0 m_X13_parts 6 [some (.ref 226), some (.int v1), some (.int v2), some (.int v3), some (.int v4), some (.int v5), none] [] G (rI K) := by
  refine mV_iload (i := 5) (by decide +kernel) rfl ?_
  refine mV_aload_n (k := 0) (by decide +kernel) rfl ?_
  refine mV_gfix (x := mg_i G 226 72) (by decide +kernel) fk_13_498 sh_226 rfl ?_
  refine mV_icmp_ge (off := 85) (tgt := 97) (by decide +kernel) (by decide) (fun hc => ?_) (fun hc => ?_)
  · replace h := h.1 hc
    refine mV_iload (i := 4) (by decide +kernel) rfl ?_
    exact mV_zret (by decide +kernel) rfl h.1 h.2
  · replace h := h.2 hc
    refine mV_aload_n (k := 0) (by decide +kernel) rfl ?_
    refine mV_gfr (r := some 277) (by decide +kernel) fk_13_170 sh_226 (mm_rrs st_226_77) rfl ?_
    refine mV_sipush (n := 140) (v := nI 140) (by decide +kernel) (by decide) ?_
    refine mV_iload_n (k := 1) (by decide +kernel) rfl ?_
    refine mV_imul (by decide +kernel) ?_
    refine mV_iload (i := 5) (by decide +kernel) rfl ?_
    refine mV_iadd (by decide +kernel) ?_
    refine mV_zalx (x := mg_i G 277 ((((nI 140) * v1) + v5).toNatClampNeg)) (by decide +kernel) sh_277 h.1 rfl ?_
    replace h := h.2
    refine mV_if_eq (off := 24) (tgt := 52) (by decide +kernel) (by decide) (fun hc => ?_) (fun hc => ?_)
    · replace h := h.1 hc
      refine mV_iconst (n := 0) (v := nI 0) (by decide +kernel) (by decide) ?_
      refine mV_istore (i := 6) (ls' := [some (.ref 226), some (.int v1), some (.int v2), some (.int v3), some (.int v4), some (.int v5), some (.int (nI 0))]) (by decide +kernel) (Nat.le_of_ble_eq_true rfl) rfl rfl ?_
      refine mV_aload_n (k := 0) (by decide +kernel) rfl ?_
      refine mV_gfr (r := some 277) (by decide +kernel) fk_13_170 sh_226 (mm_rrs st_226_77) rfl ?_
      refine mV_sipush (n := 140) (v := nI 140) (by decide +kernel) (by decide) ?_
      refine mV_iload_n (k := 1) (by decide +kernel) rfl ?_
      refine mV_imul (by decide +kernel) ?_
      refine mV_sipush (n := 140) (v := nI 140) (by decide +kernel) (by decide) ?_
      refine mV_iadd (by decide +kernel) ?_
      refine mV_iload (i := 5) (by decide +kernel) rfl ?_
      refine mV_iadd (by decide +kernel) ?_
      refine mV_iload (i := 6) (by decide +kernel) rfl ?_
      refine mV_zas (by decide +kernel) sh_277 h.1 ?_
      replace h := h.2
      refine mV_iload (i := 4) (by decide +kernel) rfl ?_
      refine mV_if_ne (off := 8) (tgt := 84) (by decide +kernel) (by decide) (fun hc => ?_) (fun hc => ?_)
      · replace h := h.1 hc
        refine mV_iconst (n := 1) (v := nI 1) (by decide +kernel) (by decide) ?_
        refine mV_goto (off := 4) (tgt := 89) (by decide +kernel) (by decide) ?_
        refine mV_istore (i := 4) (ls' := [some (.ref 226), some (.int v1), some (.int v2), some (.int v3), some (.int (nI 1)), some (.int v5), some (.int (nI 0))]) (by decide +kernel) (Nat.le_of_ble_eq_true rfl) rfl rfl ?_
        refine mV_iincc (i := 5) (n := 1) (c := nI 1) (ls' := [some (.ref 226), some (.int v1), some (.int v2), some (.int v3), some (.int (nI 1)), some (.int (v5 + (nI 1))), some (.int (nI 0))]) (by decide +kernel) (by decide) rfl (Nat.le_of_ble_eq_true rfl) rfl rfl ?_
        refine mV_goto (off := -88) (tgt := 6) (by decide +kernel) (by decide) ?_
        refine mV_fg [6] (ls' := [some (.ref 226), some (.int v1), some (.int v2), some (.int v3), some (.int (nI 1)), some (.int (v5 + (nI 1))), none]) rfl ?_
        exact h
      · replace h := h.2 hc
        refine mV_iload (i := 6) (by decide +kernel) rfl ?_
        refine mV_if_eq (off := 7) (tgt := 88) (by decide +kernel) (by decide) (fun hc => ?_) (fun hc => ?_)
        · replace h := h.1 hc
          refine mV_iconst (n := 0) (v := nI 0) (by decide +kernel) (by decide) ?_
          refine mV_istore (i := 4) (ls' := [some (.ref 226), some (.int v1), some (.int v2), some (.int v3), some (.int (nI 0)), some (.int v5), some (.int (nI 0))]) (by decide +kernel) (Nat.le_of_ble_eq_true rfl) rfl rfl ?_
          refine mV_iincc (i := 5) (n := 1) (c := nI 1) (ls' := [some (.ref 226), some (.int v1), some (.int v2), some (.int v3), some (.int (nI 0)), some (.int (v5 + (nI 1))), some (.int (nI 0))]) (by decide +kernel) (by decide) rfl (Nat.le_of_ble_eq_true rfl) rfl rfl ?_
          refine mV_goto (off := -88) (tgt := 6) (by decide +kernel) (by decide) ?_
          refine mV_fg [6] (ls' := [some (.ref 226), some (.int v1), some (.int v2), some (.int v3), some (.int (nI 0)), some (.int (v5 + (nI 1))), none]) rfl ?_
          exact h
        · replace h := h.2 hc
          refine mV_iconst (n := 1) (v := nI 1) (by decide +kernel) (by decide) ?_
          refine mV_goto (off := 4) (tgt := 89) (by decide +kernel) (by decide) ?_
          refine mV_istore (i := 4) (ls' := [some (.ref 226), some (.int v1), some (.int v2), some (.int v3), some (.int (nI 1)), some (.int v5), some (.int (nI 0))]) (by decide +kernel) (Nat.le_of_ble_eq_true rfl) rfl rfl ?_
          refine mV_iincc (i := 5) (n := 1) (c := nI 1) (ls' := [some (.ref 226), some (.int v1), some (.int v2), some (.int v3), some (.int (nI 1)), some (.int (v5 + (nI 1))), some (.int (nI 0))]) (by decide +kernel) (by decide) rfl (Nat.le_of_ble_eq_true rfl) rfl rfl ?_
          refine mV_goto (off := -88) (tgt := 6) (by decide +kernel) (by decide) ?_
          refine mV_fg [6] (ls' := [some (.ref 226), some (.int v1), some (.int v2), some (.int v3), some (.int (nI 1)), some (.int (v5 + (nI 1))), none]) rfl ?_
          exact h
    · replace h := h.2 hc
      refine mV_aload_n (k := 0) (by decide +kernel) rfl ?_
      refine mV_gfr (r := some 273) (by decide +kernel) fk_13_158 sh_226 (mm_rrs st_226_73) rfl ?_
      refine mV_sipush (n := 140) (v := nI 140) (by decide +kernel) (by decide) ?_
      refine mV_iload_n (k := 2) (by decide +kernel) rfl ?_
      refine mV_imul (by decide +kernel) ?_
      refine mV_iload (i := 5) (by decide +kernel) rfl ?_
      refine mV_iadd (by decide +kernel) ?_
      refine mV_ialx (x := mg_i G 273 ((((nI 140) * v2) + v5).toNatClampNeg)) (by decide +kernel) sh_273 h.1 rfl ?_
      replace h := h.2
      refine mV_iload_n (k := 3) (by decide +kernel) rfl ?_
      refine mV_icmp_ne (off := 7) (tgt := 52) (by decide +kernel) (by decide) (fun hc => ?_) (fun hc => ?_)
      · replace h := h.1 hc
        refine mV_iconst (n := 0) (v := nI 0) (by decide +kernel) (by decide) ?_
        refine mV_istore (i := 6) (ls' := [some (.ref 226), some (.int v1), some (.int v2), some (.int v3), some (.int v4), some (.int v5), some (.int (nI 0))]) (by decide +kernel) (Nat.le_of_ble_eq_true rfl) rfl rfl ?_
        refine mV_aload_n (k := 0) (by decide +kernel) rfl ?_
        refine mV_gfr (r := some 277) (by decide +kernel) fk_13_170 sh_226 (mm_rrs st_226_77) rfl ?_
        refine mV_sipush (n := 140) (v := nI 140) (by decide +kernel) (by decide) ?_
        refine mV_iload_n (k := 1) (by decide +kernel) rfl ?_
        refine mV_imul (by decide +kernel) ?_
        refine mV_sipush (n := 140) (v := nI 140) (by decide +kernel) (by decide) ?_
        refine mV_iadd (by decide +kernel) ?_
        refine mV_iload (i := 5) (by decide +kernel) rfl ?_
        refine mV_iadd (by decide +kernel) ?_
        refine mV_iload (i := 6) (by decide +kernel) rfl ?_
        refine mV_zas (by decide +kernel) sh_277 h.1 ?_
        replace h := h.2
        refine mV_iload (i := 4) (by decide +kernel) rfl ?_
        refine mV_if_ne (off := 8) (tgt := 84) (by decide +kernel) (by decide) (fun hc => ?_) (fun hc => ?_)
        · replace h := h.1 hc
          refine mV_iconst (n := 1) (v := nI 1) (by decide +kernel) (by decide) ?_
          refine mV_goto (off := 4) (tgt := 89) (by decide +kernel) (by decide) ?_
          refine mV_istore (i := 4) (ls' := [some (.ref 226), some (.int v1), some (.int v2), some (.int v3), some (.int (nI 1)), some (.int v5), some (.int (nI 0))]) (by decide +kernel) (Nat.le_of_ble_eq_true rfl) rfl rfl ?_
          refine mV_iincc (i := 5) (n := 1) (c := nI 1) (ls' := [some (.ref 226), some (.int v1), some (.int v2), some (.int v3), some (.int (nI 1)), some (.int (v5 + (nI 1))), some (.int (nI 0))]) (by decide +kernel) (by decide) rfl (Nat.le_of_ble_eq_true rfl) rfl rfl ?_
          refine mV_goto (off := -88) (tgt := 6) (by decide +kernel) (by decide) ?_
          refine mV_fg [6] (ls' := [some (.ref 226), some (.int v1), some (.int v2), some (.int v3), some (.int (nI 1)), some (.int (v5 + (nI 1))), none]) rfl ?_
          exact h
        · replace h := h.2 hc
          refine mV_iload (i := 6) (by decide +kernel) rfl ?_
          refine mV_if_eq (off := 7) (tgt := 88) (by decide +kernel) (by decide) (fun hc => ?_) (fun hc => ?_)
          · replace h := h.1 hc
            refine mV_iconst (n := 0) (v := nI 0) (by decide +kernel) (by decide) ?_
            refine mV_istore (i := 4) (ls' := [some (.ref 226), some (.int v1), some (.int v2), some (.int v3), some (.int (nI 0)), some (.int v5), some (.int (nI 0))]) (by decide +kernel) (Nat.le_of_ble_eq_true rfl) rfl rfl ?_
            refine mV_iincc (i := 5) (n := 1) (c := nI 1) (ls' := [some (.ref 226), some (.int v1), some (.int v2), some (.int v3), some (.int (nI 0)), some (.int (v5 + (nI 1))), some (.int (nI 0))]) (by decide +kernel) (by decide) rfl (Nat.le_of_ble_eq_true rfl) rfl rfl ?_
            refine mV_goto (off := -88) (tgt := 6) (by decide +kernel) (by decide) ?_
            refine mV_fg [6] (ls' := [some (.ref 226), some (.int v1), some (.int v2), some (.int v3), some (.int (nI 0)), some (.int (v5 + (nI 1))), none]) rfl ?_
            exact h
          · replace h := h.2 hc
            refine mV_iconst (n := 1) (v := nI 1) (by decide +kernel) (by decide) ?_
            refine mV_goto (off := 4) (tgt := 89) (by decide +kernel) (by decide) ?_
            refine mV_istore (i := 4) (ls' := [some (.ref 226), some (.int v1), some (.int v2), some (.int v3), some (.int (nI 1)), some (.int v5), some (.int (nI 0))]) (by decide +kernel) (Nat.le_of_ble_eq_true rfl) rfl rfl ?_
            refine mV_iincc (i := 5) (n := 1) (c := nI 1) (ls' := [some (.ref 226), some (.int v1), some (.int v2), some (.int v3), some (.int (nI 1)), some (.int (v5 + (nI 1))), some (.int (nI 0))]) (by decide +kernel) (by decide) rfl (Nat.le_of_ble_eq_true rfl) rfl rfl ?_
            refine mV_goto (off := -88) (tgt := 6) (by decide +kernel) (by decide) ?_
            refine mV_fg [6] (ls' := [some (.ref 226), some (.int v1), some (.int v2), some (.int v3), some (.int (nI 1)), some (.int (v5 + (nI 1))), none]) rfl ?_
            exact h
      · replace h := h.2 hc
        refine mV_iconst (n := 1) (v := nI 1) (by decide +kernel) (by decide) ?_
        refine mV_goto (off := 4) (tgt := 53) (by decide +kernel) (by decide) ?_
        refine mV_istore (i := 6) (ls' := [some (.ref 226), some (.int v1), some (.int v2), some (.int v3), some (.int v4), some (.int v5), some (.int (nI 1))]) (by decide +kernel) (Nat.le_of_ble_eq_true rfl) rfl rfl ?_
        refine mV_aload_n (k := 0) (by decide +kernel) rfl ?_
        refine mV_gfr (r := some 277) (by decide +kernel) fk_13_170 sh_226 (mm_rrs st_226_77) rfl ?_
        refine mV_sipush (n := 140) (v := nI 140) (by decide +kernel) (by decide) ?_
        refine mV_iload_n (k := 1) (by decide +kernel) rfl ?_
        refine mV_imul (by decide +kernel) ?_
        refine mV_sipush (n := 140) (v := nI 140) (by decide +kernel) (by decide) ?_
        refine mV_iadd (by decide +kernel) ?_
        refine mV_iload (i := 5) (by decide +kernel) rfl ?_
        refine mV_iadd (by decide +kernel) ?_
        refine mV_iload (i := 6) (by decide +kernel) rfl ?_
        refine mV_zas (by decide +kernel) sh_277 h.1 ?_
        replace h := h.2
        refine mV_iload (i := 4) (by decide +kernel) rfl ?_
        refine mV_if_ne (off := 8) (tgt := 84) (by decide +kernel) (by decide) (fun hc => ?_) (fun hc => ?_)
        · replace h := h.1 hc
          refine mV_iconst (n := 1) (v := nI 1) (by decide +kernel) (by decide) ?_
          refine mV_goto (off := 4) (tgt := 89) (by decide +kernel) (by decide) ?_
          refine mV_istore (i := 4) (ls' := [some (.ref 226), some (.int v1), some (.int v2), some (.int v3), some (.int (nI 1)), some (.int v5), some (.int (nI 1))]) (by decide +kernel) (Nat.le_of_ble_eq_true rfl) rfl rfl ?_
          refine mV_iincc (i := 5) (n := 1) (c := nI 1) (ls' := [some (.ref 226), some (.int v1), some (.int v2), some (.int v3), some (.int (nI 1)), some (.int (v5 + (nI 1))), some (.int (nI 1))]) (by decide +kernel) (by decide) rfl (Nat.le_of_ble_eq_true rfl) rfl rfl ?_
          refine mV_goto (off := -88) (tgt := 6) (by decide +kernel) (by decide) ?_
          refine mV_fg [6] (ls' := [some (.ref 226), some (.int v1), some (.int v2), some (.int v3), some (.int (nI 1)), some (.int (v5 + (nI 1))), none]) rfl ?_
          exact h
        · replace h := h.2 hc
          refine mV_iload (i := 6) (by decide +kernel) rfl ?_
          refine mV_if_eq (off := 7) (tgt := 88) (by decide +kernel) (by decide) (fun hc => ?_) (fun hc => ?_)
          · replace h := h.1 hc
            refine mV_iconst (n := 0) (v := nI 0) (by decide +kernel) (by decide) ?_
            refine mV_istore (i := 4) (ls' := [some (.ref 226), some (.int v1), some (.int v2), some (.int v3), some (.int (nI 0)), some (.int v5), some (.int (nI 1))]) (by decide +kernel) (Nat.le_of_ble_eq_true rfl) rfl rfl ?_
            refine mV_iincc (i := 5) (n := 1) (c := nI 1) (ls' := [some (.ref 226), some (.int v1), some (.int v2), some (.int v3), some (.int (nI 0)), some (.int (v5 + (nI 1))), some (.int (nI 1))]) (by decide +kernel) (by decide) rfl (Nat.le_of_ble_eq_true rfl) rfl rfl ?_
            refine mV_goto (off := -88) (tgt := 6) (by decide +kernel) (by decide) ?_
            refine mV_fg [6] (ls' := [some (.ref 226), some (.int v1), some (.int v2), some (.int v3), some (.int (nI 0)), some (.int (v5 + (nI 1))), none]) rfl ?_
            exact h
          · replace h := h.2 hc
            refine mV_iconst (n := 1) (v := nI 1) (by decide +kernel) (by decide) ?_
            refine mV_goto (off := 4) (tgt := 89) (by decide +kernel) (by decide) ?_
            refine mV_istore (i := 4) (ls' := [some (.ref 226), some (.int v1), some (.int v2), some (.int v3), some (.int (nI 1)), some (.int v5), some (.int (nI 1))]) (by decide +kernel) (Nat.le_of_ble_eq_true rfl) rfl rfl ?_
            refine mV_iincc (i := 5) (n := 1) (c := nI 1) (ls' := [some (.ref 226), some (.int v1), some (.int v2), some (.int v3), some (.int (nI 1)), some (.int (v5 + (nI 1))), some (.int (nI 1))]) (by decide +kernel) (by decide) rfl (Nat.le_of_ble_eq_true rfl) rfl rfl ?_
            refine mV_goto (off := -88) (tgt := 6) (by decide +kernel) (by decide) ?_
            refine mV_fg [6] (ls' := [some (.ref 226), some (.int v1), some (.int v2), some (.int v3), some (.int (nI 1)), some (.int (v5 + (nI 1))), none]) rfl ?_
            exact h
set_option maxRecDepth 100000 in
set_option maxHeartbeats 4000000 in
theorem e_X13_inOne {l : Launch} {κ : mm_K} {d : Nat} {G : mm_G} {K : Int32 → mm_G → Prop} (a1 : Int32) (h : mC l κ true d 0 0 m_X13_isDone [.ref 226, .int a1] G (rI (fun r1 G2 => ((r1 = 0 → mV l κ true (d + 1) 0 0 m_X13_inOne 12 [some (.ref 226), some (.int a1), some (.int (nI 0)), none, none] [] G2 (rI K)) ∧ (¬ r1 = 0 → K (nI 1) G2))))) : mC l κ true (d + 1) 0 0 m_X13_inOne [.ref 226, .int a1] G (rI K) := by
  refine mC.of (by decide) (Nat.le_of_ble_eq_true rfl) [some (.ref 226), some (.int a1), none, none, none] rfl ?_
  refine mV_aload_n (k := 0) (by decide +kernel) rfl ?_
  refine mV_iload_n (k := 1) (by decide +kernel) rfl ?_
  refine mV_cV (as := [.int a1]) (rest := []) (mc1 := 0) (ms1 := 0) (mc := 0) (ms := 0) (by decide +kernel) md_X13_isDone lk_13_519 sh_226 rfl rfl rfl (Nat.le_of_ble_eq_true rfl) (mC.mono (mm_contI (fun r1 G2 hK => ?_)) h)
  replace h := hK
  refine mV_if_eq (off := 5) (tgt := 10) (by decide +kernel) (by decide) (fun hc => ?_) (fun hc => ?_)
  · replace h := h.1 hc
    refine mV_iconst (n := 0) (v := nI 0) (by decide +kernel) (by decide) ?_
    refine mV_istore_n (k := 2) (ls' := [some (.ref 226), some (.int a1), some (.int (nI 0)), none, none]) (by decide +kernel) (Nat.le_of_ble_eq_true rfl) rfl rfl ?_
    exact h
  · replace h := h.2 hc
    refine mV_iconst (n := 1) (v := nI 1) (by decide +kernel) (by decide) ?_
    exact mV_zret (by decide +kernel) rfl (by decide) h
set_option maxRecDepth 100000 in
set_option maxHeartbeats 4000000 in
theorem p_X13_inOne_12 {l : Launch} {κ : mm_K} {d : Nat} {G : mm_G} {K : Int32 → mm_G → Prop} (v1 : Int32) (v2 : Int32) (h : vp_in (mg_i G 226 18) 2 ∧ (((mg_i G 249 ((mg_i G 226 18).toNatClampNeg)) ≤ v2 → K (nI 0) G) ∧ (¬ (mg_i G 249 ((mg_i G 226 18).toNatClampNeg)) ≤ v2 → mC l κ true d 0 0 m_X13_splits [.ref 226, .int v1, .int v2] G (rI (fun r1 G2 => mV l κ true (d + 1) 0 0 m_X13_inOne 35 [some (.ref 226), some (.int v1), some (.int v2), some (.int r1), some (.int (nI 0))] [] G2 (rI K)))))) : mV l κ true (d + 1) 0 0 m_X13_inOne 12 [some (.ref 226), some (.int v1), some (.int v2), none, none] [] G (rI K) := by
  refine mV_iload_n (k := 2) (by decide +kernel) rfl ?_
  refine mV_aload_n (k := 0) (by decide +kernel) rfl ?_
  refine mV_gfr (r := some 249) (by decide +kernel) fk_13_85 sh_226 (mm_rrs st_226_35) rfl ?_
  refine mV_aload_n (k := 0) (by decide +kernel) rfl ?_
  refine mV_gfix (x := mg_i G 226 18) (by decide +kernel) fk_13_266 sh_226 rfl ?_
  refine mV_ialx (x := mg_i G 249 ((mg_i G 226 18).toNatClampNeg)) (by decide +kernel) sh_249 h.1 rfl ?_
  replace h := h.2
  refine mV_icmp_ge (off := 81) (tgt := 103) (by decide +kernel) (by decide) (fun hc => ?_) (fun hc => ?_)
  · replace h := h.1 hc
    refine mV_iconst (n := 0) (v := nI 0) (by decide +kernel) (by decide) ?_
    exact mV_zret (by decide +kernel) rfl (by decide) h
  · replace h := h.2 hc
    refine mV_aload_n (k := 0) (by decide +kernel) rfl ?_
    refine mV_iload_n (k := 1) (by decide +kernel) rfl ?_
    refine mV_iload_n (k := 2) (by decide +kernel) rfl ?_
    refine mV_cV (as := [.int v1, .int v2]) (rest := []) (mc1 := 0) (ms1 := 0) (mc := 0) (ms := 0) (by decide +kernel) md_X13_splits lk_13_522 sh_226 rfl rfl rfl (Nat.le_of_ble_eq_true rfl) (mC.mono (mm_contI (fun r1 G2 hK => ?_)) h)
    replace h := hK
    refine mV_istore_n (k := 3) (ls' := [some (.ref 226), some (.int v1), some (.int v2), some (.int r1), none]) (by decide +kernel) (Nat.le_of_ble_eq_true rfl) rfl rfl ?_
    refine mV_iconst (n := 0) (v := nI 0) (by decide +kernel) (by decide) ?_
    refine mV_istore (i := 4) (ls' := [some (.ref 226), some (.int v1), some (.int v2), some (.int r1), some (.int (nI 0))]) (by decide +kernel) (Nat.le_of_ble_eq_true rfl) rfl rfl ?_
    exact h
set_option maxRecDepth 100000 in
set_option maxHeartbeats 4000000 in
theorem p_X13_inOne_35 {l : Launch} {κ : mm_K} {d : Nat} {G : mm_G} {K : Int32 → mm_G → Prop} (v1 : Int32) (v2 : Int32) (v3 : Int32) (v4 : Int32) (h : (((mg_i G 226 72) ≤ v4 → ((v3 = 0 → mV l κ true (d + 1) 0 0 m_X13_inOne 12 [some (.ref 226), some (.int v1), some (.int (v2 + (nI 1))), none, none] [] G (rI K)) ∧ (¬ v3 = 0 → K (nI 1) G))) ∧ (¬ (mg_i G 226 72) ≤ v4 → ((v3 = 0 → ((v3 = 0 → mV l κ true (d + 1) 0 0 m_X13_inOne 12 [some (.ref 226), some (.int v1), some (.int (v2 + (nI 1))), none, none] [] G (rI K)) ∧ (¬ v3 = 0 → K (nI 1) G))) ∧ (¬ v3 = 0 → vp_in (((nI 140) * v2) + v4) 1120 ∧ ((¬ (mg_i G 273 ((((nI 140) * v2) + v4).toNatClampNeg)) = v4 → mV l κ true (d + 1) 0 0 m_X13_inOne 35 [some (.ref 226), some (.int v1), some (.int v2), some (.int v3), some (.int (v4 + (nI 1)))] [] G (rI K)) ∧ ((mg_i G 273 ((((nI 140) * v2) + v4).toNatClampNeg)) = v4 → mC l κ true d 0 0 m_X13_parts [.ref 226, .int v1, .int v2, .int v4] G (rI (fun r1 G2 => ((r1 = 0 → mV l κ true (d + 1) 0 0 m_X13_inOne 35 [some (.ref 226), some (.int v1), some (.int v2), some (.int v3), some (.int (v4 + (nI 1)))] [] G2 (rI K)) ∧ (¬ r1 = 0 → mC l κ true d 0 0 m_X13_isDone [.ref 226, .int (v1 + (nI 1))] G2 (rI (fun r3 G4 => mV l κ true (d + 1) 0 0 m_X13_inOne 35 [some (.ref 226), some (.int v1), some (.int v2), some (.int r3), some (.int (v4 + (nI 1)))] [] G4 (rI K)))))))))))))) : mV l κ true (d + 1) 0 0 m_X13_inOne 35 [some (.ref 226), some (.int v1), some (.int v2), some (.int v3), some (.int v4)] [] G (rI K) := by
  refine mV_iload (i := 4) (by decide +kernel) rfl ?_
  refine mV_aload_n (k := 0) (by decide +kernel) rfl ?_
  refine mV_gfix (x := mg_i G 226 72) (by decide +kernel) fk_13_498 sh_226 rfl ?_
  refine mV_icmp_ge (off := 50) (tgt := 91) (by decide +kernel) (by decide) (fun hc => ?_) (fun hc => ?_)
  · replace h := h.1 hc
    refine mV_iload_n (k := 3) (by decide +kernel) rfl ?_
    refine mV_if_eq (off := 5) (tgt := 97) (by decide +kernel) (by decide) (fun hc => ?_) (fun hc => ?_)
    · replace h := h.1 hc
      refine mV_iincc (i := 2) (n := 1) (c := nI 1) (ls' := [some (.ref 226), some (.int v1), some (.int (v2 + (nI 1))), some (.int v3), some (.int v4)]) (by decide +kernel) (by decide) rfl (Nat.le_of_ble_eq_true rfl) rfl rfl ?_
      refine mV_goto (off := -88) (tgt := 12) (by decide +kernel) (by decide) ?_
      refine mV_fg [3, 4] (ls' := [some (.ref 226), some (.int v1), some (.int (v2 + (nI 1))), none, none]) rfl ?_
      exact h
    · replace h := h.2 hc
      refine mV_iconst (n := 1) (v := nI 1) (by decide +kernel) (by decide) ?_
      exact mV_zret (by decide +kernel) rfl (by decide) h
  · replace h := h.2 hc
    refine mV_iload_n (k := 3) (by decide +kernel) rfl ?_
    refine mV_if_eq (off := 46) (tgt := 91) (by decide +kernel) (by decide) (fun hc => ?_) (fun hc => ?_)
    · replace h := h.1 hc
      refine mV_iload_n (k := 3) (by decide +kernel) rfl ?_
      refine mV_if_eq (off := 5) (tgt := 97) (by decide +kernel) (by decide) (fun hc => ?_) (fun hc => ?_)
      · replace h := h.1 hc
        refine mV_iincc (i := 2) (n := 1) (c := nI 1) (ls' := [some (.ref 226), some (.int v1), some (.int (v2 + (nI 1))), some (.int v3), some (.int v4)]) (by decide +kernel) (by decide) rfl (Nat.le_of_ble_eq_true rfl) rfl rfl ?_
        refine mV_goto (off := -88) (tgt := 12) (by decide +kernel) (by decide) ?_
        refine mV_fg [3, 4] (ls' := [some (.ref 226), some (.int v1), some (.int (v2 + (nI 1))), none, none]) rfl ?_
        exact h
      · replace h := h.2 hc
        refine mV_iconst (n := 1) (v := nI 1) (by decide +kernel) (by decide) ?_
        exact mV_zret (by decide +kernel) rfl (by decide) h
    · replace h := h.2 hc
      refine mV_aload_n (k := 0) (by decide +kernel) rfl ?_
      refine mV_gfr (r := some 273) (by decide +kernel) fk_13_158 sh_226 (mm_rrs st_226_73) rfl ?_
      refine mV_sipush (n := 140) (v := nI 140) (by decide +kernel) (by decide) ?_
      refine mV_iload_n (k := 2) (by decide +kernel) rfl ?_
      refine mV_imul (by decide +kernel) ?_
      refine mV_iload (i := 4) (by decide +kernel) rfl ?_
      refine mV_iadd (by decide +kernel) ?_
      refine mV_ialx (x := mg_i G 273 ((((nI 140) * v2) + v4).toNatClampNeg)) (by decide +kernel) sh_273 h.1 rfl ?_
      replace h := h.2
      refine mV_iload (i := 4) (by decide +kernel) rfl ?_
      refine mV_icmp_ne (off := 22) (tgt := 85) (by decide +kernel) (by decide) (fun hc => ?_) (fun hc => ?_)
      · replace h := h.1 hc
        refine mV_iincc (i := 4) (n := 1) (c := nI 1) (ls' := [some (.ref 226), some (.int v1), some (.int v2), some (.int v3), some (.int (v4 + (nI 1)))]) (by decide +kernel) (by decide) rfl (Nat.le_of_ble_eq_true rfl) rfl rfl ?_
        refine mV_goto (off := -53) (tgt := 35) (by decide +kernel) (by decide) ?_
        exact h
      · replace h := h.2 hc
        refine mV_aload_n (k := 0) (by decide +kernel) rfl ?_
        refine mV_iload_n (k := 1) (by decide +kernel) rfl ?_
        refine mV_iload_n (k := 2) (by decide +kernel) rfl ?_
        refine mV_iload (i := 4) (by decide +kernel) rfl ?_
        refine mV_cV (as := [.int v1, .int v2, .int v4]) (rest := []) (mc1 := 0) (ms1 := 0) (mc := 0) (ms := 0) (by decide +kernel) md_X13_parts lk_13_525 sh_226 rfl rfl rfl (Nat.le_of_ble_eq_true rfl) (mC.mono (mm_contI (fun r1 G2 hK => ?_)) h)
        replace h := hK
        refine mV_if_eq (off := 11) (tgt := 85) (by decide +kernel) (by decide) (fun hc => ?_) (fun hc => ?_)
        · replace h := h.1 hc
          refine mV_iincc (i := 4) (n := 1) (c := nI 1) (ls' := [some (.ref 226), some (.int v1), some (.int v2), some (.int v3), some (.int (v4 + (nI 1)))]) (by decide +kernel) (by decide) rfl (Nat.le_of_ble_eq_true rfl) rfl rfl ?_
          refine mV_goto (off := -53) (tgt := 35) (by decide +kernel) (by decide) ?_
          exact h
        · replace h := h.2 hc
          refine mV_aload_n (k := 0) (by decide +kernel) rfl ?_
          refine mV_iload_n (k := 1) (by decide +kernel) rfl ?_
          refine mV_iconst (n := 1) (v := nI 1) (by decide +kernel) (by decide) ?_
          refine mV_iadd (by decide +kernel) ?_
          refine mV_cV (as := [.int (v1 + (nI 1))]) (rest := []) (mc1 := 0) (ms1 := 0) (mc := 0) (ms := 0) (by decide +kernel) md_X13_isDone lk_13_519 sh_226 rfl rfl rfl (Nat.le_of_ble_eq_true rfl) (mC.mono (mm_contI (fun r3 G4 hK => ?_)) h)
          replace h := hK
          refine mV_istore_n (k := 3) (ls' := [some (.ref 226), some (.int v1), some (.int v2), some (.int r3), some (.int v4)]) (by decide +kernel) (Nat.le_of_ble_eq_true rfl) rfl rfl ?_
          refine mV_iincc (i := 4) (n := 1) (c := nI 1) (ls' := [some (.ref 226), some (.int v1), some (.int v2), some (.int r3), some (.int (v4 + (nI 1)))]) (by decide +kernel) (by decide) rfl (Nat.le_of_ble_eq_true rfl) rfl rfl ?_
          refine mV_goto (off := -53) (tgt := 35) (by decide +kernel) (by decide) ?_
          exact h
set_option maxRecDepth 100000 in
set_option maxHeartbeats 4000000 in
theorem e_X13_inTwo {l : Launch} {κ : mm_K} {d : Nat} {G : mm_G} {K : Int32 → mm_G → Prop} (a1 : Int32) (h : mC l κ true (d + 1) 0 0 m_X13_isDone [.ref 226, .int a1] G (rI (fun r1 G2 => ((r1 = 0 → mV l κ true (d + 2) 0 0 m_X13_inTwo 12 [some (.ref 226), some (.int a1), some (.int (nI 0)), none, none] [] G2 (rI K)) ∧ (¬ r1 = 0 → K (nI 1) G2))))) : mC l κ true (d + 2) 0 0 m_X13_inTwo [.ref 226, .int a1] G (rI K) := by
  refine mC.of (by decide) (Nat.le_of_ble_eq_true rfl) [some (.ref 226), some (.int a1), none, none, none] rfl ?_
  refine mV_aload_n (k := 0) (by decide +kernel) rfl ?_
  refine mV_iload_n (k := 1) (by decide +kernel) rfl ?_
  refine mV_cV (as := [.int a1]) (rest := []) (mc1 := 0) (ms1 := 0) (mc := 0) (ms := 0) (by decide +kernel) md_X13_isDone lk_13_519 sh_226 rfl rfl rfl (Nat.le_of_ble_eq_true rfl) (mC.mono (mm_contI (fun r1 G2 hK => ?_)) h)
  replace h := hK
  refine mV_if_eq (off := 5) (tgt := 10) (by decide +kernel) (by decide) (fun hc => ?_) (fun hc => ?_)
  · replace h := h.1 hc
    refine mV_iconst (n := 0) (v := nI 0) (by decide +kernel) (by decide) ?_
    refine mV_istore_n (k := 2) (ls' := [some (.ref 226), some (.int a1), some (.int (nI 0)), none, none]) (by decide +kernel) (Nat.le_of_ble_eq_true rfl) rfl rfl ?_
    exact h
  · replace h := h.2 hc
    refine mV_iconst (n := 1) (v := nI 1) (by decide +kernel) (by decide) ?_
    exact mV_zret (by decide +kernel) rfl (by decide) h
set_option maxRecDepth 100000 in
set_option maxHeartbeats 4000000 in
theorem p_X13_inTwo_12 {l : Launch} {κ : mm_K} {d : Nat} {G : mm_G} {K : Int32 → mm_G → Prop} (v1 : Int32) (v2 : Int32) (h : vp_in (mg_i G 226 18) 2 ∧ (((mg_i G 249 ((mg_i G 226 18).toNatClampNeg)) ≤ v2 → K (nI 0) G) ∧ (¬ (mg_i G 249 ((mg_i G 226 18).toNatClampNeg)) ≤ v2 → mC l κ true (d + 1) 0 0 m_X13_splits [.ref 226, .int v1, .int v2] G (rI (fun r1 G2 => mV l κ true (d + 2) 0 0 m_X13_inTwo 35 [some (.ref 226), some (.int v1), some (.int v2), some (.int r1), some (.int (nI 0))] [] G2 (rI K)))))) : mV l κ true (d + 2) 0 0 m_X13_inTwo 12 [some (.ref 226), some (.int v1), some (.int v2), none, none] [] G (rI K) := by
  refine mV_iload_n (k := 2) (by decide +kernel) rfl ?_
  refine mV_aload_n (k := 0) (by decide +kernel) rfl ?_
  refine mV_gfr (r := some 249) (by decide +kernel) fk_13_85 sh_226 (mm_rrs st_226_35) rfl ?_
  refine mV_aload_n (k := 0) (by decide +kernel) rfl ?_
  refine mV_gfix (x := mg_i G 226 18) (by decide +kernel) fk_13_266 sh_226 rfl ?_
  refine mV_ialx (x := mg_i G 249 ((mg_i G 226 18).toNatClampNeg)) (by decide +kernel) sh_249 h.1 rfl ?_
  replace h := h.2
  refine mV_icmp_ge (off := 81) (tgt := 103) (by decide +kernel) (by decide) (fun hc => ?_) (fun hc => ?_)
  · replace h := h.1 hc
    refine mV_iconst (n := 0) (v := nI 0) (by decide +kernel) (by decide) ?_
    exact mV_zret (by decide +kernel) rfl (by decide) h
  · replace h := h.2 hc
    refine mV_aload_n (k := 0) (by decide +kernel) rfl ?_
    refine mV_iload_n (k := 1) (by decide +kernel) rfl ?_
    refine mV_iload_n (k := 2) (by decide +kernel) rfl ?_
    refine mV_cV (as := [.int v1, .int v2]) (rest := []) (mc1 := 0) (ms1 := 0) (mc := 0) (ms := 0) (by decide +kernel) md_X13_splits lk_13_522 sh_226 rfl rfl rfl (Nat.le_of_ble_eq_true rfl) (mC.mono (mm_contI (fun r1 G2 hK => ?_)) h)
    replace h := hK
    refine mV_istore_n (k := 3) (ls' := [some (.ref 226), some (.int v1), some (.int v2), some (.int r1), none]) (by decide +kernel) (Nat.le_of_ble_eq_true rfl) rfl rfl ?_
    refine mV_iconst (n := 0) (v := nI 0) (by decide +kernel) (by decide) ?_
    refine mV_istore (i := 4) (ls' := [some (.ref 226), some (.int v1), some (.int v2), some (.int r1), some (.int (nI 0))]) (by decide +kernel) (Nat.le_of_ble_eq_true rfl) rfl rfl ?_
    exact h
set_option maxRecDepth 100000 in
set_option maxHeartbeats 4000000 in
theorem p_X13_inTwo_35 {l : Launch} {κ : mm_K} {d : Nat} {G : mm_G} {K : Int32 → mm_G → Prop} (v1 : Int32) (v2 : Int32) (v3 : Int32) (v4 : Int32) (h : (((mg_i G 226 72) ≤ v4 → ((v3 = 0 → mV l κ true (d + 2) 0 0 m_X13_inTwo 12 [some (.ref 226), some (.int v1), some (.int (v2 + (nI 1))), none, none] [] G (rI K)) ∧ (¬ v3 = 0 → K (nI 1) G))) ∧ (¬ (mg_i G 226 72) ≤ v4 → ((v3 = 0 → ((v3 = 0 → mV l κ true (d + 2) 0 0 m_X13_inTwo 12 [some (.ref 226), some (.int v1), some (.int (v2 + (nI 1))), none, none] [] G (rI K)) ∧ (¬ v3 = 0 → K (nI 1) G))) ∧ (¬ v3 = 0 → vp_in (((nI 140) * v2) + v4) 1120 ∧ ((¬ (mg_i G 273 ((((nI 140) * v2) + v4).toNatClampNeg)) = v4 → mV l κ true (d + 2) 0 0 m_X13_inTwo 35 [some (.ref 226), some (.int v1), some (.int v2), some (.int v3), some (.int (v4 + (nI 1)))] [] G (rI K)) ∧ ((mg_i G 273 ((((nI 140) * v2) + v4).toNatClampNeg)) = v4 → mC l κ true (d + 1) 0 0 m_X13_parts [.ref 226, .int v1, .int v2, .int v4] G (rI (fun r1 G2 => ((r1 = 0 → mV l κ true (d + 2) 0 0 m_X13_inTwo 35 [some (.ref 226), some (.int v1), some (.int v2), some (.int v3), some (.int (v4 + (nI 1)))] [] G2 (rI K)) ∧ (¬ r1 = 0 → mC l κ true (d + 1) 0 0 m_X13_inOne [.ref 226, .int (v1 + (nI 1))] G2 (rI (fun r3 G4 => mV l κ true (d + 2) 0 0 m_X13_inTwo 35 [some (.ref 226), some (.int v1), some (.int v2), some (.int r3), some (.int (v4 + (nI 1)))] [] G4 (rI K)))))))))))))) : mV l κ true (d + 2) 0 0 m_X13_inTwo 35 [some (.ref 226), some (.int v1), some (.int v2), some (.int v3), some (.int v4)] [] G (rI K) := by
  refine mV_iload (i := 4) (by decide +kernel) rfl ?_
  refine mV_aload_n (k := 0) (by decide +kernel) rfl ?_
  refine mV_gfix (x := mg_i G 226 72) (by decide +kernel) fk_13_498 sh_226 rfl ?_
  refine mV_icmp_ge (off := 50) (tgt := 91) (by decide +kernel) (by decide) (fun hc => ?_) (fun hc => ?_)
  · replace h := h.1 hc
    refine mV_iload_n (k := 3) (by decide +kernel) rfl ?_
    refine mV_if_eq (off := 5) (tgt := 97) (by decide +kernel) (by decide) (fun hc => ?_) (fun hc => ?_)
    · replace h := h.1 hc
      refine mV_iincc (i := 2) (n := 1) (c := nI 1) (ls' := [some (.ref 226), some (.int v1), some (.int (v2 + (nI 1))), some (.int v3), some (.int v4)]) (by decide +kernel) (by decide) rfl (Nat.le_of_ble_eq_true rfl) rfl rfl ?_
      refine mV_goto (off := -88) (tgt := 12) (by decide +kernel) (by decide) ?_
      refine mV_fg [3, 4] (ls' := [some (.ref 226), some (.int v1), some (.int (v2 + (nI 1))), none, none]) rfl ?_
      exact h
    · replace h := h.2 hc
      refine mV_iconst (n := 1) (v := nI 1) (by decide +kernel) (by decide) ?_
      exact mV_zret (by decide +kernel) rfl (by decide) h
  · replace h := h.2 hc
    refine mV_iload_n (k := 3) (by decide +kernel) rfl ?_
    refine mV_if_eq (off := 46) (tgt := 91) (by decide +kernel) (by decide) (fun hc => ?_) (fun hc => ?_)
    · replace h := h.1 hc
      refine mV_iload_n (k := 3) (by decide +kernel) rfl ?_
      refine mV_if_eq (off := 5) (tgt := 97) (by decide +kernel) (by decide) (fun hc => ?_) (fun hc => ?_)
      · replace h := h.1 hc
        refine mV_iincc (i := 2) (n := 1) (c := nI 1) (ls' := [some (.ref 226), some (.int v1), some (.int (v2 + (nI 1))), some (.int v3), some (.int v4)]) (by decide +kernel) (by decide) rfl (Nat.le_of_ble_eq_true rfl) rfl rfl ?_
        refine mV_goto (off := -88) (tgt := 12) (by decide +kernel) (by decide) ?_
        refine mV_fg [3, 4] (ls' := [some (.ref 226), some (.int v1), some (.int (v2 + (nI 1))), none, none]) rfl ?_
        exact h
      · replace h := h.2 hc
        refine mV_iconst (n := 1) (v := nI 1) (by decide +kernel) (by decide) ?_
        exact mV_zret (by decide +kernel) rfl (by decide) h
    · replace h := h.2 hc
      refine mV_aload_n (k := 0) (by decide +kernel) rfl ?_
      refine mV_gfr (r := some 273) (by decide +kernel) fk_13_158 sh_226 (mm_rrs st_226_73) rfl ?_
      refine mV_sipush (n := 140) (v := nI 140) (by decide +kernel) (by decide) ?_
      refine mV_iload_n (k := 2) (by decide +kernel) rfl ?_
      refine mV_imul (by decide +kernel) ?_
      refine mV_iload (i := 4) (by decide +kernel) rfl ?_
      refine mV_iadd (by decide +kernel) ?_
      refine mV_ialx (x := mg_i G 273 ((((nI 140) * v2) + v4).toNatClampNeg)) (by decide +kernel) sh_273 h.1 rfl ?_
      replace h := h.2
      refine mV_iload (i := 4) (by decide +kernel) rfl ?_
      refine mV_icmp_ne (off := 22) (tgt := 85) (by decide +kernel) (by decide) (fun hc => ?_) (fun hc => ?_)
      · replace h := h.1 hc
        refine mV_iincc (i := 4) (n := 1) (c := nI 1) (ls' := [some (.ref 226), some (.int v1), some (.int v2), some (.int v3), some (.int (v4 + (nI 1)))]) (by decide +kernel) (by decide) rfl (Nat.le_of_ble_eq_true rfl) rfl rfl ?_
        refine mV_goto (off := -53) (tgt := 35) (by decide +kernel) (by decide) ?_
        exact h
      · replace h := h.2 hc
        refine mV_aload_n (k := 0) (by decide +kernel) rfl ?_
        refine mV_iload_n (k := 1) (by decide +kernel) rfl ?_
        refine mV_iload_n (k := 2) (by decide +kernel) rfl ?_
        refine mV_iload (i := 4) (by decide +kernel) rfl ?_
        refine mV_cV (as := [.int v1, .int v2, .int v4]) (rest := []) (mc1 := 0) (ms1 := 0) (mc := 0) (ms := 0) (by decide +kernel) md_X13_parts lk_13_525 sh_226 rfl rfl rfl (Nat.le_of_ble_eq_true rfl) (mC.mono (mm_contI (fun r1 G2 hK => ?_)) h)
        replace h := hK
        refine mV_if_eq (off := 11) (tgt := 85) (by decide +kernel) (by decide) (fun hc => ?_) (fun hc => ?_)
        · replace h := h.1 hc
          refine mV_iincc (i := 4) (n := 1) (c := nI 1) (ls' := [some (.ref 226), some (.int v1), some (.int v2), some (.int v3), some (.int (v4 + (nI 1)))]) (by decide +kernel) (by decide) rfl (Nat.le_of_ble_eq_true rfl) rfl rfl ?_
          refine mV_goto (off := -53) (tgt := 35) (by decide +kernel) (by decide) ?_
          exact h
        · replace h := h.2 hc
          refine mV_aload_n (k := 0) (by decide +kernel) rfl ?_
          refine mV_iload_n (k := 1) (by decide +kernel) rfl ?_
          refine mV_iconst (n := 1) (v := nI 1) (by decide +kernel) (by decide) ?_
          refine mV_iadd (by decide +kernel) ?_
          refine mV_cV (as := [.int (v1 + (nI 1))]) (rest := []) (mc1 := 0) (ms1 := 0) (mc := 0) (ms := 0) (by decide +kernel) md_X13_inOne lk_13_528 sh_226 rfl rfl rfl (Nat.le_of_ble_eq_true rfl) (mC.mono (mm_contI (fun r3 G4 hK => ?_)) h)
          replace h := hK
          refine mV_istore_n (k := 3) (ls' := [some (.ref 226), some (.int v1), some (.int v2), some (.int r3), some (.int v4)]) (by decide +kernel) (Nat.le_of_ble_eq_true rfl) rfl rfl ?_
          refine mV_iincc (i := 4) (n := 1) (c := nI 1) (ls' := [some (.ref 226), some (.int v1), some (.int v2), some (.int r3), some (.int (v4 + (nI 1)))]) (by decide +kernel) (by decide) rfl (Nat.le_of_ble_eq_true rfl) rfl rfl ?_
          refine mV_goto (off := -53) (tgt := 35) (by decide +kernel) (by decide) ?_
          exact h
set_option maxRecDepth 100000 in
set_option maxHeartbeats 4000000 in
theorem e_X13_inThree {l : Launch} {κ : mm_K} {d : Nat} {G : mm_G} {K : Int32 → mm_G → Prop} (a1 : Int32) (h : mC l κ true (d + 2) 0 0 m_X13_isDone [.ref 226, .int a1] G (rI (fun r1 G2 => ((r1 = 0 → mV l κ true (d + 3) 0 0 m_X13_inThree 12 [some (.ref 226), some (.int a1), some (.int (nI 0)), none, none] [] G2 (rI K)) ∧ (¬ r1 = 0 → K (nI 1) G2))))) : mC l κ true (d + 3) 0 0 m_X13_inThree [.ref 226, .int a1] G (rI K) := by
  refine mC.of (by decide) (Nat.le_of_ble_eq_true rfl) [some (.ref 226), some (.int a1), none, none, none] rfl ?_
  refine mV_aload_n (k := 0) (by decide +kernel) rfl ?_
  refine mV_iload_n (k := 1) (by decide +kernel) rfl ?_
  refine mV_cV (as := [.int a1]) (rest := []) (mc1 := 0) (ms1 := 0) (mc := 0) (ms := 0) (by decide +kernel) md_X13_isDone lk_13_519 sh_226 rfl rfl rfl (Nat.le_of_ble_eq_true rfl) (mC.mono (mm_contI (fun r1 G2 hK => ?_)) h)
  replace h := hK
  refine mV_if_eq (off := 5) (tgt := 10) (by decide +kernel) (by decide) (fun hc => ?_) (fun hc => ?_)
  · replace h := h.1 hc
    refine mV_iconst (n := 0) (v := nI 0) (by decide +kernel) (by decide) ?_
    refine mV_istore_n (k := 2) (ls' := [some (.ref 226), some (.int a1), some (.int (nI 0)), none, none]) (by decide +kernel) (Nat.le_of_ble_eq_true rfl) rfl rfl ?_
    exact h
  · replace h := h.2 hc
    refine mV_iconst (n := 1) (v := nI 1) (by decide +kernel) (by decide) ?_
    exact mV_zret (by decide +kernel) rfl (by decide) h
set_option maxRecDepth 100000 in
set_option maxHeartbeats 4000000 in
theorem p_X13_inThree_12 {l : Launch} {κ : mm_K} {d : Nat} {G : mm_G} {K : Int32 → mm_G → Prop} (v1 : Int32) (v2 : Int32) (h : vp_in (mg_i G 226 18) 2 ∧ (((mg_i G 249 ((mg_i G 226 18).toNatClampNeg)) ≤ v2 → K (nI 0) G) ∧ (¬ (mg_i G 249 ((mg_i G 226 18).toNatClampNeg)) ≤ v2 → mC l κ true (d + 2) 0 0 m_X13_splits [.ref 226, .int v1, .int v2] G (rI (fun r1 G2 => mV l κ true (d + 3) 0 0 m_X13_inThree 35 [some (.ref 226), some (.int v1), some (.int v2), some (.int r1), some (.int (nI 0))] [] G2 (rI K)))))) : mV l κ true (d + 3) 0 0 m_X13_inThree 12 [some (.ref 226), some (.int v1), some (.int v2), none, none] [] G (rI K) := by
  refine mV_iload_n (k := 2) (by decide +kernel) rfl ?_
  refine mV_aload_n (k := 0) (by decide +kernel) rfl ?_
  refine mV_gfr (r := some 249) (by decide +kernel) fk_13_85 sh_226 (mm_rrs st_226_35) rfl ?_
  refine mV_aload_n (k := 0) (by decide +kernel) rfl ?_
  refine mV_gfix (x := mg_i G 226 18) (by decide +kernel) fk_13_266 sh_226 rfl ?_
  refine mV_ialx (x := mg_i G 249 ((mg_i G 226 18).toNatClampNeg)) (by decide +kernel) sh_249 h.1 rfl ?_
  replace h := h.2
  refine mV_icmp_ge (off := 81) (tgt := 103) (by decide +kernel) (by decide) (fun hc => ?_) (fun hc => ?_)
  · replace h := h.1 hc
    refine mV_iconst (n := 0) (v := nI 0) (by decide +kernel) (by decide) ?_
    exact mV_zret (by decide +kernel) rfl (by decide) h
  · replace h := h.2 hc
    refine mV_aload_n (k := 0) (by decide +kernel) rfl ?_
    refine mV_iload_n (k := 1) (by decide +kernel) rfl ?_
    refine mV_iload_n (k := 2) (by decide +kernel) rfl ?_
    refine mV_cV (as := [.int v1, .int v2]) (rest := []) (mc1 := 0) (ms1 := 0) (mc := 0) (ms := 0) (by decide +kernel) md_X13_splits lk_13_522 sh_226 rfl rfl rfl (Nat.le_of_ble_eq_true rfl) (mC.mono (mm_contI (fun r1 G2 hK => ?_)) h)
    replace h := hK
    refine mV_istore_n (k := 3) (ls' := [some (.ref 226), some (.int v1), some (.int v2), some (.int r1), none]) (by decide +kernel) (Nat.le_of_ble_eq_true rfl) rfl rfl ?_
    refine mV_iconst (n := 0) (v := nI 0) (by decide +kernel) (by decide) ?_
    refine mV_istore (i := 4) (ls' := [some (.ref 226), some (.int v1), some (.int v2), some (.int r1), some (.int (nI 0))]) (by decide +kernel) (Nat.le_of_ble_eq_true rfl) rfl rfl ?_
    exact h
set_option maxRecDepth 100000 in
set_option maxHeartbeats 4000000 in
theorem p_X13_inThree_35 {l : Launch} {κ : mm_K} {d : Nat} {G : mm_G} {K : Int32 → mm_G → Prop} (v1 : Int32) (v2 : Int32) (v3 : Int32) (v4 : Int32) (h : (((mg_i G 226 72) ≤ v4 → ((v3 = 0 → mV l κ true (d + 3) 0 0 m_X13_inThree 12 [some (.ref 226), some (.int v1), some (.int (v2 + (nI 1))), none, none] [] G (rI K)) ∧ (¬ v3 = 0 → K (nI 1) G))) ∧ (¬ (mg_i G 226 72) ≤ v4 → ((v3 = 0 → ((v3 = 0 → mV l κ true (d + 3) 0 0 m_X13_inThree 12 [some (.ref 226), some (.int v1), some (.int (v2 + (nI 1))), none, none] [] G (rI K)) ∧ (¬ v3 = 0 → K (nI 1) G))) ∧ (¬ v3 = 0 → vp_in (((nI 140) * v2) + v4) 1120 ∧ ((¬ (mg_i G 273 ((((nI 140) * v2) + v4).toNatClampNeg)) = v4 → mV l κ true (d + 3) 0 0 m_X13_inThree 35 [some (.ref 226), some (.int v1), some (.int v2), some (.int v3), some (.int (v4 + (nI 1)))] [] G (rI K)) ∧ ((mg_i G 273 ((((nI 140) * v2) + v4).toNatClampNeg)) = v4 → mC l κ true (d + 2) 0 0 m_X13_parts [.ref 226, .int v1, .int v2, .int v4] G (rI (fun r1 G2 => ((r1 = 0 → mV l κ true (d + 3) 0 0 m_X13_inThree 35 [some (.ref 226), some (.int v1), some (.int v2), some (.int v3), some (.int (v4 + (nI 1)))] [] G2 (rI K)) ∧ (¬ r1 = 0 → mC l κ true (d + 2) 0 0 m_X13_inTwo [.ref 226, .int (v1 + (nI 1))] G2 (rI (fun r3 G4 => mV l κ true (d + 3) 0 0 m_X13_inThree 35 [some (.ref 226), some (.int v1), some (.int v2), some (.int r3), some (.int (v4 + (nI 1)))] [] G4 (rI K)))))))))))))) : mV l κ true (d + 3) 0 0 m_X13_inThree 35 [some (.ref 226), some (.int v1), some (.int v2), some (.int v3), some (.int v4)] [] G (rI K) := by
  refine mV_iload (i := 4) (by decide +kernel) rfl ?_
  refine mV_aload_n (k := 0) (by decide +kernel) rfl ?_
  refine mV_gfix (x := mg_i G 226 72) (by decide +kernel) fk_13_498 sh_226 rfl ?_
  refine mV_icmp_ge (off := 50) (tgt := 91) (by decide +kernel) (by decide) (fun hc => ?_) (fun hc => ?_)
  · replace h := h.1 hc
    refine mV_iload_n (k := 3) (by decide +kernel) rfl ?_
    refine mV_if_eq (off := 5) (tgt := 97) (by decide +kernel) (by decide) (fun hc => ?_) (fun hc => ?_)
    · replace h := h.1 hc
      refine mV_iincc (i := 2) (n := 1) (c := nI 1) (ls' := [some (.ref 226), some (.int v1), some (.int (v2 + (nI 1))), some (.int v3), some (.int v4)]) (by decide +kernel) (by decide) rfl (Nat.le_of_ble_eq_true rfl) rfl rfl ?_
      refine mV_goto (off := -88) (tgt := 12) (by decide +kernel) (by decide) ?_
      refine mV_fg [3, 4] (ls' := [some (.ref 226), some (.int v1), some (.int (v2 + (nI 1))), none, none]) rfl ?_
      exact h
    · replace h := h.2 hc
      refine mV_iconst (n := 1) (v := nI 1) (by decide +kernel) (by decide) ?_
      exact mV_zret (by decide +kernel) rfl (by decide) h
  · replace h := h.2 hc
    refine mV_iload_n (k := 3) (by decide +kernel) rfl ?_
    refine mV_if_eq (off := 46) (tgt := 91) (by decide +kernel) (by decide) (fun hc => ?_) (fun hc => ?_)
    · replace h := h.1 hc
      refine mV_iload_n (k := 3) (by decide +kernel) rfl ?_
      refine mV_if_eq (off := 5) (tgt := 97) (by decide +kernel) (by decide) (fun hc => ?_) (fun hc => ?_)
      · replace h := h.1 hc
        refine mV_iincc (i := 2) (n := 1) (c := nI 1) (ls' := [some (.ref 226), some (.int v1), some (.int (v2 + (nI 1))), some (.int v3), some (.int v4)]) (by decide +kernel) (by decide) rfl (Nat.le_of_ble_eq_true rfl) rfl rfl ?_
        refine mV_goto (off := -88) (tgt := 12) (by decide +kernel) (by decide) ?_
        refine mV_fg [3, 4] (ls' := [some (.ref 226), some (.int v1), some (.int (v2 + (nI 1))), none, none]) rfl ?_
        exact h
      · replace h := h.2 hc
        refine mV_iconst (n := 1) (v := nI 1) (by decide +kernel) (by decide) ?_
        exact mV_zret (by decide +kernel) rfl (by decide) h
    · replace h := h.2 hc
      refine mV_aload_n (k := 0) (by decide +kernel) rfl ?_
      refine mV_gfr (r := some 273) (by decide +kernel) fk_13_158 sh_226 (mm_rrs st_226_73) rfl ?_
      refine mV_sipush (n := 140) (v := nI 140) (by decide +kernel) (by decide) ?_
      refine mV_iload_n (k := 2) (by decide +kernel) rfl ?_
      refine mV_imul (by decide +kernel) ?_
      refine mV_iload (i := 4) (by decide +kernel) rfl ?_
      refine mV_iadd (by decide +kernel) ?_
      refine mV_ialx (x := mg_i G 273 ((((nI 140) * v2) + v4).toNatClampNeg)) (by decide +kernel) sh_273 h.1 rfl ?_
      replace h := h.2
      refine mV_iload (i := 4) (by decide +kernel) rfl ?_
      refine mV_icmp_ne (off := 22) (tgt := 85) (by decide +kernel) (by decide) (fun hc => ?_) (fun hc => ?_)
      · replace h := h.1 hc
        refine mV_iincc (i := 4) (n := 1) (c := nI 1) (ls' := [some (.ref 226), some (.int v1), some (.int v2), some (.int v3), some (.int (v4 + (nI 1)))]) (by decide +kernel) (by decide) rfl (Nat.le_of_ble_eq_true rfl) rfl rfl ?_
        refine mV_goto (off := -53) (tgt := 35) (by decide +kernel) (by decide) ?_
        exact h
      · replace h := h.2 hc
        refine mV_aload_n (k := 0) (by decide +kernel) rfl ?_
        refine mV_iload_n (k := 1) (by decide +kernel) rfl ?_
        refine mV_iload_n (k := 2) (by decide +kernel) rfl ?_
        refine mV_iload (i := 4) (by decide +kernel) rfl ?_
        refine mV_cV (as := [.int v1, .int v2, .int v4]) (rest := []) (mc1 := 0) (ms1 := 0) (mc := 0) (ms := 0) (by decide +kernel) md_X13_parts lk_13_525 sh_226 rfl rfl rfl (Nat.le_of_ble_eq_true rfl) (mC.mono (mm_contI (fun r1 G2 hK => ?_)) h)
        replace h := hK
        refine mV_if_eq (off := 11) (tgt := 85) (by decide +kernel) (by decide) (fun hc => ?_) (fun hc => ?_)
        · replace h := h.1 hc
          refine mV_iincc (i := 4) (n := 1) (c := nI 1) (ls' := [some (.ref 226), some (.int v1), some (.int v2), some (.int v3), some (.int (v4 + (nI 1)))]) (by decide +kernel) (by decide) rfl (Nat.le_of_ble_eq_true rfl) rfl rfl ?_
          refine mV_goto (off := -53) (tgt := 35) (by decide +kernel) (by decide) ?_
          exact h
        · replace h := h.2 hc
          refine mV_aload_n (k := 0) (by decide +kernel) rfl ?_
          refine mV_iload_n (k := 1) (by decide +kernel) rfl ?_
          refine mV_iconst (n := 1) (v := nI 1) (by decide +kernel) (by decide) ?_
          refine mV_iadd (by decide +kernel) ?_
          refine mV_cV (as := [.int (v1 + (nI 1))]) (rest := []) (mc1 := 0) (ms1 := 0) (mc := 0) (ms := 0) (by decide +kernel) md_X13_inTwo lk_13_531 sh_226 rfl rfl rfl (Nat.le_of_ble_eq_true rfl) (mC.mono (mm_contI (fun r3 G4 hK => ?_)) h)
          replace h := hK
          refine mV_istore_n (k := 3) (ls' := [some (.ref 226), some (.int v1), some (.int v2), some (.int r3), some (.int v4)]) (by decide +kernel) (Nat.le_of_ble_eq_true rfl) rfl rfl ?_
          refine mV_iincc (i := 4) (n := 1) (c := nI 1) (ls' := [some (.ref 226), some (.int v1), some (.int v2), some (.int r3), some (.int (v4 + (nI 1)))]) (by decide +kernel) (by decide) rfl (Nat.le_of_ble_eq_true rfl) rfl rfl ?_
          refine mV_goto (off := -53) (tgt := 35) (by decide +kernel) (by decide) ?_
          exact h
