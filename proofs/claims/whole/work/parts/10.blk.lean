set_option maxRecDepth 100000 in
set_option maxHeartbeats 4000000 in
theorem e_X13_feed {l : Launch} {κ : mm_K} {d : Nat} {G : mm_G} {K : Int32 → mm_G → Prop} (a1 : Int32) (a2 : Int32) (a3 : Int32) (a4 : Int32) (a5 : Int32) (h : ((((mg_i G 226 2) + (nI 20)) ≤ (nI 2000) → mC l κ true d 0 0 m_X13_put [.ref 226, .int a1] G (rV (fun G2 => mC l κ true d 0 0 m_X13_put [.ref 226, .int a2] G2 (rV (fun G4 => mC l κ true d 0 0 m_X13_put [.ref 226, .int a3] G4 (rV (fun G6 => mC l κ true d 0 0 m_X13_put [.ref 226, .int a4] G6 (rV (fun G8 => mC l κ true d 0 0 m_X13_put [.ref 226, .int a5] G8 (rV (fun G10 => K (mg_i G10 226 2) G10))))))))))) ∧ (¬ ((mg_i G 226 2) + (nI 20)) ≤ (nI 2000) → K (-1) G))) : mC l κ true (d + 1) 0 0 m_X13_feed [.ref 226, .int a1, .int a2, .int a3, .int a4, .int a5] G (rI K) := by
  refine mC.of (by decide) (Nat.le_of_ble_eq_true rfl) [some (.ref 226), some (.int a1), some (.int a2), some (.int a3), some (.int a4), some (.int a5)] rfl ?_
  refine mV_aload_n (k := 0) (by decide +kernel) rfl ?_
  refine mV_gfix (x := mg_i G 226 2) (by decide +kernel) fk_13_198 sh_226 rfl ?_
  refine mV_bipush (n := 20) (v := nI 20) (by decide +kernel) (by decide) ?_
  refine mV_iadd (by decide +kernel) ?_
  refine mV_sipush (n := 2000) (v := nI 2000) (by decide +kernel) (by decide) ?_
  refine mV_icmp_le (off := 5) (tgt := 15) (by decide +kernel) (by decide) (fun hc => ?_) (fun hc => ?_)
  · replace h := h.1 hc
    refine mV_aload_n (k := 0) (by decide +kernel) rfl ?_
    refine mV_iload_n (k := 1) (by decide +kernel) rfl ?_
    refine mV_cV (as := [.int a1]) (rest := []) (mc1 := 0) (ms1 := 0) (mc := 0) (ms := 0) (by decide +kernel) md_X13_put lk_13_201 sh_226 rfl rfl rfl (Nat.le_of_ble_eq_true rfl) (mC.mono (mm_contV (fun G2 hK => ?_)) h)
    replace h := hK
    refine mV_aload_n (k := 0) (by decide +kernel) rfl ?_
    refine mV_iload_n (k := 2) (by decide +kernel) rfl ?_
    refine mV_cV (as := [.int a2]) (rest := []) (mc1 := 0) (ms1 := 0) (mc := 0) (ms := 0) (by decide +kernel) md_X13_put lk_13_201 sh_226 rfl rfl rfl (Nat.le_of_ble_eq_true rfl) (mC.mono (mm_contV (fun G4 hK => ?_)) h)
    replace h := hK
    refine mV_aload_n (k := 0) (by decide +kernel) rfl ?_
    refine mV_iload_n (k := 3) (by decide +kernel) rfl ?_
    refine mV_cV (as := [.int a3]) (rest := []) (mc1 := 0) (ms1 := 0) (mc := 0) (ms := 0) (by decide +kernel) md_X13_put lk_13_201 sh_226 rfl rfl rfl (Nat.le_of_ble_eq_true rfl) (mC.mono (mm_contV (fun G6 hK => ?_)) h)
    replace h := hK
    refine mV_aload_n (k := 0) (by decide +kernel) rfl ?_
    refine mV_iload (i := 4) (by decide +kernel) rfl ?_
    refine mV_cV (as := [.int a4]) (rest := []) (mc1 := 0) (ms1 := 0) (mc := 0) (ms := 0) (by decide +kernel) md_X13_put lk_13_201 sh_226 rfl rfl rfl (Nat.le_of_ble_eq_true rfl) (mC.mono (mm_contV (fun G8 hK => ?_)) h)
    replace h := hK
    refine mV_aload_n (k := 0) (by decide +kernel) rfl ?_
    refine mV_iload (i := 5) (by decide +kernel) rfl ?_
    refine mV_cV (as := [.int a5]) (rest := []) (mc1 := 0) (ms1 := 0) (mc := 0) (ms := 0) (by decide +kernel) md_X13_put lk_13_201 sh_226 rfl rfl rfl (Nat.le_of_ble_eq_true rfl) (mC.mono (mm_contV (fun G10 hK => ?_)) h)
    replace h := hK
    refine mV_aload_n (k := 0) (by decide +kernel) rfl ?_
    refine mV_gfix (x := mg_i G10 226 2) (by decide +kernel) fk_13_198 sh_226 rfl ?_
    exact mV_iret (by decide +kernel) rfl h
  · replace h := h.2 hc
    refine mV_iconst (n := -1) (v := (-1)) (by decide +kernel) (by decide) ?_
    exact mV_iret (by decide +kernel) rfl h
set_option maxRecDepth 100000 in
set_option maxHeartbeats 4000000 in
theorem e_X13_put {l : Launch} {κ : mm_K} {d : Nat} {G : mm_G} {K : mm_G → Prop} (a1 : Int32) (h : mV l κ true d 0 0 m_X13_put 3 [some (.ref 226), some (.int a1), some (.int (nI 24))] [] G (rV K)) : mC l κ true d 0 0 m_X13_put [.ref 226, .int a1] G (rV K) := by
  refine mC.of (by decide) (Nat.le_of_ble_eq_true rfl) [some (.ref 226), some (.int a1), none] rfl ?_
  refine mV_bipush (n := 24) (v := nI 24) (by decide +kernel) (by decide) ?_
  refine mV_istore_n (k := 2) (ls' := [some (.ref 226), some (.int a1), some (.int (nI 24))]) (by decide +kernel) (Nat.le_of_ble_eq_true rfl) rfl rfl ?_
  exact h
set_option maxRecDepth 100000 in
set_option maxHeartbeats 4000000 in
theorem p_X13_put_3 {l : Launch} {κ : mm_K} {d : Nat} {G : mm_G} {K : mm_G → Prop} (v1 : Int32) (v2 : Int32) (h : ((v2 < 0 → K G) ∧ (¬ v2 < 0 → vp_in (mg_i G 226 2) 2000 ∧ mV l κ true d 0 0 m_X13_put 3 [some (.ref 226), some (.int v1), some (.int (v2 + (-8)))] [] (ms_i (ms_i G 227 ((mg_i G 226 2).toNatClampNeg) (vp_nar .byte ((v1 >>> (v2 &&& 31)).toInt8.toInt32))) 226 2 ((mg_i G 226 2) + (nI 1))) (rV K)))) : mV l κ true d 0 0 m_X13_put 3 [some (.ref 226), some (.int v1), some (.int v2)] [] G (rV K) := by
  refine mV_iload_n (k := 2) (by decide +kernel) rfl ?_
  refine mV_if_lt (off := 32) (tgt := 36) (by decide +kernel) (by decide) (fun hc => ?_) (fun hc => ?_)
  · replace h := h.1 hc
    exact mV_vret (by decide +kernel) rfl h
  · replace h := h.2 hc
    refine mV_aload_n (k := 0) (by decide +kernel) rfl ?_
    refine mV_gfr (r := some 227) (by decide +kernel) fk_13_13 sh_226 (mm_rrs st_226_1) rfl ?_
    refine mV_aload_n (k := 0) (by decide +kernel) rfl ?_
    refine mV_gfix (x := mg_i G 226 2) (by decide +kernel) fk_13_198 sh_226 rfl ?_
    refine mV_iload_n (k := 1) (by decide +kernel) rfl ?_
    refine mV_iload_n (k := 2) (by decide +kernel) rfl ?_
    refine mV_ishr (by decide +kernel) ?_
    refine mV_i2b (by decide +kernel) ?_
    refine mV_bas (by decide +kernel) sh_227 h.1 ?_
    replace h := h.2
    refine mV_aload_n (k := 0) (by decide +kernel) rfl ?_
    refine mV_dup (by decide +kernel) rfl ?_
    refine mV_gfix (x := mg_i G 226 2) (by decide +kernel) fk_13_198 sh_226 rfl ?_
    refine mV_iconst (n := 1) (v := nI 1) (by decide +kernel) (by decide) ?_
    refine mV_iadd (by decide +kernel) ?_
    refine mV_pfi (by decide +kernel) fk_13_198 sh_226 ?_
    refine mV_iincc (i := 2) (n := -8) (c := (-8)) (ls' := [some (.ref 226), some (.int v1), some (.int (v2 + (-8)))]) (by decide +kernel) (by decide) rfl (Nat.le_of_ble_eq_true rfl) rfl rfl ?_
    refine mV_goto (off := -30) (tgt := 3) (by decide +kernel) (by decide) ?_
    exact h
set_option maxRecDepth 100000 in
set_option maxHeartbeats 4000000 in
theorem e_X13_back {l : Launch} {κ : mm_K} {d : Nat} {G : mm_G} {K : Int32 → mm_G → Prop} (a1 : Int32) (h : ((a1 < 0 → K (-1) G) ∧ (¬ a1 < 0 → ((a1 ≤ (mg_i G 226 2) → K ((mg_i G 226 2) - a1) (ms_i G 226 2 ((mg_i G 226 2) - a1))) ∧ (¬ a1 ≤ (mg_i G 226 2) → K (-1) G))))) : mC l κ true d 0 0 m_X13_back [.ref 226, .int a1] G (rI K) := by
  refine mC.of (by decide) (Nat.le_of_ble_eq_true rfl) [some (.ref 226), some (.int a1)] rfl ?_
  refine mV_iload_n (k := 1) (by decide +kernel) rfl ?_
  refine mV_if_lt (off := 11) (tgt := 12) (by decide +kernel) (by decide) (fun hc => ?_) (fun hc => ?_)
  · replace h := h.1 hc
    refine mV_iconst (n := -1) (v := (-1)) (by decide +kernel) (by decide) ?_
    exact mV_iret (by decide +kernel) rfl h
  · replace h := h.2 hc
    refine mV_iload_n (k := 1) (by decide +kernel) rfl ?_
    refine mV_aload_n (k := 0) (by decide +kernel) rfl ?_
    refine mV_gfix (x := mg_i G 226 2) (by decide +kernel) fk_13_198 sh_226 rfl ?_
    refine mV_icmp_le (off := 5) (tgt := 14) (by decide +kernel) (by decide) (fun hc => ?_) (fun hc => ?_)
    · replace h := h.1 hc
      refine mV_aload_n (k := 0) (by decide +kernel) rfl ?_
      refine mV_dup (by decide +kernel) rfl ?_
      refine mV_gfix (x := mg_i G 226 2) (by decide +kernel) fk_13_198 sh_226 rfl ?_
      refine mV_iload_n (k := 1) (by decide +kernel) rfl ?_
      refine mV_isub (by decide +kernel) ?_
      refine mV_pfi (by decide +kernel) fk_13_198 sh_226 ?_
      refine mV_aload_n (k := 0) (by decide +kernel) rfl ?_
      refine mV_gfix (x := (mg_i G 226 2) - a1) (by decide +kernel) fk_13_198 sh_226 rfl ?_
      exact mV_iret (by decide +kernel) rfl h
    · replace h := h.2 hc
      refine mV_iconst (n := -1) (v := (-1)) (by decide +kernel) (by decide) ?_
      exact mV_iret (by decide +kernel) rfl h
set_option maxRecDepth 100000 in
set_option maxHeartbeats 4000000 in
theorem e_X13_byteAt {l : Launch} {κ : mm_K} {d : Nat} {G : mm_G} {K : Int32 → mm_G → Prop} (a1 : Int32) (h : (((mg_i G 226 4) ≤ a1 → K (nI 0) G) ∧ (¬ (mg_i G 226 4) ≤ a1 → vp_in a1 2000 ∧ K ((mg_i G 228 a1.toNatClampNeg) &&& (nI 255)) G))) : mC l κ true d 0 0 m_X13_byteAt [.ref 226, .int a1] G (rI K) := by
  refine mC.of (by decide) (Nat.le_of_ble_eq_true rfl) [some (.ref 226), some (.int a1)] rfl ?_
  refine mV_iload_n (k := 1) (by decide +kernel) rfl ?_
  refine mV_aload_n (k := 0) (by decide +kernel) rfl ?_
  refine mV_gfix (x := mg_i G 226 4) (by decide +kernel) fk_13_205 sh_226 rfl ?_
  refine mV_icmp_ge (off := 16) (tgt := 21) (by decide +kernel) (by decide) (fun hc => ?_) (fun hc => ?_)
  · replace h := h.1 hc
    refine mV_iconst (n := 0) (v := nI 0) (by decide +kernel) (by decide) ?_
    exact mV_iret (by decide +kernel) rfl h
  · replace h := h.2 hc
    refine mV_aload_n (k := 0) (by decide +kernel) rfl ?_
    refine mV_gfr (r := some 228) (by decide +kernel) fk_13_17 sh_226 (mm_rrs st_226_3) rfl ?_
    refine mV_iload_n (k := 1) (by decide +kernel) rfl ?_
    refine mV_balx (x := mg_i G 228 a1.toNatClampNeg) (by decide +kernel) sh_228 h.1 rfl ?_
    replace h := h.2
    refine mV_sipush (n := 255) (v := nI 255) (by decide +kernel) (by decide) ?_
    refine mV_iand (by decide +kernel) ?_
    refine mV_goto (off := 4) (tgt := 22) (by decide +kernel) (by decide) ?_
    exact mV_iret (by decide +kernel) rfl h
set_option maxRecDepth 100000 in
set_option maxHeartbeats 4000000 in
theorem e_X13_isDigit {l : Launch} {κ : mm_K} {d : Nat} {G : mm_G} {K : Int32 → mm_G → Prop} (a1 : Int32) (h : ((a1 < (nI 48) → K (nI 0) G) ∧ (¬ a1 < (nI 48) → (((nI 57) < a1 → K (nI 0) G) ∧ (¬ (nI 57) < a1 → K (nI 1) G))))) : mC l κ true d 0 0 m_X13_isDigit [.int a1] G (rI K) := by
  refine mC.of (by decide) (Nat.le_of_ble_eq_true rfl) [some (.int a1)] rfl ?_
  refine mV_iload_n (k := 0) (by decide +kernel) rfl ?_
  refine mV_bipush (n := 48) (v := nI 48) (by decide +kernel) (by decide) ?_
  refine mV_icmp_lt (off := 13) (tgt := 16) (by decide +kernel) (by decide) (fun hc => ?_) (fun hc => ?_)
  · replace h := h.1 hc
    refine mV_iconst (n := 0) (v := nI 0) (by decide +kernel) (by decide) ?_
    exact mV_zret (by decide +kernel) rfl (by decide) h
  · replace h := h.2 hc
    refine mV_iload_n (k := 0) (by decide +kernel) rfl ?_
    refine mV_bipush (n := 57) (v := nI 57) (by decide +kernel) (by decide) ?_
    refine mV_icmp_gt (off := 7) (tgt := 16) (by decide +kernel) (by decide) (fun hc => ?_) (fun hc => ?_)
    · replace h := h.1 hc
      refine mV_iconst (n := 0) (v := nI 0) (by decide +kernel) (by decide) ?_
      exact mV_zret (by decide +kernel) rfl (by decide) h
    · replace h := h.2 hc
      refine mV_iconst (n := 1) (v := nI 1) (by decide +kernel) (by decide) ?_
      refine mV_goto (off := 4) (tgt := 17) (by decide +kernel) (by decide) ?_
      exact mV_zret (by decide +kernel) rfl (by decide) h
set_option maxRecDepth 100000 in
set_option maxHeartbeats 4000000 in
theorem e_X13_isLetter {l : Launch} {κ : mm_K} {d : Nat} {G : mm_G} {K : Int32 → mm_G → Prop} (a1 : Int32) (h : ((a1 < (nI 97) → K (nI 0) G) ∧ (¬ a1 < (nI 97) → (((nI 122) < a1 → K (nI 0) G) ∧ (¬ (nI 122) < a1 → K (nI 1) G))))) : mC l κ true d 0 0 m_X13_isLetter [.int a1] G (rI K) := by
  refine mC.of (by decide) (Nat.le_of_ble_eq_true rfl) [some (.int a1)] rfl ?_
  refine mV_iload_n (k := 0) (by decide +kernel) rfl ?_
  refine mV_bipush (n := 97) (v := nI 97) (by decide +kernel) (by decide) ?_
  refine mV_icmp_lt (off := 13) (tgt := 16) (by decide +kernel) (by decide) (fun hc => ?_) (fun hc => ?_)
  · replace h := h.1 hc
    refine mV_iconst (n := 0) (v := nI 0) (by decide +kernel) (by decide) ?_
    exact mV_zret (by decide +kernel) rfl (by decide) h
  · replace h := h.2 hc
    refine mV_iload_n (k := 0) (by decide +kernel) rfl ?_
    refine mV_bipush (n := 122) (v := nI 122) (by decide +kernel) (by decide) ?_
    refine mV_icmp_gt (off := 7) (tgt := 16) (by decide +kernel) (by decide) (fun hc => ?_) (fun hc => ?_)
    · replace h := h.1 hc
      refine mV_iconst (n := 0) (v := nI 0) (by decide +kernel) (by decide) ?_
      exact mV_zret (by decide +kernel) rfl (by decide) h
    · replace h := h.2 hc
      refine mV_iconst (n := 1) (v := nI 1) (by decide +kernel) (by decide) ?_
      refine mV_goto (off := 4) (tgt := 17) (by decide +kernel) (by decide) ?_
      exact mV_zret (by decide +kernel) rfl (by decide) h
set_option maxRecDepth 100000 in
set_option maxHeartbeats 4000000 in
theorem e_X13_appends {l : Launch} {κ : mm_K} {d : Nat} {G : mm_G} {K : Int64 → mm_G → Prop} (a1 : Int64) (a2 : Int32) (h : ((¬ a2 = 0 → K (((lN 27) * a1) + (((a2 - (nI 97)) + (nI 1)).toInt64)) G) ∧ (a2 = 0 → K a1 G))) : mC l κ true d 0 0 m_X13_appends [.long a1, .int a2] G (rL K) := by
  refine mC.of (by decide) (Nat.le_of_ble_eq_true rfl) [some (.long a1), none, some (.int a2)] rfl ?_
  refine mV_iload_n (k := 2) (by decide +kernel) rfl ?_
  refine mV_if_ne (off := 7) (tgt := 8) (by decide +kernel) (by decide) (fun hc => ?_) (fun hc => ?_)
  · replace h := h.1 hc
    refine mV_ldc2 (idx := 208) (v := lN 27) (by decide +kernel) (mm_t6 77 (by decide +kernel)) ?_
    refine mV_lload_n (k := 0) (by decide +kernel) rfl ?_
    refine mV_lmul (by decide +kernel) ?_
    refine mV_iload_n (k := 2) (by decide +kernel) rfl ?_
    refine mV_bipush (n := 97) (v := nI 97) (by decide +kernel) (by decide) ?_
    refine mV_isub (by decide +kernel) ?_
    refine mV_iconst (n := 1) (v := nI 1) (by decide +kernel) (by decide) ?_
    refine mV_iadd (by decide +kernel) ?_
    refine mV_i2l (by decide +kernel) ?_
    refine mV_ladd (by decide +kernel) ?_
    exact mV_lret (by decide +kernel) rfl h
  · replace h := h.2 hc
    refine mV_lload_n (k := 0) (by decide +kernel) rfl ?_
    refine mV_goto (off := 16) (tgt := 21) (by decide +kernel) (by decide) ?_
    exact mV_lret (by decide +kernel) rfl h
set_option maxRecDepth 100000 in
set_option maxHeartbeats 4000000 in
theorem e_X13_word {l : Launch} {κ : mm_K} {d : Nat} {G : mm_G} {K : Int64 → mm_G → Prop} (a1 : Int32) (a2 : Int32) (a3 : Int32) (a4 : Int32) (a5 : Int32) (a6 : Int32) (a7 : Int32) (h : mC l κ true d 0 0 m_X13_appends [.long (lN 0), .int a1] G (rL (fun r1 G2 => mC l κ true d 0 0 m_X13_appends [.long r1, .int a2] G2 (rL (fun r3 G4 => mC l κ true d 0 0 m_X13_appends [.long r3, .int a3] G4 (rL (fun r5 G6 => mC l κ true d 0 0 m_X13_appends [.long r5, .int a4] G6 (rL (fun r7 G8 => mC l κ true d 0 0 m_X13_appends [.long r7, .int a5] G8 (rL (fun r9 G10 => mC l κ true d 0 0 m_X13_appends [.long r9, .int a6] G10 (rL (fun r11 G12 => mC l κ true d 0 0 m_X13_appends [.long r11, .int a7] G12 (rL (fun r13 G14 => K r13 G14))))))))))))))) : mC l κ true (d + 1) 0 0 m_X13_word [.int a1, .int a2, .int a3, .int a4, .int a5, .int a6, .int a7] G (rL K) := by
  refine mC.of (by decide) (Nat.le_of_ble_eq_true rfl) [some (.int a1), some (.int a2), some (.int a3), some (.int a4), some (.int a5), some (.int a6), some (.int a7)] rfl ?_
  refine mV_lconst (n := 0) (v := lN 0) (by decide +kernel) (by decide) ?_
  refine mV_iload_n (k := 0) (by decide +kernel) rfl ?_
  refine mV_cS (as := [.long (lN 0), .int a1]) (rest := []) (mc1 := 0) (ms1 := 0) (mc := 0) (ms := 0) (by decide +kernel) md_X13_appends lk_13_210 rfl rfl (Nat.le_of_ble_eq_true rfl) (mC.mono (mm_contL (fun r1 G2 hK => ?_)) h)
  replace h := hK
  refine mV_iload_n (k := 1) (by decide +kernel) rfl ?_
  refine mV_cS (as := [.long r1, .int a2]) (rest := []) (mc1 := 0) (ms1 := 0) (mc := 0) (ms := 0) (by decide +kernel) md_X13_appends lk_13_210 rfl rfl (Nat.le_of_ble_eq_true rfl) (mC.mono (mm_contL (fun r3 G4 hK => ?_)) h)
  replace h := hK
  refine mV_iload_n (k := 2) (by decide +kernel) rfl ?_
  refine mV_cS (as := [.long r3, .int a3]) (rest := []) (mc1 := 0) (ms1 := 0) (mc := 0) (ms := 0) (by decide +kernel) md_X13_appends lk_13_210 rfl rfl (Nat.le_of_ble_eq_true rfl) (mC.mono (mm_contL (fun r5 G6 hK => ?_)) h)
  replace h := hK
  refine mV_iload_n (k := 3) (by decide +kernel) rfl ?_
  refine mV_cS (as := [.long r5, .int a4]) (rest := []) (mc1 := 0) (ms1 := 0) (mc := 0) (ms := 0) (by decide +kernel) md_X13_appends lk_13_210 rfl rfl (Nat.le_of_ble_eq_true rfl) (mC.mono (mm_contL (fun r7 G8 hK => ?_)) h)
  replace h := hK
  refine mV_iload (i := 4) (by decide +kernel) rfl ?_
  refine mV_cS (as := [.long r7, .int a5]) (rest := []) (mc1 := 0) (ms1 := 0) (mc := 0) (ms := 0) (by decide +kernel) md_X13_appends lk_13_210 rfl rfl (Nat.le_of_ble_eq_true rfl) (mC.mono (mm_contL (fun r9 G10 hK => ?_)) h)
  replace h := hK
  refine mV_iload (i := 5) (by decide +kernel) rfl ?_
  refine mV_cS (as := [.long r9, .int a6]) (rest := []) (mc1 := 0) (ms1 := 0) (mc := 0) (ms := 0) (by decide +kernel) md_X13_appends lk_13_210 rfl rfl (Nat.le_of_ble_eq_true rfl) (mC.mono (mm_contL (fun r11 G12 hK => ?_)) h)
  replace h := hK
  refine mV_iload (i := 6) (by decide +kernel) rfl ?_
  refine mV_cS (as := [.long r11, .int a7]) (rest := []) (mc1 := 0) (ms1 := 0) (mc := 0) (ms := 0) (by decide +kernel) md_X13_appends lk_13_210 rfl rfl (Nat.le_of_ble_eq_true rfl) (mC.mono (mm_contL (fun r13 G14 hK => ?_)) h)
  replace h := hK
  exact mV_lret (by decide +kernel) rfl h
set_option maxRecDepth 100000 in
set_option maxHeartbeats 4000000 in
theorem e_X13_token {l : Launch} {κ : mm_K} {d : Nat} {G : mm_G} {K : mm_G → Prop} (a1 : Int32) (a2 : Int32) (a3 : Int32) (a4 : Int64) (h : vp_in (mg_i G 226 10) 403 ∧ vp_in (mg_i G 226 10) 403 ∧ vp_in (mg_i G 226 10) 403 ∧ vp_in (mg_i G 226 10) 403 ∧ K (ms_i (ms_l (ms_i (ms_i (ms_i G 229 ((mg_i G 226 10).toNatClampNeg) a1) 230 ((mg_i G 226 10).toNatClampNeg) a2) 231 ((mg_i G 226 10).toNatClampNeg) a3) 232 ((mg_i G 226 10).toNatClampNeg) a4) 226 10 ((mg_i G 226 10) + (nI 1)))) : mC l κ true d 0 0 m_X13_token [.ref 226, .int a1, .int a2, .int a3, .long a4] G (rV K) := by
  refine mC.of (by decide) (Nat.le_of_ble_eq_true rfl) [some (.ref 226), some (.int a1), some (.int a2), some (.int a3), some (.long a4), none] rfl ?_
  refine mV_aload_n (k := 0) (by decide +kernel) rfl ?_
  refine mV_gfr (r := some 229) (by decide +kernel) fk_13_20 sh_226 (mm_rrs st_226_5) rfl ?_
  refine mV_aload_n (k := 0) (by decide +kernel) rfl ?_
  refine mV_gfix (x := mg_i G 226 10) (by decide +kernel) fk_13_214 sh_226 rfl ?_
  refine mV_iload_n (k := 1) (by decide +kernel) rfl ?_
  refine mV_ias (by decide +kernel) sh_229 h.1 ?_
  replace h := h.2
  refine mV_aload_n (k := 0) (by decide +kernel) rfl ?_
  refine mV_gfr (r := some 230) (by decide +kernel) fk_13_24 sh_226 (mm_rrs st_226_6) rfl ?_
  refine mV_aload_n (k := 0) (by decide +kernel) rfl ?_
  refine mV_gfix (x := mg_i G 226 10) (by decide +kernel) fk_13_214 sh_226 rfl ?_
  refine mV_iload_n (k := 2) (by decide +kernel) rfl ?_
  refine mV_ias (by decide +kernel) sh_230 h.1 ?_
  replace h := h.2
  refine mV_aload_n (k := 0) (by decide +kernel) rfl ?_
  refine mV_gfr (r := some 231) (by decide +kernel) fk_13_27 sh_226 (mm_rrs st_226_7) rfl ?_
  refine mV_aload_n (k := 0) (by decide +kernel) rfl ?_
  refine mV_gfix (x := mg_i G 226 10) (by decide +kernel) fk_13_214 sh_226 rfl ?_
  refine mV_iload_n (k := 3) (by decide +kernel) rfl ?_
  refine mV_ias (by decide +kernel) sh_231 h.1 ?_
  replace h := h.2
  refine mV_aload_n (k := 0) (by decide +kernel) rfl ?_
  refine mV_gfr (r := some 232) (by decide +kernel) fk_13_30 sh_226 (mm_rrs st_226_8) rfl ?_
  refine mV_aload_n (k := 0) (by decide +kernel) rfl ?_
  refine mV_gfix (x := mg_i G 226 10) (by decide +kernel) fk_13_214 sh_226 rfl ?_
  refine mV_lload (i := 4) (by decide +kernel) rfl ?_
  refine mV_las (by decide +kernel) sh_232 h.1 ?_
  replace h := h.2
  refine mV_aload_n (k := 0) (by decide +kernel) rfl ?_
  refine mV_dup (by decide +kernel) rfl ?_
  refine mV_gfix (x := mg_i G 226 10) (by decide +kernel) fk_13_214 sh_226 rfl ?_
  refine mV_iconst (n := 1) (v := nI 1) (by decide +kernel) (by decide) ?_
  refine mV_iadd (by decide +kernel) ?_
  refine mV_pfi (by decide +kernel) fk_13_214 sh_226 ?_
  exact mV_vret (by decide +kernel) rfl h
set_option maxRecDepth 100000 in
set_option maxHeartbeats 4000000 in
theorem e_X13_cut {l : Launch} {κ : mm_K} {d : Nat} {G : mm_G} {K : mm_G → Prop}  (h : mV l κ true (d + 2) 0 0 m_X13_cut 7 [some (.ref 226), some (.int (nI 0)), none, none, none, none, none, none] [] (ms_i G 226 10 (nI 0)) (rV K)) : mC l κ true (d + 2) 0 0 m_X13_cut [.ref 226] G (rV K) := by
  refine mC.of (by decide) (Nat.le_of_ble_eq_true rfl) [some (.ref 226), none, none, none, none, none, none, none] rfl ?_
  refine mV_aload_n (k := 0) (by decide +kernel) rfl ?_
  refine mV_iconst (n := 0) (v := nI 0) (by decide +kernel) (by decide) ?_
  refine mV_pfi (by decide +kernel) fk_13_214 sh_226 ?_
  refine mV_iconst (n := 0) (v := nI 0) (by decide +kernel) (by decide) ?_
  refine mV_istore_n (k := 1) (ls' := [some (.ref 226), some (.int (nI 0)), none, none, none, none, none, none]) (by decide +kernel) (Nat.le_of_ble_eq_true rfl) rfl rfl ?_
  exact h
set_option maxRecDepth 100000 in
set_option maxHeartbeats 4000000 in
theorem p_X13_cut_7 {l : Launch} {κ : mm_K} {d : Nat} {G : mm_G} {K : mm_G → Prop} (v1 : Int32) (h : (((nI 400) < (mg_i G 226 10) → K G) ∧ (¬ (nI 400) < (mg_i G 226 10) → mC l κ true (d + 1) 0 0 m_X13_byteAt [.ref 226, .int v1] G (rI (fun r1 G2 => ((v1 < (mg_i G2 226 4) → ((r1 = (nI 9) → mV l κ true (d + 2) 0 0 m_X13_cut 7 [some (.ref 226), some (.int (v1 + (nI 1))), none, none, none, none, none, none] [] G2 (rV K)) ∧ (¬ r1 = (nI 9) → ((r1 = (nI 10) → mV l κ true (d + 2) 0 0 m_X13_cut 7 [some (.ref 226), some (.int (v1 + (nI 1))), none, none, none, none, none, none] [] G2 (rV K)) ∧ (¬ r1 = (nI 10) → ((r1 = (nI 13) → mV l κ true (d + 2) 0 0 m_X13_cut 7 [some (.ref 226), some (.int (v1 + (nI 1))), none, none, none, none, none, none] [] G2 (rV K)) ∧ (¬ r1 = (nI 13) → ((¬ r1 = (nI 32) → mC l κ true (d + 1) 0 0 m_X13_isLetter [.int r1] G2 (rI (fun r3 G4 => ((r3 = 0 → mC l κ true (d + 1) 0 0 m_X13_isDigit [.int r1] G4 (rI (fun r5 G6 => ((r5 = 0 → mC l κ true (d + 1) 0 0 m_X13_byteAt [.ref 226, .int (v1 + (nI 1))] G6 (rI (fun r7 G8 => mC l κ true (d + 1) 0 0 m_X13_sign [.ref 226, .int v1, .int r1, .int r7] G8 (rI (fun r9 G10 => mV l κ true (d + 2) 0 0 m_X13_cut 7 [some (.ref 226), some (.int (v1 + r9)), none, none, none, none, none, none] [] G10 (rV K)))))) ∧ (¬ r5 = 0 → mV l κ true (d + 2) 0 0 m_X13_cut 208 [some (.ref 226), some (.int v1), some (.int r1), some (.int (nI 0)), some (.int (nI 0)), none, none, none] [] G6 (rV K)))))) ∧ (¬ r3 = 0 → mV l κ true (d + 2) 0 0 m_X13_cut 85 [some (.ref 226), some (.int v1), some (.int r1), some (.int (nI 0)), some (.long (lN 0)), none, none, none] [] G4 (rV K)))))) ∧ (r1 = (nI 32) → mV l κ true (d + 2) 0 0 m_X13_cut 7 [some (.ref 226), some (.int (v1 + (nI 1))), none, none, none, none, none, none] [] G2 (rV K)))))))))) ∧ (¬ v1 < (mg_i G2 226 4) → mC l κ true (d + 1) 0 0 m_X13_token [.ref 226, .int (nI 0), .int (mg_i G2 226 4), .int (nI 0), .long (lN 0)] G2 (rV (fun G12 => K G12))))))))) : mV l κ true (d + 2) 0 0 m_X13_cut 7 [some (.ref 226), some (.int v1), none, none, none, none, none, none] [] G (rV K) := by
  refine mV_aload_n (k := 0) (by decide +kernel) rfl ?_
  refine mV_gfix (x := mg_i G 226 10) (by decide +kernel) fk_13_214 sh_226 rfl ?_
  refine mV_sipush (n := 400) (v := nI 400) (by decide +kernel) (by decide) ?_
  refine mV_icmp_gt (off := 280) (tgt := 294) (by decide +kernel) (by decide) (fun hc => ?_) (fun hc => ?_)
  · replace h := h.1 hc
    exact mV_vret (by decide +kernel) rfl h
  · replace h := h.2 hc
    refine mV_aload_n (k := 0) (by decide +kernel) rfl ?_
    refine mV_iload_n (k := 1) (by decide +kernel) rfl ?_
    refine mV_cV (as := [.int v1]) (rest := []) (mc1 := 0) (ms1 := 0) (mc := 0) (ms := 0) (by decide +kernel) md_X13_byteAt lk_13_217 sh_226 rfl rfl rfl (Nat.le_of_ble_eq_true rfl) (mC.mono (mm_contI (fun r1 G2 hK => ?_)) h)
    replace h := hK
    refine mV_istore_n (k := 2) (ls' := [some (.ref 226), some (.int v1), some (.int r1), none, none, none, none, none]) (by decide +kernel) (Nat.le_of_ble_eq_true rfl) rfl rfl ?_
    refine mV_iload_n (k := 1) (by decide +kernel) rfl ?_
    refine mV_aload_n (k := 0) (by decide +kernel) rfl ?_
    refine mV_gfix (x := mg_i G2 226 4) (by decide +kernel) fk_13_205 sh_226 rfl ?_
    refine mV_icmp_lt (off := 15) (tgt := 43) (by decide +kernel) (by decide) (fun hc => ?_) (fun hc => ?_)
    · replace h := h.1 hc
      refine mV_iload_n (k := 2) (by decide +kernel) rfl ?_
      refine mV_bipush (n := 9) (v := nI 9) (by decide +kernel) (by decide) ?_
      refine mV_icmp_eq (off := 21) (tgt := 67) (by decide +kernel) (by decide) (fun hc => ?_) (fun hc => ?_)
      · replace h := h.1 hc
        refine mV_iincc (i := 1) (n := 1) (c := nI 1) (ls' := [some (.ref 226), some (.int (v1 + (nI 1))), some (.int r1), none, none, none, none, none]) (by decide +kernel) (by decide) rfl (Nat.le_of_ble_eq_true rfl) rfl rfl ?_
        refine mV_goto (off := 221) (tgt := 291) (by decide +kernel) (by decide) ?_
        refine mV_goto (off := -284) (tgt := 7) (by decide +kernel) (by decide) ?_
        refine mV_fg [2] (ls' := [some (.ref 226), some (.int (v1 + (nI 1))), none, none, none, none, none, none]) rfl ?_
        exact h
      · replace h := h.2 hc
        refine mV_iload_n (k := 2) (by decide +kernel) rfl ?_
        refine mV_bipush (n := 10) (v := nI 10) (by decide +kernel) (by decide) ?_
        refine mV_icmp_eq (off := 15) (tgt := 67) (by decide +kernel) (by decide) (fun hc => ?_) (fun hc => ?_)
        · replace h := h.1 hc
          refine mV_iincc (i := 1) (n := 1) (c := nI 1) (ls' := [some (.ref 226), some (.int (v1 + (nI 1))), some (.int r1), none, none, none, none, none]) (by decide +kernel) (by decide) rfl (Nat.le_of_ble_eq_true rfl) rfl rfl ?_
          refine mV_goto (off := 221) (tgt := 291) (by decide +kernel) (by decide) ?_
          refine mV_goto (off := -284) (tgt := 7) (by decide +kernel) (by decide) ?_
          refine mV_fg [2] (ls' := [some (.ref 226), some (.int (v1 + (nI 1))), none, none, none, none, none, none]) rfl ?_
          exact h
        · replace h := h.2 hc
          refine mV_iload_n (k := 2) (by decide +kernel) rfl ?_
          refine mV_bipush (n := 13) (v := nI 13) (by decide +kernel) (by decide) ?_
          refine mV_icmp_eq (off := 9) (tgt := 67) (by decide +kernel) (by decide) (fun hc => ?_) (fun hc => ?_)
          · replace h := h.1 hc
            refine mV_iincc (i := 1) (n := 1) (c := nI 1) (ls' := [some (.ref 226), some (.int (v1 + (nI 1))), some (.int r1), none, none, none, none, none]) (by decide +kernel) (by decide) rfl (Nat.le_of_ble_eq_true rfl) rfl rfl ?_
            refine mV_goto (off := 221) (tgt := 291) (by decide +kernel) (by decide) ?_
            refine mV_goto (off := -284) (tgt := 7) (by decide +kernel) (by decide) ?_
            refine mV_fg [2] (ls' := [some (.ref 226), some (.int (v1 + (nI 1))), none, none, none, none, none, none]) rfl ?_
            exact h
          · replace h := h.2 hc
            refine mV_iload_n (k := 2) (by decide +kernel) rfl ?_
            refine mV_bipush (n := 32) (v := nI 32) (by decide +kernel) (by decide) ?_
            refine mV_icmp_ne (off := 9) (tgt := 73) (by decide +kernel) (by decide) (fun hc => ?_) (fun hc => ?_)
            · replace h := h.1 hc
              refine mV_iload_n (k := 2) (by decide +kernel) rfl ?_
              refine mV_cS (as := [.int r1]) (rest := []) (mc1 := 0) (ms1 := 0) (mc := 0) (ms := 0) (by decide +kernel) md_X13_isLetter lk_13_225 rfl rfl (Nat.le_of_ble_eq_true rfl) (mC.mono (mm_contI (fun r3 G4 hK => ?_)) h)
              replace h := hK
              refine mV_if_eq (off := 119) (tgt := 196) (by decide +kernel) (by decide) (fun hc => ?_) (fun hc => ?_)
              · replace h := h.1 hc
                refine mV_iload_n (k := 2) (by decide +kernel) rfl ?_
                refine mV_cS (as := [.int r1]) (rest := []) (mc1 := 0) (ms1 := 0) (mc := 0) (ms := 0) (by decide +kernel) md_X13_isDigit lk_13_229 rfl rfl (Nat.le_of_ble_eq_true rfl) (mC.mono (mm_contI (fun r5 G6 hK => ?_)) h)
                replace h := hK
                refine mV_if_eq (off := 75) (tgt := 275) (by decide +kernel) (by decide) (fun hc => ?_) (fun hc => ?_)
                · replace h := h.1 hc
                  refine mV_iload_n (k := 1) (by decide +kernel) rfl ?_
                  refine mV_aload_n (k := 0) (by decide +kernel) rfl ?_
                  refine mV_iload_n (k := 1) (by decide +kernel) rfl ?_
                  refine mV_iload_n (k := 2) (by decide +kernel) rfl ?_
                  refine mV_aload_n (k := 0) (by decide +kernel) rfl ?_
                  refine mV_iload_n (k := 1) (by decide +kernel) rfl ?_
                  refine mV_iconst (n := 1) (v := nI 1) (by decide +kernel) (by decide) ?_
                  refine mV_iadd (by decide +kernel) ?_
                  refine mV_cV (as := [.int (v1 + (nI 1))]) (rest := [.int r1, .int v1, .ref 226, .int v1]) (mc1 := 0) (ms1 := 0) (mc := 0) (ms := 0) (by decide +kernel) md_X13_byteAt lk_13_217 sh_226 rfl rfl rfl (Nat.le_of_ble_eq_true rfl) (mC.mono (mm_contI (fun r7 G8 hK => ?_)) h)
                  replace h := hK
                  refine mV_cV (as := [.int v1, .int r1, .int r7]) (rest := [.int v1]) (mc1 := 0) (ms1 := 0) (mc := 0) (ms := 0) (by decide +kernel) md_X13_sign lk_13_232 sh_226 rfl rfl rfl (Nat.le_of_ble_eq_true rfl) (mC.mono (mm_contI (fun r9 G10 hK => ?_)) h)
                  replace h := hK
                  refine mV_iadd (by decide +kernel) ?_
                  refine mV_istore_n (k := 1) (ls' := [some (.ref 226), some (.int (v1 + r9)), some (.int r1), none, none, none, none, none]) (by decide +kernel) (Nat.le_of_ble_eq_true rfl) rfl rfl ?_
                  refine mV_goto (off := -284) (tgt := 7) (by decide +kernel) (by decide) ?_
                  refine mV_fg [2] (ls' := [some (.ref 226), some (.int (v1 + r9)), none, none, none, none, none, none]) rfl ?_
                  exact h
                · replace h := h.2 hc
                  refine mV_iconst (n := 0) (v := nI 0) (by decide +kernel) (by decide) ?_
                  refine mV_istore_n (k := 3) (ls' := [some (.ref 226), some (.int v1), some (.int r1), some (.int (nI 0)), none, none, none, none]) (by decide +kernel) (Nat.le_of_ble_eq_true rfl) rfl rfl ?_
                  refine mV_iconst (n := 0) (v := nI 0) (by decide +kernel) (by decide) ?_
                  refine mV_istore (i := 4) (ls' := [some (.ref 226), some (.int v1), some (.int r1), some (.int (nI 0)), some (.int (nI 0)), none, none, none]) (by decide +kernel) (Nat.le_of_ble_eq_true rfl) rfl rfl ?_
                  exact h
              · replace h := h.2 hc
                refine mV_iconst (n := 0) (v := nI 0) (by decide +kernel) (by decide) ?_
                refine mV_istore_n (k := 3) (ls' := [some (.ref 226), some (.int v1), some (.int r1), some (.int (nI 0)), none, none, none, none]) (by decide +kernel) (Nat.le_of_ble_eq_true rfl) rfl rfl ?_
                refine mV_lconst (n := 0) (v := lN 0) (by decide +kernel) (by decide) ?_
                refine mV_lstore (i := 4) (ls' := [some (.ref 226), some (.int v1), some (.int r1), some (.int (nI 0)), some (.long (lN 0)), none, none, none]) (by decide +kernel) (Nat.le_of_ble_eq_true rfl) rfl rfl ?_
                exact h
            · replace h := h.2 hc
              refine mV_iincc (i := 1) (n := 1) (c := nI 1) (ls' := [some (.ref 226), some (.int (v1 + (nI 1))), some (.int r1), none, none, none, none, none]) (by decide +kernel) (by decide) rfl (Nat.le_of_ble_eq_true rfl) rfl rfl ?_
              refine mV_goto (off := 221) (tgt := 291) (by decide +kernel) (by decide) ?_
              refine mV_goto (off := -284) (tgt := 7) (by decide +kernel) (by decide) ?_
              refine mV_fg [2] (ls' := [some (.ref 226), some (.int (v1 + (nI 1))), none, none, none, none, none, none]) rfl ?_
              exact h
    · replace h := h.2 hc
      refine mV_aload_n (k := 0) (by decide +kernel) rfl ?_
      refine mV_iconst (n := 0) (v := nI 0) (by decide +kernel) (by decide) ?_
      refine mV_aload_n (k := 0) (by decide +kernel) rfl ?_
      refine mV_gfix (x := mg_i G2 226 4) (by decide +kernel) fk_13_205 sh_226 rfl ?_
      refine mV_iconst (n := 0) (v := nI 0) (by decide +kernel) (by decide) ?_
      refine mV_lconst (n := 0) (v := lN 0) (by decide +kernel) (by decide) ?_
      refine mV_cV (as := [.int (nI 0), .int (mg_i G2 226 4), .int (nI 0), .long (lN 0)]) (rest := []) (mc1 := 0) (ms1 := 0) (mc := 0) (ms := 0) (by decide +kernel) md_X13_token lk_13_221 sh_226 rfl rfl rfl (Nat.le_of_ble_eq_true rfl) (mC.mono (mm_contV (fun G12 hK => ?_)) h)
      replace h := hK
      exact mV_vret (by decide +kernel) rfl h
set_option maxRecDepth 100000 in
set_option maxHeartbeats 4000000 in
theorem p_X13_cut_85 {l : Launch} {κ : mm_K} {d : Nat} {G : mm_G} {K : mm_G → Prop} (v1 : Int32) (v2 : Int32) (v3 : Int32) (v4 : Int64) (h : mC l κ true (d + 1) 0 0 m_X13_byteAt [.ref 226, .int (v1 + v3)] G (rI (fun r1 G2 => mC l κ true (d + 1) 0 0 m_X13_isLetter [.int r1] G2 (rI (fun r3 G4 => ((r3 = 0 → ((v3 ≤ (nI 8) → (((nI 7) < v3 → mC l κ true (d + 1) 0 0 m_X13_token [.ref 226, .int (nI 1), .int v1, .int (nI 0), .long v4] G4 (rV (fun G6 => mV l κ true (d + 2) 0 0 m_X13_cut 7 [some (.ref 226), some (.int (v1 + v3)), none, none, none, none, none, none] [] G6 (rV K)))) ∧ (¬ (nI 7) < v3 → mV l κ true (d + 2) 0 0 m_X13_cut 146 [some (.ref 226), some (.int v1), some (.int v2), some (.int v3), some (.long v4), none, some (.int (nI 1)), some (.int (nI 0))] [] G4 (rV K)))) ∧ (¬ v3 ≤ (nI 8) → (((nI 7) < v3 → mC l κ true (d + 1) 0 0 m_X13_token [.ref 226, .int (nI 3), .int v1, .int (nI 0), .long v4] G4 (rV (fun G8 => mV l κ true (d + 2) 0 0 m_X13_cut 7 [some (.ref 226), some (.int (v1 + v3)), none, none, none, none, none, none] [] G8 (rV K)))) ∧ (¬ (nI 7) < v3 → mV l κ true (d + 2) 0 0 m_X13_cut 146 [some (.ref 226), some (.int v1), some (.int v2), some (.int v3), some (.long v4), none, some (.int (nI 3)), some (.int (nI 0))] [] G4 (rV K)))))) ∧ (¬ r3 = 0 → (((nI 8) ≤ v3 → mV l κ true (d + 2) 0 0 m_X13_cut 85 [some (.ref 226), some (.int v1), some (.int v2), some (.int (v3 + (nI 1))), some (.long v4), none, none, none] [] G4 (rV K)) ∧ (¬ (nI 8) ≤ v3 → mC l κ true (d + 1) 0 0 m_X13_byteAt [.ref 226, .int (v1 + v3)] G4 (rI (fun r9 G10 => mC l κ true (d + 1) 0 0 m_X13_appends [.long v4, .int r9] G10 (rL (fun r11 G12 => mV l κ true (d + 2) 0 0 m_X13_cut 85 [some (.ref 226), some (.int v1), some (.int v2), some (.int (v3 + (nI 1))), some (.long r11), none, none, none] [] G12 (rV K)))))))))))))) : mV l κ true (d + 2) 0 0 m_X13_cut 85 [some (.ref 226), some (.int v1), some (.int v2), some (.int v3), some (.long v4), none, none, none] [] G (rV K) := by
  refine mV_aload_n (k := 0) (by decide +kernel) rfl ?_
  refine mV_iload_n (k := 1) (by decide +kernel) rfl ?_
  refine mV_iload_n (k := 3) (by decide +kernel) rfl ?_
  refine mV_iadd (by decide +kernel) ?_
  refine mV_cV (as := [.int (v1 + v3)]) (rest := []) (mc1 := 0) (ms1 := 0) (mc := 0) (ms := 0) (by decide +kernel) md_X13_byteAt lk_13_217 sh_226 rfl rfl rfl (Nat.le_of_ble_eq_true rfl) (mC.mono (mm_contI (fun r1 G2 hK => ?_)) h)
  replace h := hK
  refine mV_cS (as := [.int r1]) (rest := []) (mc1 := 0) (ms1 := 0) (mc := 0) (ms := 0) (by decide +kernel) md_X13_isLetter lk_13_225 rfl rfl (Nat.le_of_ble_eq_true rfl) (mC.mono (mm_contI (fun r3 G4 hK => ?_)) h)
  replace h := hK
  refine mV_if_eq (off := 29) (tgt := 124) (by decide +kernel) (by decide) (fun hc => ?_) (fun hc => ?_)
  · replace h := h.1 hc
    refine mV_iload_n (k := 3) (by decide +kernel) rfl ?_
    refine mV_bipush (n := 8) (v := nI 8) (by decide +kernel) (by decide) ?_
    refine mV_icmp_le (off := 7) (tgt := 134) (by decide +kernel) (by decide) (fun hc => ?_) (fun hc => ?_)
    · replace h := h.1 hc
      refine mV_iconst (n := 1) (v := nI 1) (by decide +kernel) (by decide) ?_
      refine mV_istore (i := 6) (ls' := [some (.ref 226), some (.int v1), some (.int v2), some (.int v3), some (.long v4), none, some (.int (nI 1)), none]) (by decide +kernel) (Nat.le_of_ble_eq_true rfl) rfl rfl ?_
      refine mV_iload_n (k := 3) (by decide +kernel) rfl ?_
      refine mV_bipush (n := 7) (v := nI 7) (by decide +kernel) (by decide) ?_
      refine mV_icmp_gt (off := 39) (tgt := 179) (by decide +kernel) (by decide) (fun hc => ?_) (fun hc => ?_)
      · replace h := h.1 hc
        refine mV_aload_n (k := 0) (by decide +kernel) rfl ?_
        refine mV_iload (i := 6) (by decide +kernel) rfl ?_
        refine mV_iload_n (k := 1) (by decide +kernel) rfl ?_
        refine mV_iconst (n := 0) (v := nI 0) (by decide +kernel) (by decide) ?_
        refine mV_lload (i := 4) (by decide +kernel) rfl ?_
        refine mV_cV (as := [.int (nI 1), .int v1, .int (nI 0), .long v4]) (rest := []) (mc1 := 0) (ms1 := 0) (mc := 0) (ms := 0) (by decide +kernel) md_X13_token lk_13_221 sh_226 rfl rfl rfl (Nat.le_of_ble_eq_true rfl) (mC.mono (mm_contV (fun G6 hK => ?_)) h)
        replace h := hK
        refine mV_iload_n (k := 1) (by decide +kernel) rfl ?_
        refine mV_iload_n (k := 3) (by decide +kernel) rfl ?_
        refine mV_iadd (by decide +kernel) ?_
        refine mV_istore_n (k := 1) (ls' := [some (.ref 226), some (.int (v1 + v3)), some (.int v2), some (.int v3), some (.long v4), none, some (.int (nI 1)), none]) (by decide +kernel) (Nat.le_of_ble_eq_true rfl) rfl rfl ?_
        refine mV_goto (off := 98) (tgt := 291) (by decide +kernel) (by decide) ?_
        refine mV_goto (off := -284) (tgt := 7) (by decide +kernel) (by decide) ?_
        refine mV_fg [2, 3, 4, 6] (ls' := [some (.ref 226), some (.int (v1 + v3)), none, none, none, none, none, none]) rfl ?_
        exact h
      · replace h := h.2 hc
        refine mV_iconst (n := 0) (v := nI 0) (by decide +kernel) (by decide) ?_
        refine mV_istore (i := 7) (ls' := [some (.ref 226), some (.int v1), some (.int v2), some (.int v3), some (.long v4), none, some (.int (nI 1)), some (.int (nI 0))]) (by decide +kernel) (Nat.le_of_ble_eq_true rfl) rfl rfl ?_
        exact h
    · replace h := h.2 hc
      refine mV_iconst (n := 3) (v := nI 3) (by decide +kernel) (by decide) ?_
      refine mV_goto (off := 4) (tgt := 135) (by decide +kernel) (by decide) ?_
      refine mV_istore (i := 6) (ls' := [some (.ref 226), some (.int v1), some (.int v2), some (.int v3), some (.long v4), none, some (.int (nI 3)), none]) (by decide +kernel) (Nat.le_of_ble_eq_true rfl) rfl rfl ?_
      refine mV_iload_n (k := 3) (by decide +kernel) rfl ?_
      refine mV_bipush (n := 7) (v := nI 7) (by decide +kernel) (by decide) ?_
      refine mV_icmp_gt (off := 39) (tgt := 179) (by decide +kernel) (by decide) (fun hc => ?_) (fun hc => ?_)
      · replace h := h.1 hc
        refine mV_aload_n (k := 0) (by decide +kernel) rfl ?_
        refine mV_iload (i := 6) (by decide +kernel) rfl ?_
        refine mV_iload_n (k := 1) (by decide +kernel) rfl ?_
        refine mV_iconst (n := 0) (v := nI 0) (by decide +kernel) (by decide) ?_
        refine mV_lload (i := 4) (by decide +kernel) rfl ?_
        refine mV_cV (as := [.int (nI 3), .int v1, .int (nI 0), .long v4]) (rest := []) (mc1 := 0) (ms1 := 0) (mc := 0) (ms := 0) (by decide +kernel) md_X13_token lk_13_221 sh_226 rfl rfl rfl (Nat.le_of_ble_eq_true rfl) (mC.mono (mm_contV (fun G8 hK => ?_)) h)
        replace h := hK
        refine mV_iload_n (k := 1) (by decide +kernel) rfl ?_
        refine mV_iload_n (k := 3) (by decide +kernel) rfl ?_
        refine mV_iadd (by decide +kernel) ?_
        refine mV_istore_n (k := 1) (ls' := [some (.ref 226), some (.int (v1 + v3)), some (.int v2), some (.int v3), some (.long v4), none, some (.int (nI 3)), none]) (by decide +kernel) (Nat.le_of_ble_eq_true rfl) rfl rfl ?_
        refine mV_goto (off := 98) (tgt := 291) (by decide +kernel) (by decide) ?_
        refine mV_goto (off := -284) (tgt := 7) (by decide +kernel) (by decide) ?_
        refine mV_fg [2, 3, 4, 6] (ls' := [some (.ref 226), some (.int (v1 + v3)), none, none, none, none, none, none]) rfl ?_
        exact h
      · replace h := h.2 hc
        refine mV_iconst (n := 0) (v := nI 0) (by decide +kernel) (by decide) ?_
        refine mV_istore (i := 7) (ls' := [some (.ref 226), some (.int v1), some (.int v2), some (.int v3), some (.long v4), none, some (.int (nI 3)), some (.int (nI 0))]) (by decide +kernel) (Nat.le_of_ble_eq_true rfl) rfl rfl ?_
        exact h
  · replace h := h.2 hc
    refine mV_iload_n (k := 3) (by decide +kernel) rfl ?_
    refine mV_bipush (n := 8) (v := nI 8) (by decide +kernel) (by decide) ?_
    refine mV_icmp_ge (off := 17) (tgt := 118) (by decide +kernel) (by decide) (fun hc => ?_) (fun hc => ?_)
    · replace h := h.1 hc
      refine mV_iincc (i := 3) (n := 1) (c := nI 1) (ls' := [some (.ref 226), some (.int v1), some (.int v2), some (.int (v3 + (nI 1))), some (.long v4), none, none, none]) (by decide +kernel) (by decide) rfl (Nat.le_of_ble_eq_true rfl) rfl rfl ?_
      refine mV_goto (off := -36) (tgt := 85) (by decide +kernel) (by decide) ?_
      exact h
    · replace h := h.2 hc
      refine mV_lload (i := 4) (by decide +kernel) rfl ?_
      refine mV_aload_n (k := 0) (by decide +kernel) rfl ?_
      refine mV_iload_n (k := 1) (by decide +kernel) rfl ?_
      refine mV_iload_n (k := 3) (by decide +kernel) rfl ?_
      refine mV_iadd (by decide +kernel) ?_
      refine mV_cV (as := [.int (v1 + v3)]) (rest := [.long v4]) (mc1 := 0) (ms1 := 0) (mc := 0) (ms := 0) (by decide +kernel) md_X13_byteAt lk_13_217 sh_226 rfl rfl rfl (Nat.le_of_ble_eq_true rfl) (mC.mono (mm_contI (fun r9 G10 hK => ?_)) h)
      replace h := hK
      refine mV_cS (as := [.long v4, .int r9]) (rest := []) (mc1 := 0) (ms1 := 0) (mc := 0) (ms := 0) (by decide +kernel) md_X13_appends lk_13_210 rfl rfl (Nat.le_of_ble_eq_true rfl) (mC.mono (mm_contL (fun r11 G12 hK => ?_)) h)
      replace h := hK
      refine mV_lstore (i := 4) (ls' := [some (.ref 226), some (.int v1), some (.int v2), some (.int v3), some (.long r11), none, none, none]) (by decide +kernel) (Nat.le_of_ble_eq_true rfl) rfl rfl ?_
      refine mV_iincc (i := 3) (n := 1) (c := nI 1) (ls' := [some (.ref 226), some (.int v1), some (.int v2), some (.int (v3 + (nI 1))), some (.long r11), none, none, none]) (by decide +kernel) (by decide) rfl (Nat.le_of_ble_eq_true rfl) rfl rfl ?_
      refine mV_goto (off := -36) (tgt := 85) (by decide +kernel) (by decide) ?_
      exact h
set_option maxRecDepth 100000 in
set_option maxHeartbeats 4000000 in
theorem p_X13_cut_146 {l : Launch} {κ : mm_K} {d : Nat} {G : mm_G} {K : mm_G → Prop} (v1 : Int32) (v2 : Int32) (v3 : Int32) (v4 : Int64) (v6 : Int32) (v7 : Int32) (h : (((nI 20) ≤ v7 → mC l κ true (d + 1) 0 0 m_X13_token [.ref 226, .int v6, .int v1, .int (nI 0), .long v4] G (rV (fun G2 => mV l κ true (d + 2) 0 0 m_X13_cut 7 [some (.ref 226), some (.int (v1 + v3)), none, none, none, none, none, none] [] G2 (rV K)))) ∧ (¬ (nI 20) ≤ v7 → vp_in v7 20 ∧ ((¬ (lg_cmp (mg_l G 233 v7.toNatClampNeg) v4) = 0 → mV l κ true (d + 2) 0 0 m_X13_cut 146 [some (.ref 226), some (.int v1), some (.int v2), some (.int v3), some (.long v4), none, some (.int v6), some (.int (v7 + (nI 1)))] [] G (rV K)) ∧ ((lg_cmp (mg_l G 233 v7.toNatClampNeg) v4) = 0 → mV l κ true (d + 2) 0 0 m_X13_cut 146 [some (.ref 226), some (.int v1), some (.int v2), some (.int v3), some (.long v4), none, some (.int ((nI 20) + v7)), some (.int (v7 + (nI 1)))] [] G (rV K)))))) : mV l κ true (d + 2) 0 0 m_X13_cut 146 [some (.ref 226), some (.int v1), some (.int v2), some (.int v3), some (.long v4), none, some (.int v6), some (.int v7)] [] G (rV K) := by
  refine mV_iload (i := 7) (by decide +kernel) rfl ?_
  refine mV_bipush (n := 20) (v := nI 20) (by decide +kernel) (by decide) ?_
  refine mV_icmp_ge (off := 29) (tgt := 179) (by decide +kernel) (by decide) (fun hc => ?_) (fun hc => ?_)
  · replace h := h.1 hc
    refine mV_aload_n (k := 0) (by decide +kernel) rfl ?_
    refine mV_iload (i := 6) (by decide +kernel) rfl ?_
    refine mV_iload_n (k := 1) (by decide +kernel) rfl ?_
    refine mV_iconst (n := 0) (v := nI 0) (by decide +kernel) (by decide) ?_
    refine mV_lload (i := 4) (by decide +kernel) rfl ?_
    refine mV_cV (as := [.int v6, .int v1, .int (nI 0), .long v4]) (rest := []) (mc1 := 0) (ms1 := 0) (mc := 0) (ms := 0) (by decide +kernel) md_X13_token lk_13_221 sh_226 rfl rfl rfl (Nat.le_of_ble_eq_true rfl) (mC.mono (mm_contV (fun G2 hK => ?_)) h)
    replace h := hK
    refine mV_iload_n (k := 1) (by decide +kernel) rfl ?_
    refine mV_iload_n (k := 3) (by decide +kernel) rfl ?_
    refine mV_iadd (by decide +kernel) ?_
    refine mV_istore_n (k := 1) (ls' := [some (.ref 226), some (.int (v1 + v3)), some (.int v2), some (.int v3), some (.long v4), none, some (.int v6), some (.int v7)]) (by decide +kernel) (Nat.le_of_ble_eq_true rfl) rfl rfl ?_
    refine mV_goto (off := 98) (tgt := 291) (by decide +kernel) (by decide) ?_
    refine mV_goto (off := -284) (tgt := 7) (by decide +kernel) (by decide) ?_
    refine mV_fg [2, 3, 4, 6, 7] (ls' := [some (.ref 226), some (.int (v1 + v3)), none, none, none, none, none, none]) rfl ?_
    exact h
  · replace h := h.2 hc
    refine mV_aload_n (k := 0) (by decide +kernel) rfl ?_
    refine mV_gfr (r := some 233) (by decide +kernel) fk_13_34 sh_226 (mm_rrs st_226_9) rfl ?_
    refine mV_iload (i := 7) (by decide +kernel) rfl ?_
    refine mV_lalx (x := mg_l G 233 v7.toNatClampNeg) (by decide +kernel) sh_233 h.1 rfl ?_
    replace h := h.2
    refine mV_lload (i := 4) (by decide +kernel) rfl ?_
    refine mV_lcmp (by decide +kernel) ?_
    refine mV_if_ne (off := 10) (tgt := 173) (by decide +kernel) (by decide) (fun hc => ?_) (fun hc => ?_)
    · replace h := h.1 hc
      refine mV_iincc (i := 7) (n := 1) (c := nI 1) (ls' := [some (.ref 226), some (.int v1), some (.int v2), some (.int v3), some (.long v4), none, some (.int v6), some (.int (v7 + (nI 1)))]) (by decide +kernel) (by decide) rfl (Nat.le_of_ble_eq_true rfl) rfl rfl ?_
      refine mV_goto (off := -30) (tgt := 146) (by decide +kernel) (by decide) ?_
      exact h
    · replace h := h.2 hc
      refine mV_bipush (n := 20) (v := nI 20) (by decide +kernel) (by decide) ?_
      refine mV_iload (i := 7) (by decide +kernel) rfl ?_
      refine mV_iadd (by decide +kernel) ?_
      refine mV_istore (i := 6) (ls' := [some (.ref 226), some (.int v1), some (.int v2), some (.int v3), some (.long v4), none, some (.int ((nI 20) + v7)), some (.int v7)]) (by decide +kernel) (Nat.le_of_ble_eq_true rfl) rfl rfl ?_
      refine mV_iincc (i := 7) (n := 1) (c := nI 1) (ls' := [some (.ref 226), some (.int v1), some (.int v2), some (.int v3), some (.long v4), none, some (.int ((nI 20) + v7)), some (.int (v7 + (nI 1)))]) (by decide +kernel) (by decide) rfl (Nat.le_of_ble_eq_true rfl) rfl rfl ?_
      refine mV_goto (off := -30) (tgt := 146) (by decide +kernel) (by decide) ?_
      exact h
set_option maxRecDepth 100000 in
set_option maxHeartbeats 4000000 in
theorem p_X13_cut_208 {l : Launch} {κ : mm_K} {d : Nat} {G : mm_G} {K : mm_G → Prop} (v1 : Int32) (v2 : Int32) (v3 : Int32) (v4 : Int32) (h : mC l κ true (d + 1) 0 0 m_X13_byteAt [.ref 226, .int (v1 + v3)] G (rI (fun r1 G2 => mC l κ true (d + 1) 0 0 m_X13_isDigit [.int r1] G2 (rI (fun r3 G4 => ((r3 = 0 → ((v3 ≤ (nI 4) → mC l κ true (d + 1) 0 0 m_X13_token [.ref 226, .int (nI 2), .int v1, .int v4, .long (lN 0)] G4 (rV (fun G6 => mV l κ true (d + 2) 0 0 m_X13_cut 7 [some (.ref 226), some (.int (v1 + v3)), none, none, none, none, none, none] [] G6 (rV K)))) ∧ (¬ v3 ≤ (nI 4) → mC l κ true (d + 1) 0 0 m_X13_token [.ref 226, .int (nI 3), .int v1, .int v4, .long (lN 0)] G4 (rV (fun G8 => mV l κ true (d + 2) 0 0 m_X13_cut 7 [some (.ref 226), some (.int (v1 + v3)), none, none, none, none, none, none] [] G8 (rV K)))))) ∧ (¬ r3 = 0 → (((nI 4) ≤ v3 → mV l κ true (d + 2) 0 0 m_X13_cut 208 [some (.ref 226), some (.int v1), some (.int v2), some (.int (v3 + (nI 1))), some (.int v4), none, none, none] [] G4 (rV K)) ∧ (¬ (nI 4) ≤ v3 → mC l κ true (d + 1) 0 0 m_X13_byteAt [.ref 226, .int (v1 + v3)] G4 (rI (fun r9 G10 => mV l κ true (d + 2) 0 0 m_X13_cut 208 [some (.ref 226), some (.int v1), some (.int v2), some (.int (v3 + (nI 1))), some (.int ((((nI 10) * v4) + r9) - (nI 48))), none, none, none] [] G10 (rV K)))))))))))) : mV l κ true (d + 2) 0 0 m_X13_cut 208 [some (.ref 226), some (.int v1), some (.int v2), some (.int v3), some (.int v4), none, none, none] [] G (rV K) := by
  refine mV_aload_n (k := 0) (by decide +kernel) rfl ?_
  refine mV_iload_n (k := 1) (by decide +kernel) rfl ?_
  refine mV_iload_n (k := 3) (by decide +kernel) rfl ?_
  refine mV_iadd (by decide +kernel) ?_
  refine mV_cV (as := [.int (v1 + v3)]) (rest := []) (mc1 := 0) (ms1 := 0) (mc := 0) (ms := 0) (by decide +kernel) md_X13_byteAt lk_13_217 sh_226 rfl rfl rfl (Nat.le_of_ble_eq_true rfl) (mC.mono (mm_contI (fun r1 G2 hK => ?_)) h)
  replace h := hK
  refine mV_cS (as := [.int r1]) (rest := []) (mc1 := 0) (ms1 := 0) (mc := 0) (ms := 0) (by decide +kernel) md_X13_isDigit lk_13_229 rfl rfl (Nat.le_of_ble_eq_true rfl) (mC.mono (mm_contI (fun r3 G4 hK => ?_)) h)
  replace h := hK
  refine mV_if_eq (off := 32) (tgt := 250) (by decide +kernel) (by decide) (fun hc => ?_) (fun hc => ?_)
  · replace h := h.1 hc
    refine mV_aload_n (k := 0) (by decide +kernel) rfl ?_
    refine mV_iload_n (k := 3) (by decide +kernel) rfl ?_
    refine mV_iconst (n := 4) (v := nI 4) (by decide +kernel) (by decide) ?_
    refine mV_icmp_le (off := 7) (tgt := 260) (by decide +kernel) (by decide) (fun hc => ?_) (fun hc => ?_)
    · replace h := h.1 hc
      refine mV_iconst (n := 2) (v := nI 2) (by decide +kernel) (by decide) ?_
      refine mV_iload_n (k := 1) (by decide +kernel) rfl ?_
      refine mV_iload (i := 4) (by decide +kernel) rfl ?_
      refine mV_lconst (n := 0) (v := lN 0) (by decide +kernel) (by decide) ?_
      refine mV_cV (as := [.int (nI 2), .int v1, .int v4, .long (lN 0)]) (rest := []) (mc1 := 0) (ms1 := 0) (mc := 0) (ms := 0) (by decide +kernel) md_X13_token lk_13_221 sh_226 rfl rfl rfl (Nat.le_of_ble_eq_true rfl) (mC.mono (mm_contV (fun G6 hK => ?_)) h)
      replace h := hK
      refine mV_iload_n (k := 1) (by decide +kernel) rfl ?_
      refine mV_iload_n (k := 3) (by decide +kernel) rfl ?_
      refine mV_iadd (by decide +kernel) ?_
      refine mV_istore_n (k := 1) (ls' := [some (.ref 226), some (.int (v1 + v3)), some (.int v2), some (.int v3), some (.int v4), none, none, none]) (by decide +kernel) (Nat.le_of_ble_eq_true rfl) rfl rfl ?_
      refine mV_goto (off := 19) (tgt := 291) (by decide +kernel) (by decide) ?_
      refine mV_goto (off := -284) (tgt := 7) (by decide +kernel) (by decide) ?_
      refine mV_fg [2, 3, 4] (ls' := [some (.ref 226), some (.int (v1 + v3)), none, none, none, none, none, none]) rfl ?_
      exact h
    · replace h := h.2 hc
      refine mV_iconst (n := 3) (v := nI 3) (by decide +kernel) (by decide) ?_
      refine mV_goto (off := 4) (tgt := 261) (by decide +kernel) (by decide) ?_
      refine mV_iload_n (k := 1) (by decide +kernel) rfl ?_
      refine mV_iload (i := 4) (by decide +kernel) rfl ?_
      refine mV_lconst (n := 0) (v := lN 0) (by decide +kernel) (by decide) ?_
      refine mV_cV (as := [.int (nI 3), .int v1, .int v4, .long (lN 0)]) (rest := []) (mc1 := 0) (ms1 := 0) (mc := 0) (ms := 0) (by decide +kernel) md_X13_token lk_13_221 sh_226 rfl rfl rfl (Nat.le_of_ble_eq_true rfl) (mC.mono (mm_contV (fun G8 hK => ?_)) h)
      replace h := hK
      refine mV_iload_n (k := 1) (by decide +kernel) rfl ?_
      refine mV_iload_n (k := 3) (by decide +kernel) rfl ?_
      refine mV_iadd (by decide +kernel) ?_
      refine mV_istore_n (k := 1) (ls' := [some (.ref 226), some (.int (v1 + v3)), some (.int v2), some (.int v3), some (.int v4), none, none, none]) (by decide +kernel) (Nat.le_of_ble_eq_true rfl) rfl rfl ?_
      refine mV_goto (off := 19) (tgt := 291) (by decide +kernel) (by decide) ?_
      refine mV_goto (off := -284) (tgt := 7) (by decide +kernel) (by decide) ?_
      refine mV_fg [2, 3, 4] (ls' := [some (.ref 226), some (.int (v1 + v3)), none, none, none, none, none, none]) rfl ?_
      exact h
  · replace h := h.2 hc
    refine mV_iload_n (k := 3) (by decide +kernel) rfl ?_
    refine mV_iconst (n := 4) (v := nI 4) (by decide +kernel) (by decide) ?_
    refine mV_icmp_ge (off := 21) (tgt := 244) (by decide +kernel) (by decide) (fun hc => ?_) (fun hc => ?_)
    · replace h := h.1 hc
      refine mV_iincc (i := 3) (n := 1) (c := nI 1) (ls' := [some (.ref 226), some (.int v1), some (.int v2), some (.int (v3 + (nI 1))), some (.int v4), none, none, none]) (by decide +kernel) (by decide) rfl (Nat.le_of_ble_eq_true rfl) rfl rfl ?_
      refine mV_goto (off := -39) (tgt := 208) (by decide +kernel) (by decide) ?_
      exact h
    · replace h := h.2 hc
      refine mV_bipush (n := 10) (v := nI 10) (by decide +kernel) (by decide) ?_
      refine mV_iload (i := 4) (by decide +kernel) rfl ?_
      refine mV_imul (by decide +kernel) ?_
      refine mV_aload_n (k := 0) (by decide +kernel) rfl ?_
      refine mV_iload_n (k := 1) (by decide +kernel) rfl ?_
      refine mV_iload_n (k := 3) (by decide +kernel) rfl ?_
      refine mV_iadd (by decide +kernel) ?_
      refine mV_cV (as := [.int (v1 + v3)]) (rest := [.int ((nI 10) * v4)]) (mc1 := 0) (ms1 := 0) (mc := 0) (ms := 0) (by decide +kernel) md_X13_byteAt lk_13_217 sh_226 rfl rfl rfl (Nat.le_of_ble_eq_true rfl) (mC.mono (mm_contI (fun r9 G10 hK => ?_)) h)
      replace h := hK
      refine mV_iadd (by decide +kernel) ?_
      refine mV_bipush (n := 48) (v := nI 48) (by decide +kernel) (by decide) ?_
      refine mV_isub (by decide +kernel) ?_
      refine mV_istore (i := 4) (ls' := [some (.ref 226), some (.int v1), some (.int v2), some (.int v3), some (.int ((((nI 10) * v4) + r9) - (nI 48))), none, none, none]) (by decide +kernel) (Nat.le_of_ble_eq_true rfl) rfl rfl ?_
      refine mV_iincc (i := 3) (n := 1) (c := nI 1) (ls' := [some (.ref 226), some (.int v1), some (.int v2), some (.int (v3 + (nI 1))), some (.int ((((nI 10) * v4) + r9) - (nI 48))), none, none, none]) (by decide +kernel) (by decide) rfl (Nat.le_of_ble_eq_true rfl) rfl rfl ?_
      refine mV_goto (off := -39) (tgt := 208) (by decide +kernel) (by decide) ?_
      exact h
set_option maxRecDepth 100000 in
set_option maxHeartbeats 4000000 in
theorem e_X13_sign {l : Launch} {κ : mm_K} {d : Nat} {G : mm_G} {K : Int32 → mm_G → Prop} (a1 : Int32) (a2 : Int32) (a3 : Int32) (h : ((a3 = (nI 61) → ((¬ a2 = (nI 61) → ((¬ a2 = (nI 33) → ((¬ a2 = (nI 60) → mV l κ true (d + 1) 0 0 m_X13_sign 46 [some (.ref 226), some (.int a1), some (.int a2), some (.int a3), some (.int (nI 0)), none] [] G (rI K)) ∧ (a2 = (nI 60) → mV l κ true (d + 1) 0 0 m_X13_sign 46 [some (.ref 226), some (.int a1), some (.int a2), some (.int a3), some (.int (nI 12)), none] [] G (rI K)))) ∧ (a2 = (nI 33) → mV l κ true (d + 1) 0 0 m_X13_sign 46 [some (.ref 226), some (.int a1), some (.int a2), some (.int a3), some (.int (nI 10)), none] [] G (rI K)))) ∧ (a2 = (nI 61) → mV l κ true (d + 1) 0 0 m_X13_sign 46 [some (.ref 226), some (.int a1), some (.int a2), some (.int a3), some (.int (nI 9)), none] [] G (rI K)))) ∧ (¬ a3 = (nI 61) → mV l κ true (d + 1) 0 0 m_X13_sign 46 [some (.ref 226), some (.int a1), some (.int a2), some (.int a3), some (.int (nI 0)), none] [] G (rI K)))) : mC l κ true (d + 1) 0 0 m_X13_sign [.ref 226, .int a1, .int a2, .int a3] G (rI K) := by
  refine mC.of (by decide) (Nat.le_of_ble_eq_true rfl) [some (.ref 226), some (.int a1), some (.int a2), some (.int a3), none, none] rfl ?_
  refine mV_iload_n (k := 3) (by decide +kernel) rfl ?_
  refine mV_bipush (n := 61) (v := nI 61) (by decide +kernel) (by decide) ?_
  refine mV_icmp_eq (off := 7) (tgt := 10) (by decide +kernel) (by decide) (fun hc => ?_) (fun hc => ?_)
  · replace h := h.1 hc
    refine mV_iload_n (k := 2) (by decide +kernel) rfl ?_
    refine mV_bipush (n := 61) (v := nI 61) (by decide +kernel) (by decide) ?_
    refine mV_icmp_ne (off := 8) (tgt := 21) (by decide +kernel) (by decide) (fun hc => ?_) (fun hc => ?_)
    · replace h := h.1 hc
      refine mV_iload_n (k := 2) (by decide +kernel) rfl ?_
      refine mV_bipush (n := 33) (v := nI 33) (by decide +kernel) (by decide) ?_
      refine mV_icmp_ne (off := 8) (tgt := 32) (by decide +kernel) (by decide) (fun hc => ?_) (fun hc => ?_)
      · replace h := h.1 hc
        refine mV_iload_n (k := 2) (by decide +kernel) rfl ?_
        refine mV_bipush (n := 60) (v := nI 60) (by decide +kernel) (by decide) ?_
        refine mV_icmp_ne (off := 8) (tgt := 43) (by decide +kernel) (by decide) (fun hc => ?_) (fun hc => ?_)
        · replace h := h.1 hc
          refine mV_iconst (n := 0) (v := nI 0) (by decide +kernel) (by decide) ?_
          refine mV_istore (i := 4) (ls' := [some (.ref 226), some (.int a1), some (.int a2), some (.int a3), some (.int (nI 0)), none]) (by decide +kernel) (Nat.le_of_ble_eq_true rfl) rfl rfl ?_
          exact h
        · replace h := h.2 hc
          refine mV_bipush (n := 12) (v := nI 12) (by decide +kernel) (by decide) ?_
          refine mV_goto (off := 4) (tgt := 44) (by decide +kernel) (by decide) ?_
          refine mV_istore (i := 4) (ls' := [some (.ref 226), some (.int a1), some (.int a2), some (.int a3), some (.int (nI 12)), none]) (by decide +kernel) (Nat.le_of_ble_eq_true rfl) rfl rfl ?_
          exact h
      · replace h := h.2 hc
        refine mV_bipush (n := 10) (v := nI 10) (by decide +kernel) (by decide) ?_
        refine mV_goto (off := 15) (tgt := 44) (by decide +kernel) (by decide) ?_
        refine mV_istore (i := 4) (ls' := [some (.ref 226), some (.int a1), some (.int a2), some (.int a3), some (.int (nI 10)), none]) (by decide +kernel) (Nat.le_of_ble_eq_true rfl) rfl rfl ?_
        exact h
    · replace h := h.2 hc
      refine mV_bipush (n := 9) (v := nI 9) (by decide +kernel) (by decide) ?_
      refine mV_goto (off := 26) (tgt := 44) (by decide +kernel) (by decide) ?_
      refine mV_istore (i := 4) (ls' := [some (.ref 226), some (.int a1), some (.int a2), some (.int a3), some (.int (nI 9)), none]) (by decide +kernel) (Nat.le_of_ble_eq_true rfl) rfl rfl ?_
      exact h
  · replace h := h.2 hc
    refine mV_iconst (n := 0) (v := nI 0) (by decide +kernel) (by decide) ?_
    refine mV_goto (off := 37) (tgt := 44) (by decide +kernel) (by decide) ?_
    refine mV_istore (i := 4) (ls' := [some (.ref 226), some (.int a1), some (.int a2), some (.int a3), some (.int (nI 0)), none]) (by decide +kernel) (Nat.le_of_ble_eq_true rfl) rfl rfl ?_
    exact h
set_option maxRecDepth 100000 in
set_option maxHeartbeats 4000000 in
theorem p_X13_sign_46 {l : Launch} {κ : mm_K} {d : Nat} {G : mm_G} {K : Int32 → mm_G → Prop} (v1 : Int32) (v2 : Int32) (v3 : Int32) (v4 : Int32) (h : ((v4 ≤ 0 → ((¬ v2 = (nI 59) → ((¬ v2 = (nI 58) → ((¬ v2 = (nI 123) → ((¬ v2 = (nI 125) → ((¬ v2 = (nI 45) → ((¬ v2 = (nI 60) → mV l κ true (d + 1) 0 0 m_X13_sign 134 [some (.ref 226), some (.int v1), some (.int v2), some (.int v3), some (.int v4), some (.int (nI 3))] [] G (rI K)) ∧ (v2 = (nI 60) → mV l κ true (d + 1) 0 0 m_X13_sign 134 [some (.ref 226), some (.int v1), some (.int v2), some (.int v3), some (.int v4), some (.int (nI 11))] [] G (rI K)))) ∧ (v2 = (nI 45) → mV l κ true (d + 1) 0 0 m_X13_sign 134 [some (.ref 226), some (.int v1), some (.int v2), some (.int v3), some (.int v4), some (.int (nI 5))] [] G (rI K)))) ∧ (v2 = (nI 125) → mV l κ true (d + 1) 0 0 m_X13_sign 134 [some (.ref 226), some (.int v1), some (.int v2), some (.int v3), some (.int v4), some (.int (nI 8))] [] G (rI K)))) ∧ (v2 = (nI 123) → mV l κ true (d + 1) 0 0 m_X13_sign 134 [some (.ref 226), some (.int v1), some (.int v2), some (.int v3), some (.int v4), some (.int (nI 7))] [] G (rI K)))) ∧ (v2 = (nI 58) → mV l κ true (d + 1) 0 0 m_X13_sign 134 [some (.ref 226), some (.int v1), some (.int v2), some (.int v3), some (.int v4), some (.int (nI 6))] [] G (rI K)))) ∧ (v2 = (nI 59) → mV l κ true (d + 1) 0 0 m_X13_sign 134 [some (.ref 226), some (.int v1), some (.int v2), some (.int v3), some (.int v4), some (.int (nI 4))] [] G (rI K)))) ∧ (¬ v4 ≤ 0 → mV l κ true (d + 1) 0 0 m_X13_sign 134 [some (.ref 226), some (.int v1), some (.int v2), some (.int v3), some (.int v4), some (.int v4)] [] G (rI K)))) : mV l κ true (d + 1) 0 0 m_X13_sign 46 [some (.ref 226), some (.int v1), some (.int v2), some (.int v3), some (.int v4), none] [] G (rI K) := by
  refine mV_iconst (n := 3) (v := nI 3) (by decide +kernel) (by decide) ?_
  refine mV_istore (i := 5) (ls' := [some (.ref 226), some (.int v1), some (.int v2), some (.int v3), some (.int v4), some (.int (nI 3))]) (by decide +kernel) (Nat.le_of_ble_eq_true rfl) rfl rfl ?_
  refine mV_iload (i := 4) (by decide +kernel) rfl ?_
  refine mV_if_le (off := 10) (tgt := 61) (by decide +kernel) (by decide) (fun hc => ?_) (fun hc => ?_)
  · replace h := h.1 hc
    refine mV_iload_n (k := 2) (by decide +kernel) rfl ?_
    refine mV_bipush (n := 59) (v := nI 59) (by decide +kernel) (by decide) ?_
    refine mV_icmp_ne (off := 9) (tgt := 73) (by decide +kernel) (by decide) (fun hc => ?_) (fun hc => ?_)
    · replace h := h.1 hc
      refine mV_iload_n (k := 2) (by decide +kernel) rfl ?_
      refine mV_bipush (n := 58) (v := nI 58) (by decide +kernel) (by decide) ?_
      refine mV_icmp_ne (off := 10) (tgt := 86) (by decide +kernel) (by decide) (fun hc => ?_) (fun hc => ?_)
      · replace h := h.1 hc
        refine mV_iload_n (k := 2) (by decide +kernel) rfl ?_
        refine mV_bipush (n := 123) (v := nI 123) (by decide +kernel) (by decide) ?_
        refine mV_icmp_ne (off := 10) (tgt := 99) (by decide +kernel) (by decide) (fun hc => ?_) (fun hc => ?_)
        · replace h := h.1 hc
          refine mV_iload_n (k := 2) (by decide +kernel) rfl ?_
          refine mV_bipush (n := 125) (v := nI 125) (by decide +kernel) (by decide) ?_
          refine mV_icmp_ne (off := 10) (tgt := 112) (by decide +kernel) (by decide) (fun hc => ?_) (fun hc => ?_)
          · replace h := h.1 hc
            refine mV_iload_n (k := 2) (by decide +kernel) rfl ?_
            refine mV_bipush (n := 45) (v := nI 45) (by decide +kernel) (by decide) ?_
            refine mV_icmp_ne (off := 9) (tgt := 124) (by decide +kernel) (by decide) (fun hc => ?_) (fun hc => ?_)
            · replace h := h.1 hc
              refine mV_iload_n (k := 2) (by decide +kernel) rfl ?_
              refine mV_bipush (n := 60) (v := nI 60) (by decide +kernel) (by decide) ?_
              refine mV_icmp_ne (off := 7) (tgt := 134) (by decide +kernel) (by decide) (fun hc => ?_) (fun hc => ?_)
              · replace h := h.1 hc
                exact h
              · replace h := h.2 hc
                refine mV_bipush (n := 11) (v := nI 11) (by decide +kernel) (by decide) ?_
                refine mV_istore (i := 5) (ls' := [some (.ref 226), some (.int v1), some (.int v2), some (.int v3), some (.int v4), some (.int (nI 11))]) (by decide +kernel) (Nat.le_of_ble_eq_true rfl) rfl rfl ?_
                exact h
            · replace h := h.2 hc
              refine mV_iconst (n := 5) (v := nI 5) (by decide +kernel) (by decide) ?_
              refine mV_istore (i := 5) (ls' := [some (.ref 226), some (.int v1), some (.int v2), some (.int v3), some (.int v4), some (.int (nI 5))]) (by decide +kernel) (Nat.le_of_ble_eq_true rfl) rfl rfl ?_
              refine mV_goto (off := 13) (tgt := 134) (by decide +kernel) (by decide) ?_
              exact h
          · replace h := h.2 hc
            refine mV_bipush (n := 8) (v := nI 8) (by decide +kernel) (by decide) ?_
            refine mV_istore (i := 5) (ls' := [some (.ref 226), some (.int v1), some (.int v2), some (.int v3), some (.int v4), some (.int (nI 8))]) (by decide +kernel) (Nat.le_of_ble_eq_true rfl) rfl rfl ?_
            refine mV_goto (off := 25) (tgt := 134) (by decide +kernel) (by decide) ?_
            exact h
        · replace h := h.2 hc
          refine mV_bipush (n := 7) (v := nI 7) (by decide +kernel) (by decide) ?_
          refine mV_istore (i := 5) (ls' := [some (.ref 226), some (.int v1), some (.int v2), some (.int v3), some (.int v4), some (.int (nI 7))]) (by decide +kernel) (Nat.le_of_ble_eq_true rfl) rfl rfl ?_
          refine mV_goto (off := 38) (tgt := 134) (by decide +kernel) (by decide) ?_
          exact h
      · replace h := h.2 hc
        refine mV_bipush (n := 6) (v := nI 6) (by decide +kernel) (by decide) ?_
        refine mV_istore (i := 5) (ls' := [some (.ref 226), some (.int v1), some (.int v2), some (.int v3), some (.int v4), some (.int (nI 6))]) (by decide +kernel) (Nat.le_of_ble_eq_true rfl) rfl rfl ?_
        refine mV_goto (off := 51) (tgt := 134) (by decide +kernel) (by decide) ?_
        exact h
    · replace h := h.2 hc
      refine mV_iconst (n := 4) (v := nI 4) (by decide +kernel) (by decide) ?_
      refine mV_istore (i := 5) (ls' := [some (.ref 226), some (.int v1), some (.int v2), some (.int v3), some (.int v4), some (.int (nI 4))]) (by decide +kernel) (Nat.le_of_ble_eq_true rfl) rfl rfl ?_
      refine mV_goto (off := 64) (tgt := 134) (by decide +kernel) (by decide) ?_
      exact h
  · replace h := h.2 hc
    refine mV_iload (i := 4) (by decide +kernel) rfl ?_
    refine mV_istore (i := 5) (ls' := [some (.ref 226), some (.int v1), some (.int v2), some (.int v3), some (.int v4), some (.int v4)]) (by decide +kernel) (Nat.le_of_ble_eq_true rfl) rfl rfl ?_
    refine mV_goto (off := 76) (tgt := 134) (by decide +kernel) (by decide) ?_
    exact h
set_option maxRecDepth 100000 in
set_option maxHeartbeats 4000000 in
theorem p_X13_sign_134 {l : Launch} {κ : mm_K} {d : Nat} {G : mm_G} {K : Int32 → mm_G → Prop} (v1 : Int32) (v2 : Int32) (v3 : Int32) (v4 : Int32) (v5 : Int32) (h : mC l κ true d 0 0 m_X13_token [.ref 226, .int v5, .int v1, .int (nI 0), .long (lN 0)] G (rV (fun G2 => ((v4 ≤ 0 → K (nI 1) G2) ∧ (¬ v4 ≤ 0 → K (nI 2) G2))))) : mV l κ true (d + 1) 0 0 m_X13_sign 134 [some (.ref 226), some (.int v1), some (.int v2), some (.int v3), some (.int v4), some (.int v5)] [] G (rI K) := by
  refine mV_aload_n (k := 0) (by decide +kernel) rfl ?_
  refine mV_iload (i := 5) (by decide +kernel) rfl ?_
  refine mV_iload_n (k := 1) (by decide +kernel) rfl ?_
  refine mV_iconst (n := 0) (v := nI 0) (by decide +kernel) (by decide) ?_
  refine mV_lconst (n := 0) (v := lN 0) (by decide +kernel) (by decide) ?_
  refine mV_cV (as := [.int v5, .int v1, .int (nI 0), .long (lN 0)]) (rest := []) (mc1 := 0) (ms1 := 0) (mc := 0) (ms := 0) (by decide +kernel) md_X13_token lk_13_221 sh_226 rfl rfl rfl (Nat.le_of_ble_eq_true rfl) (mC.mono (mm_contV (fun G2 hK => ?_)) h)
  replace h := hK
  refine mV_iload (i := 4) (by decide +kernel) rfl ?_
  refine mV_if_le (off := 7) (tgt := 152) (by decide +kernel) (by decide) (fun hc => ?_) (fun hc => ?_)
  · replace h := h.1 hc
    refine mV_iconst (n := 1) (v := nI 1) (by decide +kernel) (by decide) ?_
    exact mV_iret (by decide +kernel) rfl h
  · replace h := h.2 hc
    refine mV_iconst (n := 2) (v := nI 2) (by decide +kernel) (by decide) ?_
    refine mV_goto (off := 4) (tgt := 153) (by decide +kernel) (by decide) ?_
    exact mV_iret (by decide +kernel) rfl h
set_option maxRecDepth 100000 in
set_option maxHeartbeats 4000000 in
theorem e_X13_is {l : Launch} {κ : mm_K} {d : Nat} {G : mm_G} {K : Int32 → mm_G → Prop} (a1 : Int32) (h : ((¬ (mg_i G 226 13) = 0 → K (nI 0) G) ∧ ((mg_i G 226 13) = 0 → vp_in (mg_i G 226 11) 403 ∧ ((¬ (mg_i G 229 ((mg_i G 226 11).toNatClampNeg)) = a1 → K (nI 0) G) ∧ ((mg_i G 229 ((mg_i G 226 11).toNatClampNeg)) = a1 → K (nI 1) G))))) : mC l κ true d 0 0 m_X13_is [.ref 226, .int a1] G (rI K) := by
  refine mC.of (by decide) (Nat.le_of_ble_eq_true rfl) [some (.ref 226), some (.int a1)] rfl ?_
  refine mV_aload_n (k := 0) (by decide +kernel) rfl ?_
  refine mV_gfix (x := mg_i G 226 13) (by decide +kernel) fk_13_236 sh_226 rfl ?_
  refine mV_if_ne (off := 20) (tgt := 24) (by decide +kernel) (by decide) (fun hc => ?_) (fun hc => ?_)
  · replace h := h.1 hc
    refine mV_iconst (n := 0) (v := nI 0) (by decide +kernel) (by decide) ?_
    exact mV_zret (by decide +kernel) rfl (by decide) h
  · replace h := h.2 hc
    refine mV_aload_n (k := 0) (by decide +kernel) rfl ?_
    refine mV_gfr (r := some 229) (by decide +kernel) fk_13_20 sh_226 (mm_rrs st_226_5) rfl ?_
    refine mV_aload_n (k := 0) (by decide +kernel) rfl ?_
    refine mV_gfix (x := mg_i G 226 11) (by decide +kernel) fk_13_239 sh_226 rfl ?_
    refine mV_ialx (x := mg_i G 229 ((mg_i G 226 11).toNatClampNeg)) (by decide +kernel) sh_229 h.1 rfl ?_
    replace h := h.2
    refine mV_iload_n (k := 1) (by decide +kernel) rfl ?_
    refine mV_icmp_ne (off := 7) (tgt := 24) (by decide +kernel) (by decide) (fun hc => ?_) (fun hc => ?_)
    · replace h := h.1 hc
      refine mV_iconst (n := 0) (v := nI 0) (by decide +kernel) (by decide) ?_
      exact mV_zret (by decide +kernel) rfl (by decide) h
    · replace h := h.2 hc
      refine mV_iconst (n := 1) (v := nI 1) (by decide +kernel) (by decide) ?_
      refine mV_goto (off := 4) (tgt := 25) (by decide +kernel) (by decide) ?_
      exact mV_zret (by decide +kernel) rfl (by decide) h
set_option maxRecDepth 100000 in
set_option maxHeartbeats 4000000 in
theorem e_X13_fail {l : Launch} {κ : mm_K} {d : Nat} {G : mm_G} {K : mm_G → Prop} (a1 : Int32) (h : (((mg_i G 226 13) ≤ 0 → vp_in (mg_i G 226 11) 403 ∧ K (ms_i (ms_i G 226 13 a1) 226 14 (mg_i G 230 ((mg_i G 226 11).toNatClampNeg)))) ∧ (¬ (mg_i G 226 13) ≤ 0 → K G))) : mC l κ true d 0 0 m_X13_fail [.ref 226, .int a1] G (rV K) := by
  refine mC.of (by decide) (Nat.le_of_ble_eq_true rfl) [some (.ref 226), some (.int a1)] rfl ?_
  refine mV_aload_n (k := 0) (by decide +kernel) rfl ?_
  refine mV_gfix (x := mg_i G 226 13) (by decide +kernel) fk_13_236 sh_226 rfl ?_
  refine mV_if_le (off := 4) (tgt := 8) (by decide +kernel) (by decide) (fun hc => ?_) (fun hc => ?_)
  · replace h := h.1 hc
    refine mV_aload_n (k := 0) (by decide +kernel) rfl ?_
    refine mV_iload_n (k := 1) (by decide +kernel) rfl ?_
    refine mV_pfi (by decide +kernel) fk_13_236 sh_226 ?_
    refine mV_aload_n (k := 0) (by decide +kernel) rfl ?_
    refine mV_aload_n (k := 0) (by decide +kernel) rfl ?_
    refine mV_gfr (r := some 230) (by decide +kernel) fk_13_24 sh_226 (mm_rrs st_226_6) rfl ?_
    refine mV_aload_n (k := 0) (by decide +kernel) rfl ?_
    refine mV_gfix (x := mg_i G 226 11) (by decide +kernel) fk_13_239 sh_226 rfl ?_
    refine mV_ialx (x := mg_i G 230 ((mg_i G 226 11).toNatClampNeg)) (by decide +kernel) sh_230 h.1 rfl ?_
    replace h := h.2
    refine mV_pfi (by decide +kernel) fk_13_242 sh_226 ?_
    exact mV_vret (by decide +kernel) rfl h
  · replace h := h.2 hc
    exact mV_vret (by decide +kernel) rfl h
set_option maxRecDepth 100000 in
set_option maxHeartbeats 4000000 in
theorem e_X13_wrong {l : Launch} {κ : mm_K} {d : Nat} {G : mm_G} {K : mm_G → Prop} (a1 : Int32) (a2 : Int32) (h : vp_in a2 403 ∧ ((0 < (mg_i G 226 13) → K G) ∧ (¬ 0 < (mg_i G 226 13) → (((mg_i G 226 15) = 0 → K (ms_i (ms_i G 226 15 a1) 226 16 (mg_i G 230 a2.toNatClampNeg))) ∧ (¬ (mg_i G 226 15) = 0 → (((mg_i G 226 16) < (mg_i G 230 a2.toNatClampNeg) → K G) ∧ (¬ (mg_i G 226 16) < (mg_i G 230 a2.toNatClampNeg) → ((¬ (mg_i G 230 a2.toNatClampNeg) = (mg_i G 226 16) → K (ms_i (ms_i G 226 15 a1) 226 16 (mg_i G 230 a2.toNatClampNeg))) ∧ ((mg_i G 230 a2.toNatClampNeg) = (mg_i G 226 16) → ((a1 < (mg_i G 226 15) → K (ms_i (ms_i G 226 15 a1) 226 16 (mg_i G 230 a2.toNatClampNeg))) ∧ (¬ a1 < (mg_i G 226 15) → K G))))))))))) : mC l κ true d 0 0 m_X13_wrong [.ref 226, .int a1, .int a2] G (rV K) := by
  refine mC.of (by decide) (Nat.le_of_ble_eq_true rfl) [some (.ref 226), some (.int a1), some (.int a2), none] rfl ?_
  refine mV_aload_n (k := 0) (by decide +kernel) rfl ?_
  refine mV_gfr (r := some 230) (by decide +kernel) fk_13_24 sh_226 (mm_rrs st_226_6) rfl ?_
  refine mV_iload_n (k := 2) (by decide +kernel) rfl ?_
  refine mV_ialx (x := mg_i G 230 a2.toNatClampNeg) (by decide +kernel) sh_230 h.1 rfl ?_
  replace h := h.2
  refine mV_istore_n (k := 3) (ls' := [some (.ref 226), some (.int a1), some (.int a2), some (.int (mg_i G 230 a2.toNatClampNeg))]) (by decide +kernel) (Nat.le_of_ble_eq_true rfl) rfl rfl ?_
  refine mV_aload_n (k := 0) (by decide +kernel) rfl ?_
  refine mV_gfix (x := mg_i G 226 13) (by decide +kernel) fk_13_236 sh_226 rfl ?_
  refine mV_if_gt (off := 34) (tgt := 45) (by decide +kernel) (by decide) (fun hc => ?_) (fun hc => ?_)
  · replace h := h.1 hc
    exact mV_vret (by decide +kernel) rfl h
  · replace h := h.2 hc
    refine mV_aload_n (k := 0) (by decide +kernel) rfl ?_
    refine mV_gfix (x := mg_i G 226 15) (by decide +kernel) fk_13_245 sh_226 rfl ?_
    refine mV_if_eq (off := 28) (tgt := 46) (by decide +kernel) (by decide) (fun hc => ?_) (fun hc => ?_)
    · replace h := h.1 hc
      refine mV_aload_n (k := 0) (by decide +kernel) rfl ?_
      refine mV_iload_n (k := 1) (by decide +kernel) rfl ?_
      refine mV_pfi (by decide +kernel) fk_13_245 sh_226 ?_
      refine mV_aload_n (k := 0) (by decide +kernel) rfl ?_
      refine mV_iload_n (k := 3) (by decide +kernel) rfl ?_
      refine mV_pfi (by decide +kernel) fk_13_248 sh_226 ?_
      exact mV_vret (by decide +kernel) rfl h
    · replace h := h.2 hc
      refine mV_iload_n (k := 3) (by decide +kernel) rfl ?_
      refine mV_aload_n (k := 0) (by decide +kernel) rfl ?_
      refine mV_gfix (x := mg_i G 226 16) (by decide +kernel) fk_13_248 sh_226 rfl ?_
      refine mV_icmp_gt (off := 19) (tgt := 45) (by decide +kernel) (by decide) (fun hc => ?_) (fun hc => ?_)
      · replace h := h.1 hc
        exact mV_vret (by decide +kernel) rfl h
      · replace h := h.2 hc
        refine mV_iload_n (k := 3) (by decide +kernel) rfl ?_
        refine mV_aload_n (k := 0) (by decide +kernel) rfl ?_
        refine mV_gfix (x := mg_i G 226 16) (by decide +kernel) fk_13_248 sh_226 rfl ?_
        refine mV_icmp_ne (off := 12) (tgt := 46) (by decide +kernel) (by decide) (fun hc => ?_) (fun hc => ?_)
        · replace h := h.1 hc
          refine mV_aload_n (k := 0) (by decide +kernel) rfl ?_
          refine mV_iload_n (k := 1) (by decide +kernel) rfl ?_
          refine mV_pfi (by decide +kernel) fk_13_245 sh_226 ?_
          refine mV_aload_n (k := 0) (by decide +kernel) rfl ?_
          refine mV_iload_n (k := 3) (by decide +kernel) rfl ?_
          refine mV_pfi (by decide +kernel) fk_13_248 sh_226 ?_
          exact mV_vret (by decide +kernel) rfl h
        · replace h := h.2 hc
          refine mV_iload_n (k := 1) (by decide +kernel) rfl ?_
          refine mV_aload_n (k := 0) (by decide +kernel) rfl ?_
          refine mV_gfix (x := mg_i G 226 15) (by decide +kernel) fk_13_245 sh_226 rfl ?_
          refine mV_icmp_lt (off := 4) (tgt := 46) (by decide +kernel) (by decide) (fun hc => ?_) (fun hc => ?_)
          · replace h := h.1 hc
            refine mV_aload_n (k := 0) (by decide +kernel) rfl ?_
            refine mV_iload_n (k := 1) (by decide +kernel) rfl ?_
            refine mV_pfi (by decide +kernel) fk_13_245 sh_226 ?_
            refine mV_aload_n (k := 0) (by decide +kernel) rfl ?_
            refine mV_iload_n (k := 3) (by decide +kernel) rfl ?_
            refine mV_pfi (by decide +kernel) fk_13_248 sh_226 ?_
            exact mV_vret (by decide +kernel) rfl h
          · replace h := h.2 hc
            exact mV_vret (by decide +kernel) rfl h
set_option maxRecDepth 100000 in
set_option maxHeartbeats 4000000 in
theorem e_X13_goesOn {l : Launch} {κ : mm_K} {d : Nat} {G : mm_G} {K : mm_G → Prop}  (h : ((¬ (mg_i G 226 11) = (nI 400) → K (ms_i G 226 11 ((mg_i G 226 11) + (nI 1)))) ∧ ((mg_i G 226 11) = (nI 400) → mC l κ true d 0 0 m_X13_fail [.ref 226, .int (nI 2)] G (rV (fun G2 => K G2))))) : mC l κ true (d + 1) 0 0 m_X13_goesOn [.ref 226] G (rV K) := by
  refine mC.of (by decide) (Nat.le_of_ble_eq_true rfl) [some (.ref 226)] rfl ?_
  refine mV_aload_n (k := 0) (by decide +kernel) rfl ?_
  refine mV_gfix (x := mg_i G 226 11) (by decide +kernel) fk_13_239 sh_226 rfl ?_
  refine mV_sipush (n := 400) (v := nI 400) (by decide +kernel) (by decide) ?_
  refine mV_icmp_ne (off := 11) (tgt := 18) (by decide +kernel) (by decide) (fun hc => ?_) (fun hc => ?_)
  · replace h := h.1 hc
    refine mV_aload_n (k := 0) (by decide +kernel) rfl ?_
    refine mV_dup (by decide +kernel) rfl ?_
    refine mV_gfix (x := mg_i G 226 11) (by decide +kernel) fk_13_239 sh_226 rfl ?_
    refine mV_iconst (n := 1) (v := nI 1) (by decide +kernel) (by decide) ?_
    refine mV_iadd (by decide +kernel) ?_
    refine mV_pfi (by decide +kernel) fk_13_239 sh_226 ?_
    exact mV_vret (by decide +kernel) rfl h
  · replace h := h.2 hc
    refine mV_aload_n (k := 0) (by decide +kernel) rfl ?_
    refine mV_iconst (n := 2) (v := nI 2) (by decide +kernel) (by decide) ?_
    refine mV_cV (as := [.int (nI 2)]) (rest := []) (mc1 := 0) (ms1 := 0) (mc := 0) (ms := 0) (by decide +kernel) md_X13_fail lk_13_251 sh_226 rfl rfl rfl (Nat.le_of_ble_eq_true rfl) (mC.mono (mm_contV (fun G2 hK => ?_)) h)
    replace h := hK
    refine mV_goto (off := 13) (tgt := 28) (by decide +kernel) (by decide) ?_
    exact mV_vret (by decide +kernel) rfl h
set_option maxRecDepth 100000 in
set_option maxHeartbeats 4000000 in
theorem e_X13_must {l : Launch} {κ : mm_K} {d : Nat} {G : mm_G} {K : mm_G → Prop} (a1 : Int32) (h : mC l κ true (d + 1) 0 0 m_X13_is [.ref 226, .int a1] G (rI (fun r1 G2 => ((r1 = 0 → mC l κ true (d + 1) 0 0 m_X13_fail [.ref 226, .int (nI 1)] G2 (rV (fun G4 => K G4))) ∧ (¬ r1 = 0 → mC l κ true (d + 1) 0 0 m_X13_goesOn [.ref 226] G2 (rV (fun G6 => K G6))))))) : mC l κ true (d + 2) 0 0 m_X13_must [.ref 226, .int a1] G (rV K) := by
  refine mC.of (by decide) (Nat.le_of_ble_eq_true rfl) [some (.ref 226), some (.int a1)] rfl ?_
  refine mV_aload_n (k := 0) (by decide +kernel) rfl ?_
  refine mV_iload_n (k := 1) (by decide +kernel) rfl ?_
  refine mV_cV (as := [.int a1]) (rest := []) (mc1 := 0) (ms1 := 0) (mc := 0) (ms := 0) (by decide +kernel) md_X13_is lk_13_254 sh_226 rfl rfl rfl (Nat.le_of_ble_eq_true rfl) (mC.mono (mm_contI (fun r1 G2 hK => ?_)) h)
  replace h := hK
  refine mV_if_eq (off := 10) (tgt := 15) (by decide +kernel) (by decide) (fun hc => ?_) (fun hc => ?_)
  · replace h := h.1 hc
    refine mV_aload_n (k := 0) (by decide +kernel) rfl ?_
    refine mV_iconst (n := 1) (v := nI 1) (by decide +kernel) (by decide) ?_
    refine mV_cV (as := [.int (nI 1)]) (rest := []) (mc1 := 0) (ms1 := 0) (mc := 0) (ms := 0) (by decide +kernel) md_X13_fail lk_13_251 sh_226 rfl rfl rfl (Nat.le_of_ble_eq_true rfl) (mC.mono (mm_contV (fun G4 hK => ?_)) h)
    replace h := hK
    exact mV_vret (by decide +kernel) rfl h
  · replace h := h.2 hc
    refine mV_aload_n (k := 0) (by decide +kernel) rfl ?_
    refine mV_cV (as := []) (rest := []) (mc1 := 0) (ms1 := 0) (mc := 0) (ms := 0) (by decide +kernel) md_X13_goesOn lk_13_257 sh_226 rfl rfl rfl (Nat.le_of_ble_eq_true rfl) (mC.mono (mm_contV (fun G6 hK => ?_)) h)
    replace h := hK
    refine mV_goto (off := 8) (tgt := 20) (by decide +kernel) (by decide) ?_
    exact mV_vret (by decide +kernel) rfl h
set_option maxRecDepth 100000 in
set_option maxHeartbeats 4000000 in
theorem e_X13_read {l : Launch} {κ : mm_K} {d : Nat} {G : mm_G} {K : Int32 → mm_G → Prop}  (h : mV l κ true (d + 9) 0 0 m_X13_read 10 [some (.ref 226), some (.int (nI 0))] [] (ms_i G 226 4 (mg_i G 226 2)) (rI K)) : mC l κ true (d + 9) 0 0 m_X13_read [.ref 226] G (rI K) := by
  refine mC.of (by decide) (Nat.le_of_ble_eq_true rfl) [some (.ref 226), none] rfl ?_
  refine mV_aload_n (k := 0) (by decide +kernel) rfl ?_
  refine mV_aload_n (k := 0) (by decide +kernel) rfl ?_
  refine mV_gfix (x := mg_i G 226 2) (by decide +kernel) fk_13_198 sh_226 rfl ?_
  refine mV_pfi (by decide +kernel) fk_13_205 sh_226 ?_
  refine mV_iconst (n := 0) (v := nI 0) (by decide +kernel) (by decide) ?_
  refine mV_istore_n (k := 1) (ls' := [some (.ref 226), some (.int (nI 0))]) (by decide +kernel) (Nat.le_of_ble_eq_true rfl) rfl rfl ?_
  exact h
set_option maxRecDepth 100000 in
set_option maxHeartbeats 4000000 in
theorem p_X13_read_10 {l : Launch} {κ : mm_K} {d : Nat} {G : mm_G} {K : Int32 → mm_G → Prop} (v1 : Int32) (h : (((mg_i G 226 4) ≤ v1 → mC l κ true (d + 8) 0 0 m_X13_cut [.ref 226] (ms_i G 226 2 (nI 0)) (rV (fun G2 => vp_in ((nI 1) - (mg_i G2 226 18)) 5 ∧ vp_in ((nI 1) - (mg_i G2 226 18)) 2 ∧ vp_in ((nI 1) - (mg_i G2 226 18)) 2 ∧ mV l κ true (d + 9) 0 0 m_X13_read 106 [some (.ref 226), some (.int v1)] [] (ms_i (ms_i (ms_i (ms_i (ms_i (ms_i (ms_i (ms_i G2 226 11 (nI 0)) 226 12 (nI 0)) 226 13 (nI 0)) 226 15 (nI 0)) 226 19 ((nI 1) - (mg_i G2 226 18))) 234 (((nI 1) - (mg_i G2 226 18)).toNatClampNeg) (nI 0)) 249 (((nI 1) - (mg_i G2 226 18)).toNatClampNeg) (nI 0)) 254 (((nI 1) - (mg_i G2 226 18)).toNatClampNeg) (nI 100)) (rI K)))) ∧ (¬ (mg_i G 226 4) ≤ v1 → vp_in v1 2000 ∧ vp_in v1 2000 ∧ mV l κ true (d + 9) 0 0 m_X13_read 10 [some (.ref 226), some (.int (v1 + (nI 1)))] [] (ms_i G 228 v1.toNatClampNeg (vp_nar .byte (mg_i G 227 v1.toNatClampNeg))) (rI K)))) : mV l κ true (d + 9) 0 0 m_X13_read 10 [some (.ref 226), some (.int v1)] [] G (rI K) := by
  refine mV_iload_n (k := 1) (by decide +kernel) rfl ?_
  refine mV_aload_n (k := 0) (by decide +kernel) rfl ?_
  refine mV_gfix (x := mg_i G 226 4) (by decide +kernel) fk_13_205 sh_226 rfl ?_
  refine mV_icmp_ge (off := 21) (tgt := 36) (by decide +kernel) (by decide) (fun hc => ?_) (fun hc => ?_)
  · replace h := h.1 hc
    refine mV_aload_n (k := 0) (by decide +kernel) rfl ?_
    refine mV_iconst (n := 0) (v := nI 0) (by decide +kernel) (by decide) ?_
    refine mV_pfi (by decide +kernel) fk_13_198 sh_226 ?_
    refine mV_aload_n (k := 0) (by decide +kernel) rfl ?_
    refine mV_cV (as := []) (rest := []) (mc1 := 0) (ms1 := 0) (mc := 0) (ms := 0) (by decide +kernel) md_X13_cut lk_13_260 sh_226 rfl rfl rfl (Nat.le_of_ble_eq_true rfl) (mC.mono (mm_contV (fun G2 hK => ?_)) h)
    replace h := hK
    refine mV_aload_n (k := 0) (by decide +kernel) rfl ?_
    refine mV_iconst (n := 0) (v := nI 0) (by decide +kernel) (by decide) ?_
    refine mV_pfi (by decide +kernel) fk_13_239 sh_226 ?_
    refine mV_aload_n (k := 0) (by decide +kernel) rfl ?_
    refine mV_iconst (n := 0) (v := nI 0) (by decide +kernel) (by decide) ?_
    refine mV_pfi (by decide +kernel) fk_13_263 sh_226 ?_
    refine mV_aload_n (k := 0) (by decide +kernel) rfl ?_
    refine mV_iconst (n := 0) (v := nI 0) (by decide +kernel) (by decide) ?_
    refine mV_pfi (by decide +kernel) fk_13_236 sh_226 ?_
    refine mV_aload_n (k := 0) (by decide +kernel) rfl ?_
    refine mV_iconst (n := 0) (v := nI 0) (by decide +kernel) (by decide) ?_
    refine mV_pfi (by decide +kernel) fk_13_245 sh_226 ?_
    refine mV_aload_n (k := 0) (by decide +kernel) rfl ?_
    refine mV_iconst (n := 1) (v := nI 1) (by decide +kernel) (by decide) ?_
    refine mV_aload_n (k := 0) (by decide +kernel) rfl ?_
    refine mV_gfix (x := mg_i G2 226 18) (by decide +kernel) fk_13_266 sh_226 rfl ?_
    refine mV_isub (by decide +kernel) ?_
    refine mV_pfi (by decide +kernel) fk_13_269 sh_226 ?_
    refine mV_aload_n (k := 0) (by decide +kernel) rfl ?_
    refine mV_gfr (r := some 234) (by decide +kernel) fk_13_40 sh_226 (mm_rrs st_226_20) rfl ?_
    refine mV_aload_n (k := 0) (by decide +kernel) rfl ?_
    refine mV_gfix (x := (nI 1) - (mg_i G2 226 18)) (by decide +kernel) fk_13_269 sh_226 rfl ?_
    refine mV_iconst (n := 0) (v := nI 0) (by decide +kernel) (by decide) ?_
    refine mV_ias (by decide +kernel) sh_234 h.1 ?_
    replace h := h.2
    refine mV_aload_n (k := 0) (by decide +kernel) rfl ?_
    refine mV_gfr (r := some 249) (by decide +kernel) fk_13_85 sh_226 (mm_rrs st_226_35) rfl ?_
    refine mV_aload_n (k := 0) (by decide +kernel) rfl ?_
    refine mV_gfix (x := (nI 1) - (mg_i G2 226 18)) (by decide +kernel) fk_13_269 sh_226 rfl ?_
    refine mV_iconst (n := 0) (v := nI 0) (by decide +kernel) (by decide) ?_
    refine mV_ias (by decide +kernel) sh_249 h.1 ?_
    replace h := h.2
    refine mV_aload_n (k := 0) (by decide +kernel) rfl ?_
    refine mV_gfr (r := some 254) (by decide +kernel) fk_13_100 sh_226 (mm_rrs st_226_40) rfl ?_
    refine mV_aload_n (k := 0) (by decide +kernel) rfl ?_
    refine mV_gfix (x := (nI 1) - (mg_i G2 226 18)) (by decide +kernel) fk_13_269 sh_226 rfl ?_
    refine mV_bipush (n := 100) (v := nI 100) (by decide +kernel) (by decide) ?_
    refine mV_ias (by decide +kernel) sh_254 h.1 ?_
    replace h := h.2
    exact h
  · replace h := h.2 hc
    refine mV_aload_n (k := 0) (by decide +kernel) rfl ?_
    refine mV_gfr (r := some 228) (by decide +kernel) fk_13_17 sh_226 (mm_rrs st_226_3) rfl ?_
    refine mV_iload_n (k := 1) (by decide +kernel) rfl ?_
    refine mV_aload_n (k := 0) (by decide +kernel) rfl ?_
    refine mV_gfr (r := some 227) (by decide +kernel) fk_13_13 sh_226 (mm_rrs st_226_1) rfl ?_
    refine mV_iload_n (k := 1) (by decide +kernel) rfl ?_
    refine mV_balx (x := mg_i G 227 v1.toNatClampNeg) (by decide +kernel) sh_227 h.1 rfl ?_
    replace h := h.2
    refine mV_bas (by decide +kernel) sh_228 h.1 ?_
    replace h := h.2
    refine mV_iincc (i := 1) (n := 1) (c := nI 1) (ls' := [some (.ref 226), some (.int (v1 + (nI 1)))]) (by decide +kernel) (by decide) rfl (Nat.le_of_ble_eq_true rfl) rfl rfl ?_
    refine mV_goto (off := -23) (tgt := 10) (by decide +kernel) (by decide) ?_
    exact h
set_option maxRecDepth 100000 in
set_option maxHeartbeats 4000000 in
theorem p_X13_read_106 {l : Launch} {κ : mm_K} {d : Nat} {G : mm_G} {K : Int32 → mm_G → Prop} (v1 : Int32) (h : ((¬ (mg_i G 226 13) = 0 → (((mg_i G 226 13) ≤ 0 → (((mg_i G 226 15) ≤ 0 → (((mg_i G 226 13) ≤ 0 → (((mg_i G 226 15) ≤ 0 → mV l κ true (d + 9) 0 0 m_X13_read 200 [some (.ref 226), some (.int (nI 0))] [] (ms_i (ms_i (ms_i G 226 17 (-1)) 226 18 (mg_i G 226 19)) 226 65 (nI 0)) (rI K)) ∧ (¬ (mg_i G 226 15) ≤ 0 → K (mg_i G 226 15) (ms_i G 226 17 (-1))))) ∧ (¬ (mg_i G 226 13) ≤ 0 → K (mg_i G 226 13) (ms_i G 226 17 (-1))))) ∧ (¬ (mg_i G 226 15) ≤ 0 → (((mg_i G 226 13) ≤ 0 → (((mg_i G 226 15) ≤ 0 → mV l κ true (d + 9) 0 0 m_X13_read 200 [some (.ref 226), some (.int (nI 0))] [] (ms_i (ms_i (ms_i G 226 17 (mg_i G 226 16)) 226 18 (mg_i G 226 19)) 226 65 (nI 0)) (rI K)) ∧ (¬ (mg_i G 226 15) ≤ 0 → K (mg_i G 226 15) (ms_i G 226 17 (mg_i G 226 16))))) ∧ (¬ (mg_i G 226 13) ≤ 0 → K (mg_i G 226 13) (ms_i G 226 17 (mg_i G 226 16))))))) ∧ (¬ (mg_i G 226 13) ≤ 0 → (((mg_i G 226 13) ≤ 0 → (((mg_i G 226 15) ≤ 0 → mV l κ true (d + 9) 0 0 m_X13_read 200 [some (.ref 226), some (.int (nI 0))] [] (ms_i (ms_i (ms_i G 226 17 (mg_i G 226 14)) 226 18 (mg_i G 226 19)) 226 65 (nI 0)) (rI K)) ∧ (¬ (mg_i G 226 15) ≤ 0 → K (mg_i G 226 15) (ms_i G 226 17 (mg_i G 226 14))))) ∧ (¬ (mg_i G 226 13) ≤ 0 → K (mg_i G 226 13) (ms_i G 226 17 (mg_i G 226 14))))))) ∧ ((mg_i G 226 13) = 0 → mC l κ true (d + 8) 0 0 m_X13_is [.ref 226, .int (nI 0)] G (rI (fun r1 G2 => ((¬ r1 = 0 → (((mg_i G2 226 13) ≤ 0 → (((mg_i G2 226 15) ≤ 0 → (((mg_i G2 226 13) ≤ 0 → (((mg_i G2 226 15) ≤ 0 → mV l κ true (d + 9) 0 0 m_X13_read 200 [some (.ref 226), some (.int (nI 0))] [] (ms_i (ms_i (ms_i G2 226 17 (-1)) 226 18 (mg_i G2 226 19)) 226 65 (nI 0)) (rI K)) ∧ (¬ (mg_i G2 226 15) ≤ 0 → K (mg_i G2 226 15) (ms_i G2 226 17 (-1))))) ∧ (¬ (mg_i G2 226 13) ≤ 0 → K (mg_i G2 226 13) (ms_i G2 226 17 (-1))))) ∧ (¬ (mg_i G2 226 15) ≤ 0 → (((mg_i G2 226 13) ≤ 0 → (((mg_i G2 226 15) ≤ 0 → mV l κ true (d + 9) 0 0 m_X13_read 200 [some (.ref 226), some (.int (nI 0))] [] (ms_i (ms_i (ms_i G2 226 17 (mg_i G2 226 16)) 226 18 (mg_i G2 226 19)) 226 65 (nI 0)) (rI K)) ∧ (¬ (mg_i G2 226 15) ≤ 0 → K (mg_i G2 226 15) (ms_i G2 226 17 (mg_i G2 226 16))))) ∧ (¬ (mg_i G2 226 13) ≤ 0 → K (mg_i G2 226 13) (ms_i G2 226 17 (mg_i G2 226 16))))))) ∧ (¬ (mg_i G2 226 13) ≤ 0 → (((mg_i G2 226 13) ≤ 0 → (((mg_i G2 226 15) ≤ 0 → mV l κ true (d + 9) 0 0 m_X13_read 200 [some (.ref 226), some (.int (nI 0))] [] (ms_i (ms_i (ms_i G2 226 17 (mg_i G2 226 14)) 226 18 (mg_i G2 226 19)) 226 65 (nI 0)) (rI K)) ∧ (¬ (mg_i G2 226 15) ≤ 0 → K (mg_i G2 226 15) (ms_i G2 226 17 (mg_i G2 226 14))))) ∧ (¬ (mg_i G2 226 13) ≤ 0 → K (mg_i G2 226 13) (ms_i G2 226 17 (mg_i G2 226 14))))))) ∧ (r1 = 0 → mC l κ true (d + 8) 0 0 m_X13_tell [.ref 226] G2 (rV (fun G4 => mV l κ true (d + 9) 0 0 m_X13_read 106 [some (.ref 226), some (.int v1)] [] G4 (rI K)))))))))) : mV l κ true (d + 9) 0 0 m_X13_read 106 [some (.ref 226), some (.int v1)] [] G (rI K) := by
  refine mV_aload_n (k := 0) (by decide +kernel) rfl ?_
  refine mV_gfix (x := mg_i G 226 13) (by decide +kernel) fk_13_236 sh_226 rfl ?_
  refine mV_if_ne (off := 18) (tgt := 128) (by decide +kernel) (by decide) (fun hc => ?_) (fun hc => ?_)
  · replace h := h.1 hc
    refine mV_aload_n (k := 0) (by decide +kernel) rfl ?_
    refine mV_aload_n (k := 0) (by decide +kernel) rfl ?_
    refine mV_gfix (x := mg_i G 226 13) (by decide +kernel) fk_13_236 sh_226 rfl ?_
    refine mV_if_le (off := 10) (tgt := 143) (by decide +kernel) (by decide) (fun hc => ?_) (fun hc => ?_)
    · replace h := h.1 hc
      refine mV_aload_n (k := 0) (by decide +kernel) rfl ?_
      refine mV_gfix (x := mg_i G 226 15) (by decide +kernel) fk_13_245 sh_226 rfl ?_
      refine mV_if_le (off := 10) (tgt := 157) (by decide +kernel) (by decide) (fun hc => ?_) (fun hc => ?_)
      · replace h := h.1 hc
        refine mV_iconst (n := -1) (v := (-1)) (by decide +kernel) (by decide) ?_
        refine mV_pfi (by decide +kernel) fk_13_37 sh_226 ?_
        refine mV_aload_n (k := 0) (by decide +kernel) rfl ?_
        refine mV_gfix (x := mg_i G 226 13) (by decide +kernel) fk_13_236 sh_226 rfl ?_
        refine mV_if_le (off := 8) (tgt := 173) (by decide +kernel) (by decide) (fun hc => ?_) (fun hc => ?_)
        · replace h := h.1 hc
          refine mV_aload_n (k := 0) (by decide +kernel) rfl ?_
          refine mV_gfix (x := mg_i G 226 15) (by decide +kernel) fk_13_245 sh_226 rfl ?_
          refine mV_if_le (off := 8) (tgt := 185) (by decide +kernel) (by decide) (fun hc => ?_) (fun hc => ?_)
          · replace h := h.1 hc
            refine mV_aload_n (k := 0) (by decide +kernel) rfl ?_
            refine mV_aload_n (k := 0) (by decide +kernel) rfl ?_
            refine mV_gfix (x := mg_i G 226 19) (by decide +kernel) fk_13_269 sh_226 rfl ?_
            refine mV_pfi (by decide +kernel) fk_13_266 sh_226 ?_
            refine mV_aload_n (k := 0) (by decide +kernel) rfl ?_
            refine mV_iconst (n := 0) (v := nI 0) (by decide +kernel) (by decide) ?_
            refine mV_pfi (by decide +kernel) fk_13_275 sh_226 ?_
            refine mV_iconst (n := 0) (v := nI 0) (by decide +kernel) (by decide) ?_
            refine mV_istore_n (k := 1) (ls' := [some (.ref 226), some (.int (nI 0))]) (by decide +kernel) (Nat.le_of_ble_eq_true rfl) rfl rfl ?_
            exact h
          · replace h := h.2 hc
            refine mV_aload_n (k := 0) (by decide +kernel) rfl ?_
            refine mV_gfix (x := mg_i G 226 15) (by decide +kernel) fk_13_245 sh_226 rfl ?_
            exact mV_iret (by decide +kernel) rfl h
        · replace h := h.2 hc
          refine mV_aload_n (k := 0) (by decide +kernel) rfl ?_
          refine mV_gfix (x := mg_i G 226 13) (by decide +kernel) fk_13_236 sh_226 rfl ?_
          exact mV_iret (by decide +kernel) rfl h
      · replace h := h.2 hc
        refine mV_aload_n (k := 0) (by decide +kernel) rfl ?_
        refine mV_gfix (x := mg_i G 226 16) (by decide +kernel) fk_13_248 sh_226 rfl ?_
        refine mV_goto (off := 4) (tgt := 158) (by decide +kernel) (by decide) ?_
        refine mV_pfi (by decide +kernel) fk_13_37 sh_226 ?_
        refine mV_aload_n (k := 0) (by decide +kernel) rfl ?_
        refine mV_gfix (x := mg_i G 226 13) (by decide +kernel) fk_13_236 sh_226 rfl ?_
        refine mV_if_le (off := 8) (tgt := 173) (by decide +kernel) (by decide) (fun hc => ?_) (fun hc => ?_)
        · replace h := h.1 hc
          refine mV_aload_n (k := 0) (by decide +kernel) rfl ?_
          refine mV_gfix (x := mg_i G 226 15) (by decide +kernel) fk_13_245 sh_226 rfl ?_
          refine mV_if_le (off := 8) (tgt := 185) (by decide +kernel) (by decide) (fun hc => ?_) (fun hc => ?_)
          · replace h := h.1 hc
            refine mV_aload_n (k := 0) (by decide +kernel) rfl ?_
            refine mV_aload_n (k := 0) (by decide +kernel) rfl ?_
            refine mV_gfix (x := mg_i G 226 19) (by decide +kernel) fk_13_269 sh_226 rfl ?_
            refine mV_pfi (by decide +kernel) fk_13_266 sh_226 ?_
            refine mV_aload_n (k := 0) (by decide +kernel) rfl ?_
            refine mV_iconst (n := 0) (v := nI 0) (by decide +kernel) (by decide) ?_
            refine mV_pfi (by decide +kernel) fk_13_275 sh_226 ?_
            refine mV_iconst (n := 0) (v := nI 0) (by decide +kernel) (by decide) ?_
            refine mV_istore_n (k := 1) (ls' := [some (.ref 226), some (.int (nI 0))]) (by decide +kernel) (Nat.le_of_ble_eq_true rfl) rfl rfl ?_
            exact h
          · replace h := h.2 hc
            refine mV_aload_n (k := 0) (by decide +kernel) rfl ?_
            refine mV_gfix (x := mg_i G 226 15) (by decide +kernel) fk_13_245 sh_226 rfl ?_
            exact mV_iret (by decide +kernel) rfl h
        · replace h := h.2 hc
          refine mV_aload_n (k := 0) (by decide +kernel) rfl ?_
          refine mV_gfix (x := mg_i G 226 13) (by decide +kernel) fk_13_236 sh_226 rfl ?_
          exact mV_iret (by decide +kernel) rfl h
    · replace h := h.2 hc
      refine mV_aload_n (k := 0) (by decide +kernel) rfl ?_
      refine mV_gfix (x := mg_i G 226 14) (by decide +kernel) fk_13_242 sh_226 rfl ?_
      refine mV_goto (off := 18) (tgt := 158) (by decide +kernel) (by decide) ?_
      refine mV_pfi (by decide +kernel) fk_13_37 sh_226 ?_
      refine mV_aload_n (k := 0) (by decide +kernel) rfl ?_
      refine mV_gfix (x := mg_i G 226 13) (by decide +kernel) fk_13_236 sh_226 rfl ?_
      refine mV_if_le (off := 8) (tgt := 173) (by decide +kernel) (by decide) (fun hc => ?_) (fun hc => ?_)
      · replace h := h.1 hc
        refine mV_aload_n (k := 0) (by decide +kernel) rfl ?_
        refine mV_gfix (x := mg_i G 226 15) (by decide +kernel) fk_13_245 sh_226 rfl ?_
        refine mV_if_le (off := 8) (tgt := 185) (by decide +kernel) (by decide) (fun hc => ?_) (fun hc => ?_)
        · replace h := h.1 hc
          refine mV_aload_n (k := 0) (by decide +kernel) rfl ?_
          refine mV_aload_n (k := 0) (by decide +kernel) rfl ?_
          refine mV_gfix (x := mg_i G 226 19) (by decide +kernel) fk_13_269 sh_226 rfl ?_
          refine mV_pfi (by decide +kernel) fk_13_266 sh_226 ?_
          refine mV_aload_n (k := 0) (by decide +kernel) rfl ?_
          refine mV_iconst (n := 0) (v := nI 0) (by decide +kernel) (by decide) ?_
          refine mV_pfi (by decide +kernel) fk_13_275 sh_226 ?_
          refine mV_iconst (n := 0) (v := nI 0) (by decide +kernel) (by decide) ?_
          refine mV_istore_n (k := 1) (ls' := [some (.ref 226), some (.int (nI 0))]) (by decide +kernel) (Nat.le_of_ble_eq_true rfl) rfl rfl ?_
          exact h
        · replace h := h.2 hc
          refine mV_aload_n (k := 0) (by decide +kernel) rfl ?_
          refine mV_gfix (x := mg_i G 226 15) (by decide +kernel) fk_13_245 sh_226 rfl ?_
          exact mV_iret (by decide +kernel) rfl h
      · replace h := h.2 hc
        refine mV_aload_n (k := 0) (by decide +kernel) rfl ?_
        refine mV_gfix (x := mg_i G 226 13) (by decide +kernel) fk_13_236 sh_226 rfl ?_
        exact mV_iret (by decide +kernel) rfl h
  · replace h := h.2 hc
    refine mV_aload_n (k := 0) (by decide +kernel) rfl ?_
    refine mV_iconst (n := 0) (v := nI 0) (by decide +kernel) (by decide) ?_
    refine mV_cV (as := [.int (nI 0)]) (rest := []) (mc1 := 0) (ms1 := 0) (mc := 0) (ms := 0) (by decide +kernel) md_X13_is lk_13_254 sh_226 rfl rfl rfl (Nat.le_of_ble_eq_true rfl) (mC.mono (mm_contI (fun r1 G2 hK => ?_)) h)
    replace h := hK
    refine mV_if_ne (off := 10) (tgt := 128) (by decide +kernel) (by decide) (fun hc => ?_) (fun hc => ?_)
    · replace h := h.1 hc
      refine mV_aload_n (k := 0) (by decide +kernel) rfl ?_
      refine mV_aload_n (k := 0) (by decide +kernel) rfl ?_
      refine mV_gfix (x := mg_i G2 226 13) (by decide +kernel) fk_13_236 sh_226 rfl ?_
      refine mV_if_le (off := 10) (tgt := 143) (by decide +kernel) (by decide) (fun hc => ?_) (fun hc => ?_)
      · replace h := h.1 hc
        refine mV_aload_n (k := 0) (by decide +kernel) rfl ?_
        refine mV_gfix (x := mg_i G2 226 15) (by decide +kernel) fk_13_245 sh_226 rfl ?_
        refine mV_if_le (off := 10) (tgt := 157) (by decide +kernel) (by decide) (fun hc => ?_) (fun hc => ?_)
        · replace h := h.1 hc
          refine mV_iconst (n := -1) (v := (-1)) (by decide +kernel) (by decide) ?_
          refine mV_pfi (by decide +kernel) fk_13_37 sh_226 ?_
          refine mV_aload_n (k := 0) (by decide +kernel) rfl ?_
          refine mV_gfix (x := mg_i G2 226 13) (by decide +kernel) fk_13_236 sh_226 rfl ?_
          refine mV_if_le (off := 8) (tgt := 173) (by decide +kernel) (by decide) (fun hc => ?_) (fun hc => ?_)
          · replace h := h.1 hc
            refine mV_aload_n (k := 0) (by decide +kernel) rfl ?_
            refine mV_gfix (x := mg_i G2 226 15) (by decide +kernel) fk_13_245 sh_226 rfl ?_
            refine mV_if_le (off := 8) (tgt := 185) (by decide +kernel) (by decide) (fun hc => ?_) (fun hc => ?_)
            · replace h := h.1 hc
              refine mV_aload_n (k := 0) (by decide +kernel) rfl ?_
              refine mV_aload_n (k := 0) (by decide +kernel) rfl ?_
              refine mV_gfix (x := mg_i G2 226 19) (by decide +kernel) fk_13_269 sh_226 rfl ?_
              refine mV_pfi (by decide +kernel) fk_13_266 sh_226 ?_
              refine mV_aload_n (k := 0) (by decide +kernel) rfl ?_
              refine mV_iconst (n := 0) (v := nI 0) (by decide +kernel) (by decide) ?_
              refine mV_pfi (by decide +kernel) fk_13_275 sh_226 ?_
              refine mV_iconst (n := 0) (v := nI 0) (by decide +kernel) (by decide) ?_
              refine mV_istore_n (k := 1) (ls' := [some (.ref 226), some (.int (nI 0))]) (by decide +kernel) (Nat.le_of_ble_eq_true rfl) rfl rfl ?_
              exact h
            · replace h := h.2 hc
              refine mV_aload_n (k := 0) (by decide +kernel) rfl ?_
              refine mV_gfix (x := mg_i G2 226 15) (by decide +kernel) fk_13_245 sh_226 rfl ?_
              exact mV_iret (by decide +kernel) rfl h
          · replace h := h.2 hc
            refine mV_aload_n (k := 0) (by decide +kernel) rfl ?_
            refine mV_gfix (x := mg_i G2 226 13) (by decide +kernel) fk_13_236 sh_226 rfl ?_
            exact mV_iret (by decide +kernel) rfl h
        · replace h := h.2 hc
          refine mV_aload_n (k := 0) (by decide +kernel) rfl ?_
          refine mV_gfix (x := mg_i G2 226 16) (by decide +kernel) fk_13_248 sh_226 rfl ?_
          refine mV_goto (off := 4) (tgt := 158) (by decide +kernel) (by decide) ?_
          refine mV_pfi (by decide +kernel) fk_13_37 sh_226 ?_
          refine mV_aload_n (k := 0) (by decide +kernel) rfl ?_
          refine mV_gfix (x := mg_i G2 226 13) (by decide +kernel) fk_13_236 sh_226 rfl ?_
          refine mV_if_le (off := 8) (tgt := 173) (by decide +kernel) (by decide) (fun hc => ?_) (fun hc => ?_)
          · replace h := h.1 hc
            refine mV_aload_n (k := 0) (by decide +kernel) rfl ?_
            refine mV_gfix (x := mg_i G2 226 15) (by decide +kernel) fk_13_245 sh_226 rfl ?_
            refine mV_if_le (off := 8) (tgt := 185) (by decide +kernel) (by decide) (fun hc => ?_) (fun hc => ?_)
            · replace h := h.1 hc
              refine mV_aload_n (k := 0) (by decide +kernel) rfl ?_
              refine mV_aload_n (k := 0) (by decide +kernel) rfl ?_
              refine mV_gfix (x := mg_i G2 226 19) (by decide +kernel) fk_13_269 sh_226 rfl ?_
              refine mV_pfi (by decide +kernel) fk_13_266 sh_226 ?_
              refine mV_aload_n (k := 0) (by decide +kernel) rfl ?_
              refine mV_iconst (n := 0) (v := nI 0) (by decide +kernel) (by decide) ?_
              refine mV_pfi (by decide +kernel) fk_13_275 sh_226 ?_
              refine mV_iconst (n := 0) (v := nI 0) (by decide +kernel) (by decide) ?_
              refine mV_istore_n (k := 1) (ls' := [some (.ref 226), some (.int (nI 0))]) (by decide +kernel) (Nat.le_of_ble_eq_true rfl) rfl rfl ?_
              exact h
            · replace h := h.2 hc
              refine mV_aload_n (k := 0) (by decide +kernel) rfl ?_
              refine mV_gfix (x := mg_i G2 226 15) (by decide +kernel) fk_13_245 sh_226 rfl ?_
              exact mV_iret (by decide +kernel) rfl h
          · replace h := h.2 hc
            refine mV_aload_n (k := 0) (by decide +kernel) rfl ?_
            refine mV_gfix (x := mg_i G2 226 13) (by decide +kernel) fk_13_236 sh_226 rfl ?_
            exact mV_iret (by decide +kernel) rfl h
      · replace h := h.2 hc
        refine mV_aload_n (k := 0) (by decide +kernel) rfl ?_
        refine mV_gfix (x := mg_i G2 226 14) (by decide +kernel) fk_13_242 sh_226 rfl ?_
        refine mV_goto (off := 18) (tgt := 158) (by decide +kernel) (by decide) ?_
        refine mV_pfi (by decide +kernel) fk_13_37 sh_226 ?_
        refine mV_aload_n (k := 0) (by decide +kernel) rfl ?_
        refine mV_gfix (x := mg_i G2 226 13) (by decide +kernel) fk_13_236 sh_226 rfl ?_
        refine mV_if_le (off := 8) (tgt := 173) (by decide +kernel) (by decide) (fun hc => ?_) (fun hc => ?_)
        · replace h := h.1 hc
          refine mV_aload_n (k := 0) (by decide +kernel) rfl ?_
          refine mV_gfix (x := mg_i G2 226 15) (by decide +kernel) fk_13_245 sh_226 rfl ?_
          refine mV_if_le (off := 8) (tgt := 185) (by decide +kernel) (by decide) (fun hc => ?_) (fun hc => ?_)
          · replace h := h.1 hc
            refine mV_aload_n (k := 0) (by decide +kernel) rfl ?_
            refine mV_aload_n (k := 0) (by decide +kernel) rfl ?_
            refine mV_gfix (x := mg_i G2 226 19) (by decide +kernel) fk_13_269 sh_226 rfl ?_
            refine mV_pfi (by decide +kernel) fk_13_266 sh_226 ?_
            refine mV_aload_n (k := 0) (by decide +kernel) rfl ?_
            refine mV_iconst (n := 0) (v := nI 0) (by decide +kernel) (by decide) ?_
            refine mV_pfi (by decide +kernel) fk_13_275 sh_226 ?_
            refine mV_iconst (n := 0) (v := nI 0) (by decide +kernel) (by decide) ?_
            refine mV_istore_n (k := 1) (ls' := [some (.ref 226), some (.int (nI 0))]) (by decide +kernel) (Nat.le_of_ble_eq_true rfl) rfl rfl ?_
            exact h
          · replace h := h.2 hc
            refine mV_aload_n (k := 0) (by decide +kernel) rfl ?_
            refine mV_gfix (x := mg_i G2 226 15) (by decide +kernel) fk_13_245 sh_226 rfl ?_
            exact mV_iret (by decide +kernel) rfl h
        · replace h := h.2 hc
          refine mV_aload_n (k := 0) (by decide +kernel) rfl ?_
          refine mV_gfix (x := mg_i G2 226 13) (by decide +kernel) fk_13_236 sh_226 rfl ?_
          exact mV_iret (by decide +kernel) rfl h
    · replace h := h.2 hc
      refine mV_aload_n (k := 0) (by decide +kernel) rfl ?_
      refine mV_cV (as := []) (rest := []) (mc1 := 0) (ms1 := 0) (mc := 0) (ms := 0) (by decide +kernel) md_X13_tell lk_13_272 sh_226 rfl rfl rfl (Nat.le_of_ble_eq_true rfl) (mC.mono (mm_contV (fun G4 hK => ?_)) h)
      replace h := hK
      refine mV_goto (off := -19) (tgt := 106) (by decide +kernel) (by decide) ?_
      exact h
set_option maxRecDepth 100000 in
set_option maxHeartbeats 4000000 in
theorem p_X13_read_200 {l : Launch} {κ : mm_K} {d : Nat} {G : mm_G} {K : Int32 → mm_G → Prop} (v1 : Int32) (h : (((nI 3) ≤ v1 → K (nI 0) G) ∧ (¬ (nI 3) ≤ v1 → vp_in v1 3 ∧ mV l κ true (d + 9) 0 0 m_X13_read 200 [some (.ref 226), some (.int (v1 + (nI 1)))] [] (ms_i G 278 v1.toNatClampNeg (vp_nar .boolean (nI 0))) (rI K)))) : mV l κ true (d + 9) 0 0 m_X13_read 200 [some (.ref 226), some (.int v1)] [] G (rI K) := by
  refine mV_iload_n (k := 1) (by decide +kernel) rfl ?_
  refine mV_iconst (n := 3) (v := nI 3) (by decide +kernel) (by decide) ?_
  refine mV_icmp_ge (off := 16) (tgt := 218) (by decide +kernel) (by decide) (fun hc => ?_) (fun hc => ?_)
  · replace h := h.1 hc
    refine mV_iconst (n := 0) (v := nI 0) (by decide +kernel) (by decide) ?_
    exact mV_iret (by decide +kernel) rfl h
  · replace h := h.2 hc
    refine mV_aload_n (k := 0) (by decide +kernel) rfl ?_
    refine mV_gfr (r := some 278) (by decide +kernel) fk_13_173 sh_226 (mm_rrs st_226_78) rfl ?_
    refine mV_iload_n (k := 1) (by decide +kernel) rfl ?_
    refine mV_iconst (n := 0) (v := nI 0) (by decide +kernel) (by decide) ?_
    refine mV_zas (by decide +kernel) sh_278 h.1 ?_
    replace h := h.2
    refine mV_iincc (i := 1) (n := 1) (c := nI 1) (ls' := [some (.ref 226), some (.int (v1 + (nI 1)))]) (by decide +kernel) (by decide) rfl (Nat.le_of_ble_eq_true rfl) rfl rfl ?_
    refine mV_goto (off := -15) (tgt := 200) (by decide +kernel) (by decide) ?_
    exact h
set_option maxRecDepth 100000 in
set_option maxHeartbeats 4000000 in
theorem e_X13_place {l : Launch} {κ : mm_K} {d : Nat} {G : mm_G} {K : Int32 → mm_G → Prop}  (h : K (mg_i G 226 17) G) : mC l κ true d 0 0 m_X13_place [.ref 226] G (rI K) := by
  refine mC.of (by decide) (Nat.le_of_ble_eq_true rfl) [some (.ref 226)] rfl ?_
  refine mV_aload_n (k := 0) (by decide +kernel) rfl ?_
  refine mV_gfix (x := mg_i G 226 17) (by decide +kernel) fk_13_37 sh_226 rfl ?_
  exact mV_iret (by decide +kernel) rfl h
set_option maxRecDepth 100000 in
set_option maxHeartbeats 4000000 in
theorem e_X13_room {l : Launch} {κ : mm_K} {d : Nat} {G : mm_G} {K : mm_G → Prop} (a1 : Int32) (a2 : Int32) (h : ((¬ a1 = a2 → K G) ∧ (a1 = a2 → mC l κ true d 0 0 m_X13_fail [.ref 226, .int (nI 2)] G (rV (fun G2 => K G2))))) : mC l κ true (d + 1) 0 0 m_X13_room [.ref 226, .int a1, .int a2] G (rV K) := by
  refine mC.of (by decide) (Nat.le_of_ble_eq_true rfl) [some (.ref 226), some (.int a1), some (.int a2)] rfl ?_
  refine mV_iload_n (k := 1) (by decide +kernel) rfl ?_
  refine mV_iload_n (k := 2) (by decide +kernel) rfl ?_
  refine mV_icmp_ne (off := 8) (tgt := 10) (by decide +kernel) (by decide) (fun hc => ?_) (fun hc => ?_)
  · replace h := h.1 hc
    exact mV_vret (by decide +kernel) rfl h
  · replace h := h.2 hc
    refine mV_aload_n (k := 0) (by decide +kernel) rfl ?_
    refine mV_iconst (n := 2) (v := nI 2) (by decide +kernel) (by decide) ?_
    refine mV_cV (as := [.int (nI 2)]) (rest := []) (mc1 := 0) (ms1 := 0) (mc := 0) (ms := 0) (by decide +kernel) md_X13_fail lk_13_251 sh_226 rfl rfl rfl (Nat.le_of_ble_eq_true rfl) (mC.mono (mm_contV (fun G2 hK => ?_)) h)
    replace h := hK
    exact mV_vret (by decide +kernel) rfl h
set_option maxRecDepth 100000 in
set_option maxHeartbeats 4000000 in
theorem e_X13_tell {l : Launch} {κ : mm_K} {d : Nat} {G : mm_G} {K : mm_G → Prop}  (h : vp_in (mg_i G 226 11) 403 ∧ (((mg_i G 229 ((mg_i G 226 11).toNatClampNeg)) = nI 20 → vp_in (mg_i G 226 19) 5 ∧ mC l κ true (d + 7) 0 0 m_X13_room [.ref 226, .int (mg_i G 234 ((mg_i G 226 19).toNatClampNeg)), .int (nI 4)] G (rV (fun G4 => ((¬ (mg_i G4 226 13) = 0 → K G4) ∧ ((mg_i G4 226 13) = 0 → mC l κ true (d + 7) 0 0 m_X13_tellRow [.ref 226] G4 (rV (fun G6 => K G6))))))) ∧ ((mg_i G 229 ((mg_i G 226 11).toNatClampNeg)) = nI 21 → vp_in (mg_i G 226 19) 2 ∧ mC l κ true (d + 7) 0 0 m_X13_room [.ref 226, .int (mg_i G 249 ((mg_i G 226 19).toNatClampNeg)), .int (nI 8)] G (rV (fun G8 => ((¬ (mg_i G8 226 13) = 0 → K G8) ∧ ((mg_i G8 226 13) = 0 → mC l κ true (d + 7) 0 0 m_X13_tellTrial [.ref 226] G8 (rV (fun G10 => K G10))))))) ∧ ((mg_i G 229 ((mg_i G 226 11).toNatClampNeg)) = nI 22 → mC l κ true (d + 7) 0 0 m_X13_fail [.ref 226, .int (nI 1)] G (rV (fun G12 => K G12))) ∧ ((mg_i G 229 ((mg_i G 226 11).toNatClampNeg)) = nI 23 → mC l κ true (d + 7) 0 0 m_X13_goesOn [.ref 226] G (rV (fun G14 => mC l κ true (d + 7) 0 0 m_X13_must [.ref 226, .int (nI 2)] G14 (rV (fun G16 => ((¬ (mg_i G16 226 13) = 0 → mC l κ true (d + 7) 0 0 m_X13_must [.ref 226, .int (nI 4)] G16 (rV (fun G18 => ((¬ (mg_i G18 226 13) = 0 → K G18) ∧ ((mg_i G18 226 13) = 0 → vp_in (mg_i G14 226 11) 403 ∧ vp_in (mg_i G18 226 19) 2 ∧ K (ms_i G18 254 ((mg_i G18 226 19).toNatClampNeg) (mg_i G18 231 ((mg_i G14 226 11).toNatClampNeg)))))))) ∧ ((mg_i G16 226 13) = 0 → vp_in (mg_i G14 226 11) 403 ∧ (((mg_i G16 231 ((mg_i G14 226 11).toNatClampNeg)) < (nI 1) → mC l κ true (d + 7) 0 0 m_X13_wrong [.ref 226, .int (nI 5), .int (mg_i G14 226 11)] G16 (rV (fun G20 => mC l κ true (d + 7) 0 0 m_X13_must [.ref 226, .int (nI 4)] G20 (rV (fun G22 => ((¬ (mg_i G22 226 13) = 0 → K G22) ∧ ((mg_i G22 226 13) = 0 → vp_in (mg_i G14 226 11) 403 ∧ vp_in (mg_i G22 226 19) 2 ∧ K (ms_i G22 254 ((mg_i G22 226 19).toNatClampNeg) (mg_i G22 231 ((mg_i G14 226 11).toNatClampNeg)))))))))) ∧ (¬ (mg_i G16 231 ((mg_i G14 226 11).toNatClampNeg)) < (nI 1) → vp_in (mg_i G14 226 11) 403 ∧ (((mg_i G16 231 ((mg_i G14 226 11).toNatClampNeg)) ≤ (nI 300) → mC l κ true (d + 7) 0 0 m_X13_must [.ref 226, .int (nI 4)] G16 (rV (fun G24 => ((¬ (mg_i G24 226 13) = 0 → K G24) ∧ ((mg_i G24 226 13) = 0 → vp_in (mg_i G14 226 11) 403 ∧ vp_in (mg_i G24 226 19) 2 ∧ K (ms_i G24 254 ((mg_i G24 226 19).toNatClampNeg) (mg_i G24 231 ((mg_i G14 226 11).toNatClampNeg)))))))) ∧ (¬ (mg_i G16 231 ((mg_i G14 226 11).toNatClampNeg)) ≤ (nI 300) → mC l κ true (d + 7) 0 0 m_X13_wrong [.ref 226, .int (nI 5), .int (mg_i G14 226 11)] G16 (rV (fun G26 => mC l κ true (d + 7) 0 0 m_X13_must [.ref 226, .int (nI 4)] G26 (rV (fun G28 => ((¬ (mg_i G28 226 13) = 0 → K G28) ∧ ((mg_i G28 226 13) = 0 → vp_in (mg_i G14 226 11) 403 ∧ vp_in (mg_i G28 226 19) 2 ∧ K (ms_i G28 254 ((mg_i G28 226 19).toNatClampNeg) (mg_i G28 231 ((mg_i G14 226 11).toNatClampNeg)))))))))))))))))))) ∧ (((mg_i G 229 ((mg_i G 226 11).toNatClampNeg)).toInt < 20 ∨ 23 < (mg_i G 229 ((mg_i G 226 11).toNatClampNeg)).toInt) → mC l κ true (d + 7) 0 0 m_X13_fail [.ref 226, .int (nI 1)] G (rV (fun G2 => K G2))))) : mC l κ true (d + 8) 0 0 m_X13_tell [.ref 226] G (rV K) := by
  refine mC.of (by decide) (Nat.le_of_ble_eq_true rfl) [some (.ref 226), none] rfl ?_
  refine mV_aload_n (k := 0) (by decide +kernel) rfl ?_
  refine mV_gfr (r := some 229) (by decide +kernel) fk_13_20 sh_226 (mm_rrs st_226_5) rfl ?_
  refine mV_aload_n (k := 0) (by decide +kernel) rfl ?_
  refine mV_gfix (x := mg_i G 226 11) (by decide +kernel) fk_13_239 sh_226 rfl ?_
  refine mV_ialx (x := mg_i G 229 ((mg_i G 226 11).toNatClampNeg)) (by decide +kernel) sh_229 h.1 rfl ?_
  replace h := h.2
  have hsw : ((mg_i G 229 ((mg_i G 226 11).toNatClampNeg)).toInt < 20 ∨ 23 < (mg_i G 229 ((mg_i G 226 11).toNatClampNeg)).toInt) ∨ (mg_i G 229 ((mg_i G 226 11).toNatClampNeg)).toInt = 20 ∨ (mg_i G 229 ((mg_i G 226 11).toNatClampNeg)).toInt = 21 ∨ (mg_i G 229 ((mg_i G 226 11).toNatClampNeg)).toInt = 22 ∨ (mg_i G 229 ((mg_i G 226 11).toNatClampNeg)).toInt = 23 := by omega
  rcases hsw with hc | hc | hc | hc | hc
  · replace h := h.2.2.2.2 hc
    refine mV_tabOut (dflt := 167) (lo := 20) (hi := 23) (offs := #[31, 59, 167, 88]) (len := 31) (tgt := 176) (by decide +kernel) hc (by decide) ?_
    refine mV_aload_n (k := 0) (by decide +kernel) rfl ?_
    refine mV_iconst (n := 1) (v := nI 1) (by decide +kernel) (by decide) ?_
    refine mV_cV (as := [.int (nI 1)]) (rest := []) (mc1 := 0) (ms1 := 0) (mc := 0) (ms := 0) (by decide +kernel) md_X13_fail lk_13_251 sh_226 rfl rfl rfl (Nat.le_of_ble_eq_true rfl) (mC.mono (mm_contV (fun G2 hK => ?_)) h)
    replace h := hK
    exact mV_vret (by decide +kernel) rfl h
  · replace h := h.1 (mm_eqI hc (by decide))
    refine mV_tabIn (dflt := 167) (lo := 20) (hi := 23) (offs := #[31, 59, 167, 88]) (len := 31) (off := 31) (tgt := 40) (by decide +kernel) (by rw [hc]; decide) (by rw [hc]; decide) (by rw [hc]; rfl) (by decide) ?_
    refine mV_aload_n (k := 0) (by decide +kernel) rfl ?_
    refine mV_aload_n (k := 0) (by decide +kernel) rfl ?_
    refine mV_gfr (r := some 234) (by decide +kernel) fk_13_40 sh_226 (mm_rrs st_226_20) rfl ?_
    refine mV_aload_n (k := 0) (by decide +kernel) rfl ?_
    refine mV_gfix (x := mg_i G 226 19) (by decide +kernel) fk_13_269 sh_226 rfl ?_
    refine mV_ialx (x := mg_i G 234 ((mg_i G 226 19).toNatClampNeg)) (by decide +kernel) sh_234 h.1 rfl ?_
    replace h := h.2
    refine mV_iconst (n := 4) (v := nI 4) (by decide +kernel) (by decide) ?_
    refine mV_cV (as := [.int (mg_i G 234 ((mg_i G 226 19).toNatClampNeg)), .int (nI 4)]) (rest := []) (mc1 := 0) (ms1 := 0) (mc := 0) (ms := 0) (by decide +kernel) md_X13_room lk_13_278 sh_226 rfl rfl rfl (Nat.le_of_ble_eq_true rfl) (mC.mono (mm_contV (fun G4 hK => ?_)) h)
    replace h := hK
    refine mV_aload_n (k := 0) (by decide +kernel) rfl ?_
    refine mV_gfix (x := mg_i G4 226 13) (by decide +kernel) fk_13_236 sh_226 rfl ?_
    refine mV_if_ne (off := 123) (tgt := 181) (by decide +kernel) (by decide) (fun hc => ?_) (fun hc => ?_)
    · replace h := h.1 hc
      exact mV_vret (by decide +kernel) rfl h
    · replace h := h.2 hc
      refine mV_aload_n (k := 0) (by decide +kernel) rfl ?_
      refine mV_cV (as := []) (rest := []) (mc1 := 0) (ms1 := 0) (mc := 0) (ms := 0) (by decide +kernel) md_X13_tellRow lk_13_282 sh_226 rfl rfl rfl (Nat.le_of_ble_eq_true rfl) (mC.mono (mm_contV (fun G6 hK => ?_)) h)
      replace h := hK
      refine mV_goto (off := 116) (tgt := 181) (by decide +kernel) (by decide) ?_
      exact mV_vret (by decide +kernel) rfl h
  · replace h := h.2.1 (mm_eqI hc (by decide))
    refine mV_tabIn (dflt := 167) (lo := 20) (hi := 23) (offs := #[31, 59, 167, 88]) (len := 31) (off := 59) (tgt := 68) (by decide +kernel) (by rw [hc]; decide) (by rw [hc]; decide) (by rw [hc]; rfl) (by decide) ?_
    refine mV_aload_n (k := 0) (by decide +kernel) rfl ?_
    refine mV_aload_n (k := 0) (by decide +kernel) rfl ?_
    refine mV_gfr (r := some 249) (by decide +kernel) fk_13_85 sh_226 (mm_rrs st_226_35) rfl ?_
    refine mV_aload_n (k := 0) (by decide +kernel) rfl ?_
    refine mV_gfix (x := mg_i G 226 19) (by decide +kernel) fk_13_269 sh_226 rfl ?_
    refine mV_ialx (x := mg_i G 249 ((mg_i G 226 19).toNatClampNeg)) (by decide +kernel) sh_249 h.1 rfl ?_
    replace h := h.2
    refine mV_bipush (n := 8) (v := nI 8) (by decide +kernel) (by decide) ?_
    refine mV_cV (as := [.int (mg_i G 249 ((mg_i G 226 19).toNatClampNeg)), .int (nI 8)]) (rest := []) (mc1 := 0) (ms1 := 0) (mc := 0) (ms := 0) (by decide +kernel) md_X13_room lk_13_278 sh_226 rfl rfl rfl (Nat.le_of_ble_eq_true rfl) (mC.mono (mm_contV (fun G8 hK => ?_)) h)
    replace h := hK
    refine mV_aload_n (k := 0) (by decide +kernel) rfl ?_
    refine mV_gfix (x := mg_i G8 226 13) (by decide +kernel) fk_13_236 sh_226 rfl ?_
    refine mV_if_ne (off := 94) (tgt := 181) (by decide +kernel) (by decide) (fun hc => ?_) (fun hc => ?_)
    · replace h := h.1 hc
      exact mV_vret (by decide +kernel) rfl h
    · replace h := h.2 hc
      refine mV_aload_n (k := 0) (by decide +kernel) rfl ?_
      refine mV_cV (as := []) (rest := []) (mc1 := 0) (ms1 := 0) (mc := 0) (ms := 0) (by decide +kernel) md_X13_tellTrial lk_13_285 sh_226 rfl rfl rfl (Nat.le_of_ble_eq_true rfl) (mC.mono (mm_contV (fun G10 hK => ?_)) h)
      replace h := hK
      refine mV_goto (off := 87) (tgt := 181) (by decide +kernel) (by decide) ?_
      exact mV_vret (by decide +kernel) rfl h
  · replace h := h.2.2.1 (mm_eqI hc (by decide))
    refine mV_tabIn (dflt := 167) (lo := 20) (hi := 23) (offs := #[31, 59, 167, 88]) (len := 31) (off := 167) (tgt := 176) (by decide +kernel) (by rw [hc]; decide) (by rw [hc]; decide) (by rw [hc]; rfl) (by decide) ?_
    refine mV_aload_n (k := 0) (by decide +kernel) rfl ?_
    refine mV_iconst (n := 1) (v := nI 1) (by decide +kernel) (by decide) ?_
    refine mV_cV (as := [.int (nI 1)]) (rest := []) (mc1 := 0) (ms1 := 0) (mc := 0) (ms := 0) (by decide +kernel) md_X13_fail lk_13_251 sh_226 rfl rfl rfl (Nat.le_of_ble_eq_true rfl) (mC.mono (mm_contV (fun G12 hK => ?_)) h)
    replace h := hK
    exact mV_vret (by decide +kernel) rfl h
  · replace h := h.2.2.2.1 (mm_eqI hc (by decide))
    refine mV_tabIn (dflt := 167) (lo := 20) (hi := 23) (offs := #[31, 59, 167, 88]) (len := 31) (off := 88) (tgt := 97) (by decide +kernel) (by rw [hc]; decide) (by rw [hc]; decide) (by rw [hc]; rfl) (by decide) ?_
    refine mV_aload_n (k := 0) (by decide +kernel) rfl ?_
    refine mV_cV (as := []) (rest := []) (mc1 := 0) (ms1 := 0) (mc := 0) (ms := 0) (by decide +kernel) md_X13_goesOn lk_13_257 sh_226 rfl rfl rfl (Nat.le_of_ble_eq_true rfl) (mC.mono (mm_contV (fun G14 hK => ?_)) h)
    replace h := hK
    refine mV_aload_n (k := 0) (by decide +kernel) rfl ?_
    refine mV_gfix (x := mg_i G14 226 11) (by decide +kernel) fk_13_239 sh_226 rfl ?_
    refine mV_istore_n (k := 1) (ls' := [some (.ref 226), some (.int (mg_i G14 226 11))]) (by decide +kernel) (Nat.le_of_ble_eq_true rfl) rfl rfl ?_
    refine mV_aload_n (k := 0) (by decide +kernel) rfl ?_
    refine mV_iconst (n := 2) (v := nI 2) (by decide +kernel) (by decide) ?_
    refine mV_cV (as := [.int (nI 2)]) (rest := []) (mc1 := 0) (ms1 := 0) (mc := 0) (ms := 0) (by decide +kernel) md_X13_must lk_13_288 sh_226 rfl rfl rfl (Nat.le_of_ble_eq_true rfl) (mC.mono (mm_contV (fun G16 hK => ?_)) h)
    replace h := hK
    refine mV_aload_n (k := 0) (by decide +kernel) rfl ?_
    refine mV_gfix (x := mg_i G16 226 13) (by decide +kernel) fk_13_236 sh_226 rfl ?_
    refine mV_if_ne (off := 31) (tgt := 146) (by decide +kernel) (by decide) (fun hc => ?_) (fun hc => ?_)
    · replace h := h.1 hc
      refine mV_aload_n (k := 0) (by decide +kernel) rfl ?_
      refine mV_iconst (n := 4) (v := nI 4) (by decide +kernel) (by decide) ?_
      refine mV_cV (as := [.int (nI 4)]) (rest := []) (mc1 := 0) (ms1 := 0) (mc := 0) (ms := 0) (by decide +kernel) md_X13_must lk_13_288 sh_226 rfl rfl rfl (Nat.le_of_ble_eq_true rfl) (mC.mono (mm_contV (fun G18 hK => ?_)) h)
      replace h := hK
      refine mV_aload_n (k := 0) (by decide +kernel) rfl ?_
      refine mV_gfix (x := mg_i G18 226 13) (by decide +kernel) fk_13_236 sh_226 rfl ?_
      refine mV_if_ne (off := 26) (tgt := 181) (by decide +kernel) (by decide) (fun hc => ?_) (fun hc => ?_)
      · replace h := h.1 hc
        exact mV_vret (by decide +kernel) rfl h
      · replace h := h.2 hc
        refine mV_aload_n (k := 0) (by decide +kernel) rfl ?_
        refine mV_gfr (r := some 254) (by decide +kernel) fk_13_100 sh_226 (mm_rrs st_226_40) rfl ?_
        refine mV_aload_n (k := 0) (by decide +kernel) rfl ?_
        refine mV_gfix (x := mg_i G18 226 19) (by decide +kernel) fk_13_269 sh_226 rfl ?_
        refine mV_aload_n (k := 0) (by decide +kernel) rfl ?_
        refine mV_gfr (r := some 231) (by decide +kernel) fk_13_27 sh_226 (mm_rrs st_226_7) rfl ?_
        refine mV_iload_n (k := 1) (by decide +kernel) rfl ?_
        refine mV_ialx (x := mg_i G18 231 ((mg_i G14 226 11).toNatClampNeg)) (by decide +kernel) sh_231 h.1 rfl ?_
        replace h := h.2
        refine mV_ias (by decide +kernel) sh_254 h.1 ?_
        replace h := h.2
        refine mV_goto (off := 8) (tgt := 181) (by decide +kernel) (by decide) ?_
        exact mV_vret (by decide +kernel) rfl h
    · replace h := h.2 hc
      refine mV_aload_n (k := 0) (by decide +kernel) rfl ?_
      refine mV_gfr (r := some 231) (by decide +kernel) fk_13_27 sh_226 (mm_rrs st_226_7) rfl ?_
      refine mV_iload_n (k := 1) (by decide +kernel) rfl ?_
      refine mV_ialx (x := mg_i G16 231 ((mg_i G14 226 11).toNatClampNeg)) (by decide +kernel) sh_231 h.1 rfl ?_
      replace h := h.2
      refine mV_iconst (n := 1) (v := nI 1) (by decide +kernel) (by decide) ?_
      refine mV_icmp_lt (off := 15) (tgt := 140) (by decide +kernel) (by decide) (fun hc => ?_) (fun hc => ?_)
      · replace h := h.1 hc
        refine mV_aload_n (k := 0) (by decide +kernel) rfl ?_
        refine mV_iconst (n := 5) (v := nI 5) (by decide +kernel) (by decide) ?_
        refine mV_iload_n (k := 1) (by decide +kernel) rfl ?_
        refine mV_cV (as := [.int (nI 5), .int (mg_i G14 226 11)]) (rest := []) (mc1 := 0) (ms1 := 0) (mc := 0) (ms := 0) (by decide +kernel) md_X13_wrong lk_13_291 sh_226 rfl rfl rfl (Nat.le_of_ble_eq_true rfl) (mC.mono (mm_contV (fun G20 hK => ?_)) h)
        replace h := hK
        refine mV_aload_n (k := 0) (by decide +kernel) rfl ?_
        refine mV_iconst (n := 4) (v := nI 4) (by decide +kernel) (by decide) ?_
        refine mV_cV (as := [.int (nI 4)]) (rest := []) (mc1 := 0) (ms1 := 0) (mc := 0) (ms := 0) (by decide +kernel) md_X13_must lk_13_288 sh_226 rfl rfl rfl (Nat.le_of_ble_eq_true rfl) (mC.mono (mm_contV (fun G22 hK => ?_)) h)
        replace h := hK
        refine mV_aload_n (k := 0) (by decide +kernel) rfl ?_
        refine mV_gfix (x := mg_i G22 226 13) (by decide +kernel) fk_13_236 sh_226 rfl ?_
        refine mV_if_ne (off := 26) (tgt := 181) (by decide +kernel) (by decide) (fun hc => ?_) (fun hc => ?_)
        · replace h := h.1 hc
          exact mV_vret (by decide +kernel) rfl h
        · replace h := h.2 hc
          refine mV_aload_n (k := 0) (by decide +kernel) rfl ?_
          refine mV_gfr (r := some 254) (by decide +kernel) fk_13_100 sh_226 (mm_rrs st_226_40) rfl ?_
          refine mV_aload_n (k := 0) (by decide +kernel) rfl ?_
          refine mV_gfix (x := mg_i G22 226 19) (by decide +kernel) fk_13_269 sh_226 rfl ?_
          refine mV_aload_n (k := 0) (by decide +kernel) rfl ?_
          refine mV_gfr (r := some 231) (by decide +kernel) fk_13_27 sh_226 (mm_rrs st_226_7) rfl ?_
          refine mV_iload_n (k := 1) (by decide +kernel) rfl ?_
          refine mV_ialx (x := mg_i G22 231 ((mg_i G14 226 11).toNatClampNeg)) (by decide +kernel) sh_231 h.1 rfl ?_
          replace h := h.2
          refine mV_ias (by decide +kernel) sh_254 h.1 ?_
          replace h := h.2
          refine mV_goto (off := 8) (tgt := 181) (by decide +kernel) (by decide) ?_
          exact mV_vret (by decide +kernel) rfl h
      · replace h := h.2 hc
        refine mV_aload_n (k := 0) (by decide +kernel) rfl ?_
        refine mV_gfr (r := some 231) (by decide +kernel) fk_13_27 sh_226 (mm_rrs st_226_7) rfl ?_
        refine mV_iload_n (k := 1) (by decide +kernel) rfl ?_
        refine mV_ialx (x := mg_i G16 231 ((mg_i G14 226 11).toNatClampNeg)) (by decide +kernel) sh_231 h.1 rfl ?_
        replace h := h.2
        refine mV_sipush (n := 300) (v := nI 300) (by decide +kernel) (by decide) ?_
        refine mV_icmp_le (off := 9) (tgt := 146) (by decide +kernel) (by decide) (fun hc => ?_) (fun hc => ?_)
        · replace h := h.1 hc
          refine mV_aload_n (k := 0) (by decide +kernel) rfl ?_
          refine mV_iconst (n := 4) (v := nI 4) (by decide +kernel) (by decide) ?_
          refine mV_cV (as := [.int (nI 4)]) (rest := []) (mc1 := 0) (ms1 := 0) (mc := 0) (ms := 0) (by decide +kernel) md_X13_must lk_13_288 sh_226 rfl rfl rfl (Nat.le_of_ble_eq_true rfl) (mC.mono (mm_contV (fun G24 hK => ?_)) h)
          replace h := hK
          refine mV_aload_n (k := 0) (by decide +kernel) rfl ?_
          refine mV_gfix (x := mg_i G24 226 13) (by decide +kernel) fk_13_236 sh_226 rfl ?_
          refine mV_if_ne (off := 26) (tgt := 181) (by decide +kernel) (by decide) (fun hc => ?_) (fun hc => ?_)
          · replace h := h.1 hc
            exact mV_vret (by decide +kernel) rfl h
          · replace h := h.2 hc
            refine mV_aload_n (k := 0) (by decide +kernel) rfl ?_
            refine mV_gfr (r := some 254) (by decide +kernel) fk_13_100 sh_226 (mm_rrs st_226_40) rfl ?_
            refine mV_aload_n (k := 0) (by decide +kernel) rfl ?_
            refine mV_gfix (x := mg_i G24 226 19) (by decide +kernel) fk_13_269 sh_226 rfl ?_
            refine mV_aload_n (k := 0) (by decide +kernel) rfl ?_
            refine mV_gfr (r := some 231) (by decide +kernel) fk_13_27 sh_226 (mm_rrs st_226_7) rfl ?_
            refine mV_iload_n (k := 1) (by decide +kernel) rfl ?_
            refine mV_ialx (x := mg_i G24 231 ((mg_i G14 226 11).toNatClampNeg)) (by decide +kernel) sh_231 h.1 rfl ?_
            replace h := h.2
            refine mV_ias (by decide +kernel) sh_254 h.1 ?_
            replace h := h.2
            refine mV_goto (off := 8) (tgt := 181) (by decide +kernel) (by decide) ?_
            exact mV_vret (by decide +kernel) rfl h
        · replace h := h.2 hc
          refine mV_aload_n (k := 0) (by decide +kernel) rfl ?_
          refine mV_iconst (n := 5) (v := nI 5) (by decide +kernel) (by decide) ?_
          refine mV_iload_n (k := 1) (by decide +kernel) rfl ?_
          refine mV_cV (as := [.int (nI 5), .int (mg_i G14 226 11)]) (rest := []) (mc1 := 0) (ms1 := 0) (mc := 0) (ms := 0) (by decide +kernel) md_X13_wrong lk_13_291 sh_226 rfl rfl rfl (Nat.le_of_ble_eq_true rfl) (mC.mono (mm_contV (fun G26 hK => ?_)) h)
          replace h := hK
          refine mV_aload_n (k := 0) (by decide +kernel) rfl ?_
          refine mV_iconst (n := 4) (v := nI 4) (by decide +kernel) (by decide) ?_
          refine mV_cV (as := [.int (nI 4)]) (rest := []) (mc1 := 0) (ms1 := 0) (mc := 0) (ms := 0) (by decide +kernel) md_X13_must lk_13_288 sh_226 rfl rfl rfl (Nat.le_of_ble_eq_true rfl) (mC.mono (mm_contV (fun G28 hK => ?_)) h)
          replace h := hK
          refine mV_aload_n (k := 0) (by decide +kernel) rfl ?_
          refine mV_gfix (x := mg_i G28 226 13) (by decide +kernel) fk_13_236 sh_226 rfl ?_
          refine mV_if_ne (off := 26) (tgt := 181) (by decide +kernel) (by decide) (fun hc => ?_) (fun hc => ?_)
          · replace h := h.1 hc
            exact mV_vret (by decide +kernel) rfl h
          · replace h := h.2 hc
            refine mV_aload_n (k := 0) (by decide +kernel) rfl ?_
            refine mV_gfr (r := some 254) (by decide +kernel) fk_13_100 sh_226 (mm_rrs st_226_40) rfl ?_
            refine mV_aload_n (k := 0) (by decide +kernel) rfl ?_
            refine mV_gfix (x := mg_i G28 226 19) (by decide +kernel) fk_13_269 sh_226 rfl ?_
            refine mV_aload_n (k := 0) (by decide +kernel) rfl ?_
            refine mV_gfr (r := some 231) (by decide +kernel) fk_13_27 sh_226 (mm_rrs st_226_7) rfl ?_
            refine mV_iload_n (k := 1) (by decide +kernel) rfl ?_
            refine mV_ialx (x := mg_i G28 231 ((mg_i G14 226 11).toNatClampNeg)) (by decide +kernel) sh_231 h.1 rfl ?_
            replace h := h.2
            refine mV_ias (by decide +kernel) sh_254 h.1 ?_
            replace h := h.2
            refine mV_goto (off := 8) (tgt := 181) (by decide +kernel) (by decide) ?_
            exact mV_vret (by decide +kernel) rfl h
set_option maxRecDepth 100000 in
set_option maxHeartbeats 4000000 in
theorem e_X13_rowAt {l : Launch} {κ : mm_K} {d : Nat} {G : mm_G} {K : Int32 → mm_G → Prop} (a1 : Int32) (h : mV l κ true d 0 0 m_X13_rowAt 2 [some (.ref 226), some (.int a1), some (.int (nI 0))] [] G (rI K)) : mC l κ true d 0 0 m_X13_rowAt [.ref 226, .int a1] G (rI K) := by
  refine mC.of (by decide) (Nat.le_of_ble_eq_true rfl) [some (.ref 226), some (.int a1), none] rfl ?_
  refine mV_iconst (n := 0) (v := nI 0) (by decide +kernel) (by decide) ?_
  refine mV_istore_n (k := 2) (ls' := [some (.ref 226), some (.int a1), some (.int (nI 0))]) (by decide +kernel) (Nat.le_of_ble_eq_true rfl) rfl rfl ?_
  exact h
set_option maxRecDepth 100000 in
set_option maxHeartbeats 4000000 in
theorem p_X13_rowAt_2 {l : Launch} {κ : mm_K} {d : Nat} {G : mm_G} {K : Int32 → mm_G → Prop} (v1 : Int32) (v2 : Int32) (h : vp_in (mg_i G 226 19) 5 ∧ (((mg_i G 234 ((mg_i G 226 19).toNatClampNeg)) ≤ v2 → K (-1) G) ∧ (¬ (mg_i G 234 ((mg_i G 226 19).toNatClampNeg)) ≤ v2 → vp_in (((nI 4) * (mg_i G 226 19)) + v2) 20 ∧ vp_in v1 403 ∧ ((¬ (lg_cmp (mg_l G 235 ((((nI 4) * (mg_i G 226 19)) + v2).toNatClampNeg)) (mg_l G 232 v1.toNatClampNeg)) = 0 → mV l κ true d 0 0 m_X13_rowAt 2 [some (.ref 226), some (.int v1), some (.int (v2 + (nI 1)))] [] G (rI K)) ∧ ((lg_cmp (mg_l G 235 ((((nI 4) * (mg_i G 226 19)) + v2).toNatClampNeg)) (mg_l G 232 v1.toNatClampNeg)) = 0 → K v2 G))))) : mV l κ true d 0 0 m_X13_rowAt 2 [some (.ref 226), some (.int v1), some (.int v2)] [] G (rI K) := by
  refine mV_iload_n (k := 2) (by decide +kernel) rfl ?_
  refine mV_aload_n (k := 0) (by decide +kernel) rfl ?_
  refine mV_gfr (r := some 234) (by decide +kernel) fk_13_40 sh_226 (mm_rrs st_226_20) rfl ?_
  refine mV_aload_n (k := 0) (by decide +kernel) rfl ?_
  refine mV_gfix (x := mg_i G 226 19) (by decide +kernel) fk_13_269 sh_226 rfl ?_
  refine mV_ialx (x := mg_i G 234 ((mg_i G 226 19).toNatClampNeg)) (by decide +kernel) sh_234 h.1 rfl ?_
  replace h := h.2
  refine mV_icmp_ge (off := 34) (tgt := 46) (by decide +kernel) (by decide) (fun hc => ?_) (fun hc => ?_)
  · replace h := h.1 hc
    refine mV_iconst (n := -1) (v := (-1)) (by decide +kernel) (by decide) ?_
    exact mV_iret (by decide +kernel) rfl h
  · replace h := h.2 hc
    refine mV_aload_n (k := 0) (by decide +kernel) rfl ?_
    refine mV_gfr (r := some 235) (by decide +kernel) fk_13_43 sh_226 (mm_rrs st_226_21) rfl ?_
    refine mV_iconst (n := 4) (v := nI 4) (by decide +kernel) (by decide) ?_
    refine mV_aload_n (k := 0) (by decide +kernel) rfl ?_
    refine mV_gfix (x := mg_i G 226 19) (by decide +kernel) fk_13_269 sh_226 rfl ?_
    refine mV_imul (by decide +kernel) ?_
    refine mV_iload_n (k := 2) (by decide +kernel) rfl ?_
    refine mV_iadd (by decide +kernel) ?_
    refine mV_lalx (x := mg_l G 235 ((((nI 4) * (mg_i G 226 19)) + v2).toNatClampNeg)) (by decide +kernel) sh_235 h.1 rfl ?_
    replace h := h.2
    refine mV_aload_n (k := 0) (by decide +kernel) rfl ?_
    refine mV_gfr (r := some 232) (by decide +kernel) fk_13_30 sh_226 (mm_rrs st_226_8) rfl ?_
    refine mV_iload_n (k := 1) (by decide +kernel) rfl ?_
    refine mV_lalx (x := mg_l G 232 v1.toNatClampNeg) (by decide +kernel) sh_232 h.1 rfl ?_
    replace h := h.2
    refine mV_lcmp (by decide +kernel) ?_
    refine mV_if_ne (off := 5) (tgt := 40) (by decide +kernel) (by decide) (fun hc => ?_) (fun hc => ?_)
    · replace h := h.1 hc
      refine mV_iincc (i := 2) (n := 1) (c := nI 1) (ls' := [some (.ref 226), some (.int v1), some (.int (v2 + (nI 1)))]) (by decide +kernel) (by decide) rfl (Nat.le_of_ble_eq_true rfl) rfl rfl ?_
      refine mV_goto (off := -41) (tgt := 2) (by decide +kernel) (by decide) ?_
      exact h
    · replace h := h.2 hc
      refine mV_iload_n (k := 2) (by decide +kernel) rfl ?_
      exact mV_iret (by decide +kernel) rfl h
set_option maxRecDepth 100000 in
set_option maxHeartbeats 4000000 in
theorem e_X13_tellRow {l : Launch} {κ : mm_K} {d : Nat} {G : mm_G} {K : mm_G → Prop}  (h : vp_in (mg_i G 226 19) 5 ∧ mC l κ true (d + 6) 0 0 m_X13_goesOn [.ref 226] G (rV (fun G2 => mC l κ true (d + 6) 0 0 m_X13_must [.ref 226, .int (nI 1)] G2 (rV (fun G4 => ((¬ (mg_i G4 226 13) = 0 → mC l κ true (d + 6) 0 0 m_X13_must [.ref 226, .int (nI 7)] G4 (rV (fun G6 => vp_in (((nI 4) * (mg_i G6 226 19)) + (mg_i G 234 ((mg_i G 226 19).toNatClampNeg))) 20 ∧ mV l κ true (d + 7) 0 0 m_X13_tellRow 66 [some (.ref 226), some (.int (mg_i G 234 ((mg_i G 226 19).toNatClampNeg))), some (.int (mg_i G2 226 11)), none, none] [] (ms_i G6 236 ((((nI 4) * (mg_i G6 226 19)) + (mg_i G 234 ((mg_i G 226 19).toNatClampNeg))).toNatClampNeg) (nI 0)) (rV K)))) ∧ ((mg_i G4 226 13) = 0 → mC l κ true (d + 6) 0 0 m_X13_rowAt [.ref 226, .int (mg_i G2 226 11)] G4 (rI (fun r7 G8 => ((r7 = (-1) → mC l κ true (d + 6) 0 0 m_X13_must [.ref 226, .int (nI 7)] G8 (rV (fun G10 => vp_in (((nI 4) * (mg_i G10 226 19)) + (mg_i G 234 ((mg_i G 226 19).toNatClampNeg))) 20 ∧ mV l κ true (d + 7) 0 0 m_X13_tellRow 66 [some (.ref 226), some (.int (mg_i G 234 ((mg_i G 226 19).toNatClampNeg))), some (.int (mg_i G2 226 11)), none, none] [] (ms_i G10 236 ((((nI 4) * (mg_i G10 226 19)) + (mg_i G 234 ((mg_i G 226 19).toNatClampNeg))).toNatClampNeg) (nI 0)) (rV K)))) ∧ (¬ r7 = (-1) → mC l κ true (d + 6) 0 0 m_X13_wrong [.ref 226, .int (nI 3), .int (mg_i G2 226 11)] G8 (rV (fun G12 => mC l κ true (d + 6) 0 0 m_X13_must [.ref 226, .int (nI 7)] G12 (rV (fun G14 => vp_in (((nI 4) * (mg_i G14 226 19)) + (mg_i G 234 ((mg_i G 226 19).toNatClampNeg))) 20 ∧ mV l κ true (d + 7) 0 0 m_X13_tellRow 66 [some (.ref 226), some (.int (mg_i G 234 ((mg_i G 226 19).toNatClampNeg))), some (.int (mg_i G2 226 11)), none, none] [] (ms_i G14 236 ((((nI 4) * (mg_i G14 226 19)) + (mg_i G 234 ((mg_i G 226 19).toNatClampNeg))).toNatClampNeg) (nI 0)) (rV K)))))))))))))))) : mC l κ true (d + 7) 0 0 m_X13_tellRow [.ref 226] G (rV K) := by
  refine mC.of (by decide) (Nat.le_of_ble_eq_true rfl) [some (.ref 226), none, none, none, none] rfl ?_
  refine mV_aload_n (k := 0) (by decide +kernel) rfl ?_
  refine mV_gfr (r := some 234) (by decide +kernel) fk_13_40 sh_226 (mm_rrs st_226_20) rfl ?_
  refine mV_aload_n (k := 0) (by decide +kernel) rfl ?_
  refine mV_gfix (x := mg_i G 226 19) (by decide +kernel) fk_13_269 sh_226 rfl ?_
  refine mV_ialx (x := mg_i G 234 ((mg_i G 226 19).toNatClampNeg)) (by decide +kernel) sh_234 h.1 rfl ?_
  replace h := h.2
  refine mV_istore_n (k := 1) (ls' := [some (.ref 226), some (.int (mg_i G 234 ((mg_i G 226 19).toNatClampNeg))), none, none, none]) (by decide +kernel) (Nat.le_of_ble_eq_true rfl) rfl rfl ?_
  refine mV_aload_n (k := 0) (by decide +kernel) rfl ?_
  refine mV_cV (as := []) (rest := []) (mc1 := 0) (ms1 := 0) (mc := 0) (ms := 0) (by decide +kernel) md_X13_goesOn lk_13_257 sh_226 rfl rfl rfl (Nat.le_of_ble_eq_true rfl) (mC.mono (mm_contV (fun G2 hK => ?_)) h)
  replace h := hK
  refine mV_aload_n (k := 0) (by decide +kernel) rfl ?_
  refine mV_gfix (x := mg_i G2 226 11) (by decide +kernel) fk_13_239 sh_226 rfl ?_
  refine mV_istore_n (k := 2) (ls' := [some (.ref 226), some (.int (mg_i G 234 ((mg_i G 226 19).toNatClampNeg))), some (.int (mg_i G2 226 11)), none, none]) (by decide +kernel) (Nat.le_of_ble_eq_true rfl) rfl rfl ?_
  refine mV_aload_n (k := 0) (by decide +kernel) rfl ?_
  refine mV_iconst (n := 1) (v := nI 1) (by decide +kernel) (by decide) ?_
  refine mV_cV (as := [.int (nI 1)]) (rest := []) (mc1 := 0) (ms1 := 0) (mc := 0) (ms := 0) (by decide +kernel) md_X13_must lk_13_288 sh_226 rfl rfl rfl (Nat.le_of_ble_eq_true rfl) (mC.mono (mm_contV (fun G4 hK => ?_)) h)
  replace h := hK
  refine mV_aload_n (k := 0) (by decide +kernel) rfl ?_
  refine mV_gfix (x := mg_i G4 226 13) (by decide +kernel) fk_13_236 sh_226 rfl ?_
  refine mV_if_ne (off := 18) (tgt := 46) (by decide +kernel) (by decide) (fun hc => ?_) (fun hc => ?_)
  · replace h := h.1 hc
    refine mV_aload_n (k := 0) (by decide +kernel) rfl ?_
    refine mV_bipush (n := 7) (v := nI 7) (by decide +kernel) (by decide) ?_
    refine mV_cV (as := [.int (nI 7)]) (rest := []) (mc1 := 0) (ms1 := 0) (mc := 0) (ms := 0) (by decide +kernel) md_X13_must lk_13_288 sh_226 rfl rfl rfl (Nat.le_of_ble_eq_true rfl) (mC.mono (mm_contV (fun G6 hK => ?_)) h)
    replace h := hK
    refine mV_aload_n (k := 0) (by decide +kernel) rfl ?_
    refine mV_gfr (r := some 236) (by decide +kernel) fk_13_46 sh_226 (mm_rrs st_226_22) rfl ?_
    refine mV_iconst (n := 4) (v := nI 4) (by decide +kernel) (by decide) ?_
    refine mV_aload_n (k := 0) (by decide +kernel) rfl ?_
    refine mV_gfix (x := mg_i G6 226 19) (by decide +kernel) fk_13_269 sh_226 rfl ?_
    refine mV_imul (by decide +kernel) ?_
    refine mV_iload_n (k := 1) (by decide +kernel) rfl ?_
    refine mV_iadd (by decide +kernel) ?_
    refine mV_iconst (n := 0) (v := nI 0) (by decide +kernel) (by decide) ?_
    refine mV_ias (by decide +kernel) sh_236 h.1 ?_
    replace h := h.2
    exact h
  · replace h := h.2 hc
    refine mV_aload_n (k := 0) (by decide +kernel) rfl ?_
    refine mV_iload_n (k := 2) (by decide +kernel) rfl ?_
    refine mV_cV (as := [.int (mg_i G2 226 11)]) (rest := []) (mc1 := 0) (ms1 := 0) (mc := 0) (ms := 0) (by decide +kernel) md_X13_rowAt lk_13_294 sh_226 rfl rfl rfl (Nat.le_of_ble_eq_true rfl) (mC.mono (mm_contI (fun r7 G8 hK => ?_)) h)
    replace h := hK
    refine mV_iconst (n := -1) (v := (-1)) (by decide +kernel) (by decide) ?_
    refine mV_icmp_eq (off := 9) (tgt := 46) (by decide +kernel) (by decide) (fun hc => ?_) (fun hc => ?_)
    · replace h := h.1 hc
      refine mV_aload_n (k := 0) (by decide +kernel) rfl ?_
      refine mV_bipush (n := 7) (v := nI 7) (by decide +kernel) (by decide) ?_
      refine mV_cV (as := [.int (nI 7)]) (rest := []) (mc1 := 0) (ms1 := 0) (mc := 0) (ms := 0) (by decide +kernel) md_X13_must lk_13_288 sh_226 rfl rfl rfl (Nat.le_of_ble_eq_true rfl) (mC.mono (mm_contV (fun G10 hK => ?_)) h)
      replace h := hK
      refine mV_aload_n (k := 0) (by decide +kernel) rfl ?_
      refine mV_gfr (r := some 236) (by decide +kernel) fk_13_46 sh_226 (mm_rrs st_226_22) rfl ?_
      refine mV_iconst (n := 4) (v := nI 4) (by decide +kernel) (by decide) ?_
      refine mV_aload_n (k := 0) (by decide +kernel) rfl ?_
      refine mV_gfix (x := mg_i G10 226 19) (by decide +kernel) fk_13_269 sh_226 rfl ?_
      refine mV_imul (by decide +kernel) ?_
      refine mV_iload_n (k := 1) (by decide +kernel) rfl ?_
      refine mV_iadd (by decide +kernel) ?_
      refine mV_iconst (n := 0) (v := nI 0) (by decide +kernel) (by decide) ?_
      refine mV_ias (by decide +kernel) sh_236 h.1 ?_
      replace h := h.2
      exact h
    · replace h := h.2 hc
      refine mV_aload_n (k := 0) (by decide +kernel) rfl ?_
      refine mV_iconst (n := 3) (v := nI 3) (by decide +kernel) (by decide) ?_
      refine mV_iload_n (k := 2) (by decide +kernel) rfl ?_
      refine mV_cV (as := [.int (nI 3), .int (mg_i G2 226 11)]) (rest := []) (mc1 := 0) (ms1 := 0) (mc := 0) (ms := 0) (by decide +kernel) md_X13_wrong lk_13_291 sh_226 rfl rfl rfl (Nat.le_of_ble_eq_true rfl) (mC.mono (mm_contV (fun G12 hK => ?_)) h)
      replace h := hK
      refine mV_aload_n (k := 0) (by decide +kernel) rfl ?_
      refine mV_bipush (n := 7) (v := nI 7) (by decide +kernel) (by decide) ?_
      refine mV_cV (as := [.int (nI 7)]) (rest := []) (mc1 := 0) (ms1 := 0) (mc := 0) (ms := 0) (by decide +kernel) md_X13_must lk_13_288 sh_226 rfl rfl rfl (Nat.le_of_ble_eq_true rfl) (mC.mono (mm_contV (fun G14 hK => ?_)) h)
      replace h := hK
      refine mV_aload_n (k := 0) (by decide +kernel) rfl ?_
      refine mV_gfr (r := some 236) (by decide +kernel) fk_13_46 sh_226 (mm_rrs st_226_22) rfl ?_
      refine mV_iconst (n := 4) (v := nI 4) (by decide +kernel) (by decide) ?_
      refine mV_aload_n (k := 0) (by decide +kernel) rfl ?_
      refine mV_gfix (x := mg_i G14 226 19) (by decide +kernel) fk_13_269 sh_226 rfl ?_
      refine mV_imul (by decide +kernel) ?_
      refine mV_iload_n (k := 1) (by decide +kernel) rfl ?_
      refine mV_iadd (by decide +kernel) ?_
      refine mV_iconst (n := 0) (v := nI 0) (by decide +kernel) (by decide) ?_
      refine mV_ias (by decide +kernel) sh_236 h.1 ?_
      replace h := h.2
      exact h
set_option maxRecDepth 100000 in
set_option maxHeartbeats 4000000 in
theorem p_X13_tellRow_66 {l : Launch} {κ : mm_K} {d : Nat} {G : mm_G} {K : mm_G → Prop} (v1 : Int32) (v2 : Int32) (h : ((¬ (mg_i G 226 13) = 0 → mC l κ true (d + 6) 0 0 m_X13_must [.ref 226, .int (nI 8)] G (rV (fun G2 => (((mg_i G2 226 13) ≤ 0 → mV l κ true (d + 7) 0 0 m_X13_tellRow 106 [some (.ref 226), some (.int v1), some (.int v2), some (.int (nI 0)), none] [] G2 (rV K)) ∧ (¬ (mg_i G2 226 13) ≤ 0 → K G2))))) ∧ ((mg_i G 226 13) = 0 → mC l κ true (d + 6) 0 0 m_X13_is [.ref 226, .int (nI 8)] G (rI (fun r3 G4 => ((¬ r3 = 0 → mC l κ true (d + 6) 0 0 m_X13_must [.ref 226, .int (nI 8)] G4 (rV (fun G6 => (((mg_i G6 226 13) ≤ 0 → mV l κ true (d + 7) 0 0 m_X13_tellRow 106 [some (.ref 226), some (.int v1), some (.int v2), some (.int (nI 0)), none] [] G6 (rV K)) ∧ (¬ (mg_i G6 226 13) ≤ 0 → K G6))))) ∧ (r3 = 0 → mC l κ true (d + 6) 0 0 m_X13_tellLine [.ref 226, .int v1] G4 (rV (fun G8 => mV l κ true (d + 7) 0 0 m_X13_tellRow 66 [some (.ref 226), some (.int v1), some (.int v2), none, none] [] G8 (rV K)))))))))) : mV l κ true (d + 7) 0 0 m_X13_tellRow 66 [some (.ref 226), some (.int v1), some (.int v2), none, none] [] G (rV K) := by
  refine mV_aload_n (k := 0) (by decide +kernel) rfl ?_
  refine mV_gfix (x := mg_i G 226 13) (by decide +kernel) fk_13_236 sh_226 rfl ?_
  refine mV_if_ne (off := 20) (tgt := 90) (by decide +kernel) (by decide) (fun hc => ?_) (fun hc => ?_)
  · replace h := h.1 hc
    refine mV_aload_n (k := 0) (by decide +kernel) rfl ?_
    refine mV_bipush (n := 8) (v := nI 8) (by decide +kernel) (by decide) ?_
    refine mV_cV (as := [.int (nI 8)]) (rest := []) (mc1 := 0) (ms1 := 0) (mc := 0) (ms := 0) (by decide +kernel) md_X13_must lk_13_288 sh_226 rfl rfl rfl (Nat.le_of_ble_eq_true rfl) (mC.mono (mm_contV (fun G2 hK => ?_)) h)
    replace h := hK
    refine mV_aload_n (k := 0) (by decide +kernel) rfl ?_
    refine mV_gfix (x := mg_i G2 226 13) (by decide +kernel) fk_13_236 sh_226 rfl ?_
    refine mV_if_le (off := 4) (tgt := 104) (by decide +kernel) (by decide) (fun hc => ?_) (fun hc => ?_)
    · replace h := h.1 hc
      refine mV_iconst (n := 0) (v := nI 0) (by decide +kernel) (by decide) ?_
      refine mV_istore_n (k := 3) (ls' := [some (.ref 226), some (.int v1), some (.int v2), some (.int (nI 0)), none]) (by decide +kernel) (Nat.le_of_ble_eq_true rfl) rfl rfl ?_
      exact h
    · replace h := h.2 hc
      exact mV_vret (by decide +kernel) rfl h
  · replace h := h.2 hc
    refine mV_aload_n (k := 0) (by decide +kernel) rfl ?_
    refine mV_bipush (n := 8) (v := nI 8) (by decide +kernel) (by decide) ?_
    refine mV_cV (as := [.int (nI 8)]) (rest := []) (mc1 := 0) (ms1 := 0) (mc := 0) (ms := 0) (by decide +kernel) md_X13_is lk_13_254 sh_226 rfl rfl rfl (Nat.le_of_ble_eq_true rfl) (mC.mono (mm_contI (fun r3 G4 hK => ?_)) h)
    replace h := hK
    refine mV_if_ne (off := 11) (tgt := 90) (by decide +kernel) (by decide) (fun hc => ?_) (fun hc => ?_)
    · replace h := h.1 hc
      refine mV_aload_n (k := 0) (by decide +kernel) rfl ?_
      refine mV_bipush (n := 8) (v := nI 8) (by decide +kernel) (by decide) ?_
      refine mV_cV (as := [.int (nI 8)]) (rest := []) (mc1 := 0) (ms1 := 0) (mc := 0) (ms := 0) (by decide +kernel) md_X13_must lk_13_288 sh_226 rfl rfl rfl (Nat.le_of_ble_eq_true rfl) (mC.mono (mm_contV (fun G6 hK => ?_)) h)
      replace h := hK
      refine mV_aload_n (k := 0) (by decide +kernel) rfl ?_
      refine mV_gfix (x := mg_i G6 226 13) (by decide +kernel) fk_13_236 sh_226 rfl ?_
      refine mV_if_le (off := 4) (tgt := 104) (by decide +kernel) (by decide) (fun hc => ?_) (fun hc => ?_)
      · replace h := h.1 hc
        refine mV_iconst (n := 0) (v := nI 0) (by decide +kernel) (by decide) ?_
        refine mV_istore_n (k := 3) (ls' := [some (.ref 226), some (.int v1), some (.int v2), some (.int (nI 0)), none]) (by decide +kernel) (Nat.le_of_ble_eq_true rfl) rfl rfl ?_
        exact h
      · replace h := h.2 hc
        exact mV_vret (by decide +kernel) rfl h
    · replace h := h.2 hc
      refine mV_aload_n (k := 0) (by decide +kernel) rfl ?_
      refine mV_iload_n (k := 1) (by decide +kernel) rfl ?_
      refine mV_cV (as := [.int v1]) (rest := []) (mc1 := 0) (ms1 := 0) (mc := 0) (ms := 0) (by decide +kernel) md_X13_tellLine lk_13_297 sh_226 rfl rfl rfl (Nat.le_of_ble_eq_true rfl) (mC.mono (mm_contV (fun G8 hK => ?_)) h)
      replace h := hK
      refine mV_goto (off := -21) (tgt := 66) (by decide +kernel) (by decide) ?_
      exact h
set_option maxRecDepth 100000 in
set_option maxHeartbeats 4000000 in
theorem p_X13_tellRow_106 {l : Launch} {κ : mm_K} {d : Nat} {G : mm_G} {K : mm_G → Prop} (v1 : Int32) (v2 : Int32) (v3 : Int32) (h : vp_in (((nI 4) * (mg_i G 226 19)) + v1) 20 ∧ (((mg_i G 236 ((((nI 4) * (mg_i G 226 19)) + v1).toNatClampNeg)) ≤ v3 → vp_in v2 403 ∧ vp_in (((nI 4) * (mg_i G 226 19)) + v1) 20 ∧ vp_in (mg_i G 226 19) 5 ∧ vp_in (mg_i G 226 19) 5 ∧ K (ms_i (ms_l G 235 ((((nI 4) * (mg_i G 226 19)) + v1).toNatClampNeg) (mg_l G 232 v2.toNatClampNeg)) 234 ((mg_i G 226 19).toNatClampNeg) ((mg_i G 234 ((mg_i G 226 19).toNatClampNeg)) + (nI 1)))) ∧ (¬ (mg_i G 236 ((((nI 4) * (mg_i G 226 19)) + v1).toNatClampNeg)) ≤ v3 → vp_in v3 16 ∧ (((mg_i G 248 v3.toNatClampNeg) = (-1) → mV l κ true (d + 7) 0 0 m_X13_tellRow 106 [some (.ref 226), some (.int v1), some (.int v2), some (.int (v3 + (nI 1))), none] [] G (rV K)) ∧ (¬ (mg_i G 248 v3.toNatClampNeg) = (-1) → vp_in ((((nI 64) * (mg_i G 226 19)) + ((nI 16) * v1)) + v3) 320 ∧ mC l κ true (d + 6) 0 0 m_X13_firstWith [.ref 226, .int (mg_i G 226 19), .int v1, .long (mg_l G 247 (((((nI 64) * (mg_i G 226 19)) + ((nI 16) * v1)) + v3).toNatClampNeg))] G (rI (fun r1 G2 => ((¬ r1 = (-1) → mV l κ true (d + 7) 0 0 m_X13_tellRow 106 [some (.ref 226), some (.int v1), some (.int v2), some (.int (v3 + (nI 1))), none] [] G2 (rV K)) ∧ (r1 = (-1) → vp_in v3 16 ∧ mC l κ true (d + 6) 0 0 m_X13_wrong [.ref 226, .int (nI 4), .int (mg_i G2 248 v3.toNatClampNeg)] G2 (rV (fun G4 => mV l κ true (d + 7) 0 0 m_X13_tellRow 106 [some (.ref 226), some (.int v1), some (.int v2), some (.int (v3 + (nI 1))), none] [] G4 (rV K)))))))))))) : mV l κ true (d + 7) 0 0 m_X13_tellRow 106 [some (.ref 226), some (.int v1), some (.int v2), some (.int v3), none] [] G (rV K) := by
  refine mV_iload_n (k := 3) (by decide +kernel) rfl ?_
  refine mV_aload_n (k := 0) (by decide +kernel) rfl ?_
  refine mV_gfr (r := some 236) (by decide +kernel) fk_13_46 sh_226 (mm_rrs st_226_22) rfl ?_
  refine mV_iconst (n := 4) (v := nI 4) (by decide +kernel) (by decide) ?_
  refine mV_aload_n (k := 0) (by decide +kernel) rfl ?_
  refine mV_gfix (x := mg_i G 226 19) (by decide +kernel) fk_13_269 sh_226 rfl ?_
  refine mV_imul (by decide +kernel) ?_
  refine mV_iload_n (k := 1) (by decide +kernel) rfl ?_
  refine mV_iadd (by decide +kernel) ?_
  refine mV_ialx (x := mg_i G 236 ((((nI 4) * (mg_i G 226 19)) + v1).toNatClampNeg)) (by decide +kernel) sh_236 h.1 rfl ?_
  replace h := h.2
  refine mV_icmp_ge (off := 66) (tgt := 186) (by decide +kernel) (by decide) (fun hc => ?_) (fun hc => ?_)
  · replace h := h.1 hc
    refine mV_aload_n (k := 0) (by decide +kernel) rfl ?_
    refine mV_gfr (r := some 235) (by decide +kernel) fk_13_43 sh_226 (mm_rrs st_226_21) rfl ?_
    refine mV_iconst (n := 4) (v := nI 4) (by decide +kernel) (by decide) ?_
    refine mV_aload_n (k := 0) (by decide +kernel) rfl ?_
    refine mV_gfix (x := mg_i G 226 19) (by decide +kernel) fk_13_269 sh_226 rfl ?_
    refine mV_imul (by decide +kernel) ?_
    refine mV_iload_n (k := 1) (by decide +kernel) rfl ?_
    refine mV_iadd (by decide +kernel) ?_
    refine mV_aload_n (k := 0) (by decide +kernel) rfl ?_
    refine mV_gfr (r := some 232) (by decide +kernel) fk_13_30 sh_226 (mm_rrs st_226_8) rfl ?_
    refine mV_iload_n (k := 2) (by decide +kernel) rfl ?_
    refine mV_lalx (x := mg_l G 232 v2.toNatClampNeg) (by decide +kernel) sh_232 h.1 rfl ?_
    replace h := h.2
    refine mV_las (by decide +kernel) sh_235 h.1 ?_
    replace h := h.2
    refine mV_aload_n (k := 0) (by decide +kernel) rfl ?_
    refine mV_gfr (r := some 234) (by decide +kernel) fk_13_40 sh_226 (mm_rrs st_226_20) rfl ?_
    refine mV_aload_n (k := 0) (by decide +kernel) rfl ?_
    refine mV_gfix (x := mg_i G 226 19) (by decide +kernel) fk_13_269 sh_226 rfl ?_
    refine mV_dup2 (by decide +kernel) rfl rfl ?_
    refine mV_ialx (x := mg_i G 234 ((mg_i G 226 19).toNatClampNeg)) (by decide +kernel) sh_234 h.1 rfl ?_
    replace h := h.2
    refine mV_iconst (n := 1) (v := nI 1) (by decide +kernel) (by decide) ?_
    refine mV_iadd (by decide +kernel) ?_
    refine mV_ias (by decide +kernel) sh_234 h.1 ?_
    replace h := h.2
    exact mV_vret (by decide +kernel) rfl h
  · replace h := h.2 hc
    refine mV_bipush (n := 64) (v := nI 64) (by decide +kernel) (by decide) ?_
    refine mV_aload_n (k := 0) (by decide +kernel) rfl ?_
    refine mV_gfix (x := mg_i G 226 19) (by decide +kernel) fk_13_269 sh_226 rfl ?_
    refine mV_imul (by decide +kernel) ?_
    refine mV_bipush (n := 16) (v := nI 16) (by decide +kernel) (by decide) ?_
    refine mV_iload_n (k := 1) (by decide +kernel) rfl ?_
    refine mV_imul (by decide +kernel) ?_
    refine mV_iadd (by decide +kernel) ?_
    refine mV_iload_n (k := 3) (by decide +kernel) rfl ?_
    refine mV_iadd (by decide +kernel) ?_
    refine mV_istore (i := 4) (ls' := [some (.ref 226), some (.int v1), some (.int v2), some (.int v3), some (.int ((((nI 64) * (mg_i G 226 19)) + ((nI 16) * v1)) + v3))]) (by decide +kernel) (Nat.le_of_ble_eq_true rfl) rfl rfl ?_
    refine mV_aload_n (k := 0) (by decide +kernel) rfl ?_
    refine mV_gfr (r := some 248) (by decide +kernel) fk_13_82 sh_226 (mm_rrs st_226_34) rfl ?_
    refine mV_iload_n (k := 3) (by decide +kernel) rfl ?_
    refine mV_ialx (x := mg_i G 248 v3.toNatClampNeg) (by decide +kernel) sh_248 h.1 rfl ?_
    replace h := h.2
    refine mV_iconst (n := -1) (v := (-1)) (by decide +kernel) (by decide) ?_
    refine mV_icmp_eq (off := 34) (tgt := 180) (by decide +kernel) (by decide) (fun hc => ?_) (fun hc => ?_)
    · replace h := h.1 hc
      refine mV_iincc (i := 3) (n := 1) (c := nI 1) (ls' := [some (.ref 226), some (.int v1), some (.int v2), some (.int (v3 + (nI 1))), some (.int ((((nI 64) * (mg_i G 226 19)) + ((nI 16) * v1)) + v3))]) (by decide +kernel) (by decide) rfl (Nat.le_of_ble_eq_true rfl) rfl rfl ?_
      refine mV_goto (off := -77) (tgt := 106) (by decide +kernel) (by decide) ?_
      refine mV_fg [4] (ls' := [some (.ref 226), some (.int v1), some (.int v2), some (.int (v3 + (nI 1))), none]) rfl ?_
      exact h
    · replace h := h.2 hc
      refine mV_aload_n (k := 0) (by decide +kernel) rfl ?_
      refine mV_aload_n (k := 0) (by decide +kernel) rfl ?_
      refine mV_gfix (x := mg_i G 226 19) (by decide +kernel) fk_13_269 sh_226 rfl ?_
      refine mV_iload_n (k := 1) (by decide +kernel) rfl ?_
      refine mV_aload_n (k := 0) (by decide +kernel) rfl ?_
      refine mV_gfr (r := some 247) (by decide +kernel) fk_13_79 sh_226 (mm_rrs st_226_33) rfl ?_
      refine mV_iload (i := 4) (by decide +kernel) rfl ?_
      refine mV_lalx (x := mg_l G 247 (((((nI 64) * (mg_i G 226 19)) + ((nI 16) * v1)) + v3).toNatClampNeg)) (by decide +kernel) sh_247 h.1 rfl ?_
      replace h := h.2
      refine mV_cV (as := [.int (mg_i G 226 19), .int v1, .long (mg_l G 247 (((((nI 64) * (mg_i G 226 19)) + ((nI 16) * v1)) + v3).toNatClampNeg))]) (rest := []) (mc1 := 0) (ms1 := 0) (mc := 0) (ms := 0) (by decide +kernel) md_X13_firstWith lk_13_300 sh_226 rfl rfl rfl (Nat.le_of_ble_eq_true rfl) (mC.mono (mm_contI (fun r1 G2 hK => ?_)) h)
      replace h := hK
      refine mV_iconst (n := -1) (v := (-1)) (by decide +kernel) (by decide) ?_
      refine mV_icmp_ne (off := 14) (tgt := 180) (by decide +kernel) (by decide) (fun hc => ?_) (fun hc => ?_)
      · replace h := h.1 hc
        refine mV_iincc (i := 3) (n := 1) (c := nI 1) (ls' := [some (.ref 226), some (.int v1), some (.int v2), some (.int (v3 + (nI 1))), some (.int ((((nI 64) * (mg_i G 226 19)) + ((nI 16) * v1)) + v3))]) (by decide +kernel) (by decide) rfl (Nat.le_of_ble_eq_true rfl) rfl rfl ?_
        refine mV_goto (off := -77) (tgt := 106) (by decide +kernel) (by decide) ?_
        refine mV_fg [4] (ls' := [some (.ref 226), some (.int v1), some (.int v2), some (.int (v3 + (nI 1))), none]) rfl ?_
        exact h
      · replace h := h.2 hc
        refine mV_aload_n (k := 0) (by decide +kernel) rfl ?_
        refine mV_iconst (n := 4) (v := nI 4) (by decide +kernel) (by decide) ?_
        refine mV_aload_n (k := 0) (by decide +kernel) rfl ?_
        refine mV_gfr (r := some 248) (by decide +kernel) fk_13_82 sh_226 (mm_rrs st_226_34) rfl ?_
        refine mV_iload_n (k := 3) (by decide +kernel) rfl ?_
        refine mV_ialx (x := mg_i G2 248 v3.toNatClampNeg) (by decide +kernel) sh_248 h.1 rfl ?_
        replace h := h.2
        refine mV_cV (as := [.int (nI 4), .int (mg_i G2 248 v3.toNatClampNeg)]) (rest := []) (mc1 := 0) (ms1 := 0) (mc := 0) (ms := 0) (by decide +kernel) md_X13_wrong lk_13_291 sh_226 rfl rfl rfl (Nat.le_of_ble_eq_true rfl) (mC.mono (mm_contV (fun G4 hK => ?_)) h)
        replace h := hK
        refine mV_iincc (i := 3) (n := 1) (c := nI 1) (ls' := [some (.ref 226), some (.int v1), some (.int v2), some (.int (v3 + (nI 1))), some (.int ((((nI 64) * (mg_i G 226 19)) + ((nI 16) * v1)) + v3))]) (by decide +kernel) (by decide) rfl (Nat.le_of_ble_eq_true rfl) rfl rfl ?_
        refine mV_goto (off := -77) (tgt := 106) (by decide +kernel) (by decide) ?_
        refine mV_fg [4] (ls' := [some (.ref 226), some (.int v1), some (.int v2), some (.int (v3 + (nI 1))), none]) rfl ?_
        exact h
set_option maxRecDepth 100000 in
set_option maxHeartbeats 4000000 in
theorem e_X13_firstWith {l : Launch} {κ : mm_K} {d : Nat} {G : mm_G} {K : Int32 → mm_G → Prop} (a1 : Int32) (a2 : Int32) (a3 : Int64) (h : mV l κ true d 0 0 m_X13_firstWith 3 [some (.ref 226), some (.int a1), some (.int a2), some (.long a3), none, some (.int (nI 0))] [] G (rI K)) : mC l κ true d 0 0 m_X13_firstWith [.ref 226, .int a1, .int a2, .long a3] G (rI K) := by
  refine mC.of (by decide) (Nat.le_of_ble_eq_true rfl) [some (.ref 226), some (.int a1), some (.int a2), some (.long a3), none, none] rfl ?_
  refine mV_iconst (n := 0) (v := nI 0) (by decide +kernel) (by decide) ?_
  refine mV_istore (i := 5) (ls' := [some (.ref 226), some (.int a1), some (.int a2), some (.long a3), none, some (.int (nI 0))]) (by decide +kernel) (Nat.le_of_ble_eq_true rfl) rfl rfl ?_
  exact h
set_option maxRecDepth 100000 in
set_option maxHeartbeats 4000000 in
theorem p_X13_firstWith_3 {l : Launch} {κ : mm_K} {d : Nat} {G : mm_G} {K : Int32 → mm_G → Prop} (v1 : Int32) (v2 : Int32) (v3 : Int64) (v5 : Int32) (h : vp_in (((nI 4) * v1) + v2) 20 ∧ (((mg_i G 236 ((((nI 4) * v1) + v2).toNatClampNeg)) ≤ v5 → K (-1) G) ∧ (¬ (mg_i G 236 ((((nI 4) * v1) + v2).toNatClampNeg)) ≤ v5 → vp_in ((((nI 64) * v1) + ((nI 16) * v2)) + v5) 320 ∧ ((¬ (lg_cmp (mg_l G 246 (((((nI 64) * v1) + ((nI 16) * v2)) + v5).toNatClampNeg)) v3) = 0 → mV l κ true d 0 0 m_X13_firstWith 3 [some (.ref 226), some (.int v1), some (.int v2), some (.long v3), none, some (.int (v5 + (nI 1)))] [] G (rI K)) ∧ ((lg_cmp (mg_l G 246 (((((nI 64) * v1) + ((nI 16) * v2)) + v5).toNatClampNeg)) v3) = 0 → K v5 G))))) : mV l κ true d 0 0 m_X13_firstWith 3 [some (.ref 226), some (.int v1), some (.int v2), some (.long v3), none, some (.int v5)] [] G (rI K) := by
  refine mV_iload (i := 5) (by decide +kernel) rfl ?_
  refine mV_aload_n (k := 0) (by decide +kernel) rfl ?_
  refine mV_gfr (r := some 236) (by decide +kernel) fk_13_46 sh_226 (mm_rrs st_226_22) rfl ?_
  refine mV_iconst (n := 4) (v := nI 4) (by decide +kernel) (by decide) ?_
  refine mV_iload_n (k := 1) (by decide +kernel) rfl ?_
  refine mV_imul (by decide +kernel) ?_
  refine mV_iload_n (k := 2) (by decide +kernel) rfl ?_
  refine mV_iadd (by decide +kernel) ?_
  refine mV_ialx (x := mg_i G 236 ((((nI 4) * v1) + v2).toNatClampNeg)) (by decide +kernel) sh_236 h.1 rfl ?_
  replace h := h.2
  refine mV_icmp_ge (off := 34) (tgt := 49) (by decide +kernel) (by decide) (fun hc => ?_) (fun hc => ?_)
  · replace h := h.1 hc
    refine mV_iconst (n := -1) (v := (-1)) (by decide +kernel) (by decide) ?_
    exact mV_iret (by decide +kernel) rfl h
  · replace h := h.2 hc
    refine mV_aload_n (k := 0) (by decide +kernel) rfl ?_
    refine mV_gfr (r := some 246) (by decide +kernel) fk_13_76 sh_226 (mm_rrs st_226_32) rfl ?_
    refine mV_bipush (n := 64) (v := nI 64) (by decide +kernel) (by decide) ?_
    refine mV_iload_n (k := 1) (by decide +kernel) rfl ?_
    refine mV_imul (by decide +kernel) ?_
    refine mV_bipush (n := 16) (v := nI 16) (by decide +kernel) (by decide) ?_
    refine mV_iload_n (k := 2) (by decide +kernel) rfl ?_
    refine mV_imul (by decide +kernel) ?_
    refine mV_iadd (by decide +kernel) ?_
    refine mV_iload (i := 5) (by decide +kernel) rfl ?_
    refine mV_iadd (by decide +kernel) ?_
    refine mV_lalx (x := mg_l G 246 (((((nI 64) * v1) + ((nI 16) * v2)) + v5).toNatClampNeg)) (by decide +kernel) sh_246 h.1 rfl ?_
    replace h := h.2
    refine mV_lload_n (k := 3) (by decide +kernel) rfl ?_
    refine mV_lcmp (by decide +kernel) ?_
    refine mV_if_ne (off := 6) (tgt := 43) (by decide +kernel) (by decide) (fun hc => ?_) (fun hc => ?_)
    · replace h := h.1 hc
      refine mV_iincc (i := 5) (n := 1) (c := nI 1) (ls' := [some (.ref 226), some (.int v1), some (.int v2), some (.long v3), none, some (.int (v5 + (nI 1)))]) (by decide +kernel) (by decide) rfl (Nat.le_of_ble_eq_true rfl) rfl rfl ?_
      refine mV_goto (off := -43) (tgt := 3) (by decide +kernel) (by decide) ?_
      exact h
    · replace h := h.2 hc
      refine mV_iload (i := 5) (by decide +kernel) rfl ?_
      exact mV_iret (by decide +kernel) rfl h
set_option maxRecDepth 100000 in
set_option maxHeartbeats 4000000 in
theorem e_X13_tellLine {l : Launch} {κ : mm_K} {d : Nat} {G : mm_G} {K : mm_G → Prop} (a1 : Int32) (h : vp_in (((nI 4) * (mg_i G 226 19)) + a1) 20 ∧ ((¬ (mg_i G 236 ((((nI 4) * (mg_i G 226 19)) + a1).toNatClampNeg)) = (nI 16) → mV l κ true (d + 6) 0 0 m_X13_tellLine 65 [some (.ref 226), some (.int a1), some (.int (mg_i G 236 ((((nI 4) * (mg_i G 226 19)) + a1).toNatClampNeg))), none, none] [] G (rV K)) ∧ ((mg_i G 236 ((((nI 4) * (mg_i G 226 19)) + a1).toNatClampNeg)) = (nI 16) → mC l κ true (d + 5) 0 0 m_X13_is [.ref 226, .int (nI 1)] G (rI (fun r1 G2 => ((¬ r1 = 0 → mC l κ true (d + 5) 0 0 m_X13_fail [.ref 226, .int (nI 2)] G2 (rV (fun G4 => mV l κ true (d + 6) 0 0 m_X13_tellLine 65 [some (.ref 226), some (.int a1), some (.int (mg_i G 236 ((((nI 4) * (mg_i G 226 19)) + a1).toNatClampNeg))), none, none] [] G4 (rV K)))) ∧ (r1 = 0 → vp_in (mg_i G2 226 11) 403 ∧ (((mg_i G2 229 ((mg_i G2 226 11).toNatClampNeg)) < (nI 24) → mC l κ true (d + 5) 0 0 m_X13_fail [.ref 226, .int (nI 1)] G2 (rV (fun G6 => mV l κ true (d + 6) 0 0 m_X13_tellLine 65 [some (.ref 226), some (.int a1), some (.int (mg_i G 236 ((((nI 4) * (mg_i G 226 19)) + a1).toNatClampNeg))), none, none] [] G6 (rV K)))) ∧ (¬ (mg_i G2 229 ((mg_i G2 226 11).toNatClampNeg)) < (nI 24) → vp_in (mg_i G2 226 11) 403 ∧ (((nI 34) < (mg_i G2 229 ((mg_i G2 226 11).toNatClampNeg)) → mC l κ true (d + 5) 0 0 m_X13_fail [.ref 226, .int (nI 1)] G2 (rV (fun G8 => mV l κ true (d + 6) 0 0 m_X13_tellLine 65 [some (.ref 226), some (.int a1), some (.int (mg_i G 236 ((((nI 4) * (mg_i G 226 19)) + a1).toNatClampNeg))), none, none] [] G8 (rV K)))) ∧ (¬ (nI 34) < (mg_i G2 229 ((mg_i G2 226 11).toNatClampNeg)) → mC l κ true (d + 5) 0 0 m_X13_fail [.ref 226, .int (nI 2)] G2 (rV (fun G10 => mV l κ true (d + 6) 0 0 m_X13_tellLine 65 [some (.ref 226), some (.int a1), some (.int (mg_i G 236 ((((nI 4) * (mg_i G 226 19)) + a1).toNatClampNeg))), none, none] [] G10 (rV K)))))))))))))) : mC l κ true (d + 6) 0 0 m_X13_tellLine [.ref 226, .int a1] G (rV K) := by
  refine mC.of (by decide) (Nat.le_of_ble_eq_true rfl) [some (.ref 226), some (.int a1), none, none, none] rfl ?_
  refine mV_aload_n (k := 0) (by decide +kernel) rfl ?_
  refine mV_gfr (r := some 236) (by decide +kernel) fk_13_46 sh_226 (mm_rrs st_226_22) rfl ?_
  refine mV_iconst (n := 4) (v := nI 4) (by decide +kernel) (by decide) ?_
  refine mV_aload_n (k := 0) (by decide +kernel) rfl ?_
  refine mV_gfix (x := mg_i G 226 19) (by decide +kernel) fk_13_269 sh_226 rfl ?_
  refine mV_imul (by decide +kernel) ?_
  refine mV_iload_n (k := 1) (by decide +kernel) rfl ?_
  refine mV_iadd (by decide +kernel) ?_
  refine mV_ialx (x := mg_i G 236 ((((nI 4) * (mg_i G 226 19)) + a1).toNatClampNeg)) (by decide +kernel) sh_236 h.1 rfl ?_
  replace h := h.2
  refine mV_istore_n (k := 2) (ls' := [some (.ref 226), some (.int a1), some (.int (mg_i G 236 ((((nI 4) * (mg_i G 226 19)) + a1).toNatClampNeg))), none, none]) (by decide +kernel) (Nat.le_of_ble_eq_true rfl) rfl rfl ?_
  refine mV_iload_n (k := 2) (by decide +kernel) rfl ?_
  refine mV_bipush (n := 16) (v := nI 16) (by decide +kernel) (by decide) ?_
  refine mV_icmp_ne (off := 48) (tgt := 65) (by decide +kernel) (by decide) (fun hc => ?_) (fun hc => ?_)
  · replace h := h.1 hc
    exact h
  · replace h := h.2 hc
    refine mV_aload_n (k := 0) (by decide +kernel) rfl ?_
    refine mV_aload_n (k := 0) (by decide +kernel) rfl ?_
    refine mV_iconst (n := 1) (v := nI 1) (by decide +kernel) (by decide) ?_
    refine mV_cV (as := [.int (nI 1)]) (rest := [.ref 226]) (mc1 := 0) (ms1 := 0) (mc := 0) (ms := 0) (by decide +kernel) md_X13_is lk_13_254 sh_226 rfl rfl rfl (Nat.le_of_ble_eq_true rfl) (mC.mono (mm_contI (fun r1 G2 hK => ?_)) h)
    replace h := hK
    refine mV_if_ne (off := 31) (tgt := 57) (by decide +kernel) (by decide) (fun hc => ?_) (fun hc => ?_)
    · replace h := h.1 hc
      refine mV_iconst (n := 2) (v := nI 2) (by decide +kernel) (by decide) ?_
      refine mV_goto (off := 4) (tgt := 62) (by decide +kernel) (by decide) ?_
      refine mV_cV (as := [.int (nI 2)]) (rest := []) (mc1 := 0) (ms1 := 0) (mc := 0) (ms := 0) (by decide +kernel) md_X13_fail lk_13_251 sh_226 rfl rfl rfl (Nat.le_of_ble_eq_true rfl) (mC.mono (mm_contV (fun G4 hK => ?_)) h)
      replace h := hK
      exact h
    · replace h := h.2 hc
      refine mV_aload_n (k := 0) (by decide +kernel) rfl ?_
      refine mV_gfr (r := some 229) (by decide +kernel) fk_13_20 sh_226 (mm_rrs st_226_5) rfl ?_
      refine mV_aload_n (k := 0) (by decide +kernel) rfl ?_
      refine mV_gfix (x := mg_i G2 226 11) (by decide +kernel) fk_13_239 sh_226 rfl ?_
      refine mV_ialx (x := mg_i G2 229 ((mg_i G2 226 11).toNatClampNeg)) (by decide +kernel) sh_229 h.1 rfl ?_
      replace h := h.2
      refine mV_bipush (n := 24) (v := nI 24) (by decide +kernel) (by decide) ?_
      refine mV_icmp_lt (off := 21) (tgt := 61) (by decide +kernel) (by decide) (fun hc => ?_) (fun hc => ?_)
      · replace h := h.1 hc
        refine mV_iconst (n := 1) (v := nI 1) (by decide +kernel) (by decide) ?_
        refine mV_cV (as := [.int (nI 1)]) (rest := []) (mc1 := 0) (ms1 := 0) (mc := 0) (ms := 0) (by decide +kernel) md_X13_fail lk_13_251 sh_226 rfl rfl rfl (Nat.le_of_ble_eq_true rfl) (mC.mono (mm_contV (fun G6 hK => ?_)) h)
        replace h := hK
        exact h
      · replace h := h.2 hc
        refine mV_aload_n (k := 0) (by decide +kernel) rfl ?_
        refine mV_gfr (r := some 229) (by decide +kernel) fk_13_20 sh_226 (mm_rrs st_226_5) rfl ?_
        refine mV_aload_n (k := 0) (by decide +kernel) rfl ?_
        refine mV_gfix (x := mg_i G2 226 11) (by decide +kernel) fk_13_239 sh_226 rfl ?_
        refine mV_ialx (x := mg_i G2 229 ((mg_i G2 226 11).toNatClampNeg)) (by decide +kernel) sh_229 h.1 rfl ?_
        replace h := h.2
        refine mV_bipush (n := 34) (v := nI 34) (by decide +kernel) (by decide) ?_
        refine mV_icmp_gt (off := 7) (tgt := 61) (by decide +kernel) (by decide) (fun hc => ?_) (fun hc => ?_)
        · replace h := h.1 hc
          refine mV_iconst (n := 1) (v := nI 1) (by decide +kernel) (by decide) ?_
          refine mV_cV (as := [.int (nI 1)]) (rest := []) (mc1 := 0) (ms1 := 0) (mc := 0) (ms := 0) (by decide +kernel) md_X13_fail lk_13_251 sh_226 rfl rfl rfl (Nat.le_of_ble_eq_true rfl) (mC.mono (mm_contV (fun G8 hK => ?_)) h)
          replace h := hK
          exact h
        · replace h := h.2 hc
          refine mV_iconst (n := 2) (v := nI 2) (by decide +kernel) (by decide) ?_
          refine mV_goto (off := 4) (tgt := 62) (by decide +kernel) (by decide) ?_
          refine mV_cV (as := [.int (nI 2)]) (rest := []) (mc1 := 0) (ms1 := 0) (mc := 0) (ms := 0) (by decide +kernel) md_X13_fail lk_13_251 sh_226 rfl rfl rfl (Nat.le_of_ble_eq_true rfl) (mC.mono (mm_contV (fun G10 hK => ?_)) h)
          replace h := hK
          exact h
set_option maxRecDepth 100000 in
set_option maxHeartbeats 4000000 in
theorem p_X13_tellLine_65 {l : Launch} {κ : mm_K} {d : Nat} {G : mm_G} {K : mm_G → Prop} (v1 : Int32) (v2 : Int32) (h : (((mg_i G 226 13) ≤ 0 → vp_in ((((nI 64) * (mg_i G 226 19)) + ((nI 16) * v1)) + v2) 320 ∧ vp_in ((((nI 64) * (mg_i G 226 19)) + ((nI 16) * v1)) + v2) 320 ∧ vp_in v2 16 ∧ vp_in ((((nI 64) * (mg_i G 226 19)) + ((nI 16) * v1)) + v2) 320 ∧ vp_in ((((nI 64) * (mg_i G 226 19)) + ((nI 16) * v1)) + v2) 320 ∧ vp_in ((((nI 64) * (mg_i G 226 19)) + ((nI 16) * v1)) + v2) 320 ∧ vp_in ((((nI 64) * (mg_i G 226 19)) + ((nI 16) * v1)) + v2) 320 ∧ vp_in ((((nI 64) * (mg_i G 226 19)) + ((nI 16) * v1)) + v2) 320 ∧ mC l κ true (d + 5) 0 0 m_X13_is [.ref 226, .int (nI 1)] (ms_i (ms_i (ms_i (ms_i (ms_i (ms_i (ms_l (ms_l G 246 (((((nI 64) * (mg_i G 226 19)) + ((nI 16) * v1)) + v2).toNatClampNeg) (lN 0)) 247 (((((nI 64) * (mg_i G 226 19)) + ((nI 16) * v1)) + v2).toNatClampNeg) (lN 0)) 248 v2.toNatClampNeg (-1)) 239 (((((nI 64) * (mg_i G 226 19)) + ((nI 16) * v1)) + v2).toNatClampNeg) (nI 0)) 240 (((((nI 64) * (mg_i G 226 19)) + ((nI 16) * v1)) + v2).toNatClampNeg) (nI 0)) 241 (((((nI 64) * (mg_i G 226 19)) + ((nI 16) * v1)) + v2).toNatClampNeg) (nI 0)) 242 (((((nI 64) * (mg_i G 226 19)) + ((nI 16) * v1)) + v2).toNatClampNeg) (nI 0)) 244 (((((nI 64) * (mg_i G 226 19)) + ((nI 16) * v1)) + v2).toNatClampNeg) (-1)) (rI (fun r1 G2 => ((r1 = 0 → mV l κ true (d + 6) 0 0 m_X13_tellLine 183 [some (.ref 226), some (.int v1), some (.int v2), some (.int ((((nI 64) * (mg_i G 226 19)) + ((nI 16) * v1)) + v2)), some (.int (mg_i G 226 11))] [] G2 (rV K)) ∧ (¬ r1 = 0 → vp_in (mg_i G2 226 11) 403 ∧ vp_in ((((nI 64) * (mg_i G 226 19)) + ((nI 16) * v1)) + v2) 320 ∧ mC l κ true (d + 5) 0 0 m_X13_goesOn [.ref 226] (ms_l G2 246 (((((nI 64) * (mg_i G 226 19)) + ((nI 16) * v1)) + v2).toNatClampNeg) (mg_l G2 232 ((mg_i G2 226 11).toNatClampNeg))) (rV (fun G4 => mC l κ true (d + 5) 0 0 m_X13_must [.ref 226, .int (nI 6)] G4 (rV (fun G6 => mV l κ true (d + 6) 0 0 m_X13_tellLine 183 [some (.ref 226), some (.int v1), some (.int v2), some (.int ((((nI 64) * (mg_i G 226 19)) + ((nI 16) * v1)) + v2)), some (.int (mg_i G 226 11))] [] G6 (rV K)))))))))) ∧ (¬ (mg_i G 226 13) ≤ 0 → K G))) : mV l κ true (d + 6) 0 0 m_X13_tellLine 65 [some (.ref 226), some (.int v1), some (.int v2), none, none] [] G (rV K) := by
  refine mV_aload_n (k := 0) (by decide +kernel) rfl ?_
  refine mV_gfix (x := mg_i G 226 13) (by decide +kernel) fk_13_236 sh_226 rfl ?_
  refine mV_if_le (off := 4) (tgt := 73) (by decide +kernel) (by decide) (fun hc => ?_) (fun hc => ?_)
  · replace h := h.1 hc
    refine mV_bipush (n := 64) (v := nI 64) (by decide +kernel) (by decide) ?_
    refine mV_aload_n (k := 0) (by decide +kernel) rfl ?_
    refine mV_gfix (x := mg_i G 226 19) (by decide +kernel) fk_13_269 sh_226 rfl ?_
    refine mV_imul (by decide +kernel) ?_
    refine mV_bipush (n := 16) (v := nI 16) (by decide +kernel) (by decide) ?_
    refine mV_iload_n (k := 1) (by decide +kernel) rfl ?_
    refine mV_imul (by decide +kernel) ?_
    refine mV_iadd (by decide +kernel) ?_
    refine mV_iload_n (k := 2) (by decide +kernel) rfl ?_
    refine mV_iadd (by decide +kernel) ?_
    refine mV_istore_n (k := 3) (ls' := [some (.ref 226), some (.int v1), some (.int v2), some (.int ((((nI 64) * (mg_i G 226 19)) + ((nI 16) * v1)) + v2)), none]) (by decide +kernel) (Nat.le_of_ble_eq_true rfl) rfl rfl ?_
    refine mV_aload_n (k := 0) (by decide +kernel) rfl ?_
    refine mV_gfix (x := mg_i G 226 11) (by decide +kernel) fk_13_239 sh_226 rfl ?_
    refine mV_istore (i := 4) (ls' := [some (.ref 226), some (.int v1), some (.int v2), some (.int ((((nI 64) * (mg_i G 226 19)) + ((nI 16) * v1)) + v2)), some (.int (mg_i G 226 11))]) (by decide +kernel) (Nat.le_of_ble_eq_true rfl) rfl rfl ?_
    refine mV_aload_n (k := 0) (by decide +kernel) rfl ?_
    refine mV_gfr (r := some 246) (by decide +kernel) fk_13_76 sh_226 (mm_rrs st_226_32) rfl ?_
    refine mV_iload_n (k := 3) (by decide +kernel) rfl ?_
    refine mV_lconst (n := 0) (v := lN 0) (by decide +kernel) (by decide) ?_
    refine mV_las (by decide +kernel) sh_246 h.1 ?_
    replace h := h.2
    refine mV_aload_n (k := 0) (by decide +kernel) rfl ?_
    refine mV_gfr (r := some 247) (by decide +kernel) fk_13_79 sh_226 (mm_rrs st_226_33) rfl ?_
    refine mV_iload_n (k := 3) (by decide +kernel) rfl ?_
    refine mV_lconst (n := 0) (v := lN 0) (by decide +kernel) (by decide) ?_
    refine mV_las (by decide +kernel) sh_247 h.1 ?_
    replace h := h.2
    refine mV_aload_n (k := 0) (by decide +kernel) rfl ?_
    refine mV_gfr (r := some 248) (by decide +kernel) fk_13_82 sh_226 (mm_rrs st_226_34) rfl ?_
    refine mV_iload_n (k := 2) (by decide +kernel) rfl ?_
    refine mV_iconst (n := -1) (v := (-1)) (by decide +kernel) (by decide) ?_
    refine mV_ias (by decide +kernel) sh_248 h.1 ?_
    replace h := h.2
    refine mV_aload_n (k := 0) (by decide +kernel) rfl ?_
    refine mV_gfr (r := some 239) (by decide +kernel) fk_13_55 sh_226 (mm_rrs st_226_25) rfl ?_
    refine mV_iload_n (k := 3) (by decide +kernel) rfl ?_
    refine mV_iconst (n := 0) (v := nI 0) (by decide +kernel) (by decide) ?_
    refine mV_ias (by decide +kernel) sh_239 h.1 ?_
    replace h := h.2
    refine mV_aload_n (k := 0) (by decide +kernel) rfl ?_
    refine mV_gfr (r := some 240) (by decide +kernel) fk_13_58 sh_226 (mm_rrs st_226_26) rfl ?_
    refine mV_iload_n (k := 3) (by decide +kernel) rfl ?_
    refine mV_iconst (n := 0) (v := nI 0) (by decide +kernel) (by decide) ?_
    refine mV_ias (by decide +kernel) sh_240 h.1 ?_
    replace h := h.2
    refine mV_aload_n (k := 0) (by decide +kernel) rfl ?_
    refine mV_gfr (r := some 241) (by decide +kernel) fk_13_61 sh_226 (mm_rrs st_226_27) rfl ?_
    refine mV_iload_n (k := 3) (by decide +kernel) rfl ?_
    refine mV_iconst (n := 0) (v := nI 0) (by decide +kernel) (by decide) ?_
    refine mV_ias (by decide +kernel) sh_241 h.1 ?_
    replace h := h.2
    refine mV_aload_n (k := 0) (by decide +kernel) rfl ?_
    refine mV_gfr (r := some 242) (by decide +kernel) fk_13_64 sh_226 (mm_rrs st_226_28) rfl ?_
    refine mV_iload_n (k := 3) (by decide +kernel) rfl ?_
    refine mV_iconst (n := 0) (v := nI 0) (by decide +kernel) (by decide) ?_
    refine mV_ias (by decide +kernel) sh_242 h.1 ?_
    replace h := h.2
    refine mV_aload_n (k := 0) (by decide +kernel) rfl ?_
    refine mV_gfr (r := some 244) (by decide +kernel) fk_13_70 sh_226 (mm_rrs st_226_30) rfl ?_
    refine mV_iload_n (k := 3) (by decide +kernel) rfl ?_
    refine mV_iconst (n := -1) (v := (-1)) (by decide +kernel) (by decide) ?_
    refine mV_ias (by decide +kernel) sh_244 h.1 ?_
    replace h := h.2
    refine mV_aload_n (k := 0) (by decide +kernel) rfl ?_
    refine mV_iconst (n := 1) (v := nI 1) (by decide +kernel) (by decide) ?_
    refine mV_cV (as := [.int (nI 1)]) (rest := []) (mc1 := 0) (ms1 := 0) (mc := 0) (ms := 0) (by decide +kernel) md_X13_is lk_13_254 sh_226 rfl rfl rfl (Nat.le_of_ble_eq_true rfl) (mC.mono (mm_contI (fun r1 G2 hK => ?_)) h)
    replace h := hK
    refine mV_if_eq (off := 28) (tgt := 183) (by decide +kernel) (by decide) (fun hc => ?_) (fun hc => ?_)
    · replace h := h.1 hc
      exact h
    · replace h := h.2 hc
      refine mV_aload_n (k := 0) (by decide +kernel) rfl ?_
      refine mV_gfr (r := some 246) (by decide +kernel) fk_13_76 sh_226 (mm_rrs st_226_32) rfl ?_
      refine mV_iload_n (k := 3) (by decide +kernel) rfl ?_
      refine mV_aload_n (k := 0) (by decide +kernel) rfl ?_
      refine mV_gfr (r := some 232) (by decide +kernel) fk_13_30 sh_226 (mm_rrs st_226_8) rfl ?_
      refine mV_aload_n (k := 0) (by decide +kernel) rfl ?_
      refine mV_gfix (x := mg_i G2 226 11) (by decide +kernel) fk_13_239 sh_226 rfl ?_
      refine mV_lalx (x := mg_l G2 232 ((mg_i G2 226 11).toNatClampNeg)) (by decide +kernel) sh_232 h.1 rfl ?_
      replace h := h.2
      refine mV_las (by decide +kernel) sh_246 h.1 ?_
      replace h := h.2
      refine mV_aload_n (k := 0) (by decide +kernel) rfl ?_
      refine mV_cV (as := []) (rest := []) (mc1 := 0) (ms1 := 0) (mc := 0) (ms := 0) (by decide +kernel) md_X13_goesOn lk_13_257 sh_226 rfl rfl rfl (Nat.le_of_ble_eq_true rfl) (mC.mono (mm_contV (fun G4 hK => ?_)) h)
      replace h := hK
      refine mV_aload_n (k := 0) (by decide +kernel) rfl ?_
      refine mV_bipush (n := 6) (v := nI 6) (by decide +kernel) (by decide) ?_
      refine mV_cV (as := [.int (nI 6)]) (rest := []) (mc1 := 0) (ms1 := 0) (mc := 0) (ms := 0) (by decide +kernel) md_X13_must lk_13_288 sh_226 rfl rfl rfl (Nat.le_of_ble_eq_true rfl) (mC.mono (mm_contV (fun G6 hK => ?_)) h)
      replace h := hK
      exact h
  · replace h := h.2 hc
    exact mV_vret (by decide +kernel) rfl h
set_option maxRecDepth 100000 in
set_option maxHeartbeats 4000000 in
theorem p_X13_tellLine_183 {l : Launch} {κ : mm_K} {d : Nat} {G : mm_G} {K : mm_G → Prop} (v1 : Int32) (v2 : Int32) (v3 : Int32) (v4 : Int32) (h : mC l κ true (d + 5) 0 0 m_X13_tellOrder [.ref 226, .int v1, .int v2, .int v3] G (rV (fun G2 => vp_in v3 320 ∧ mC l κ true (d + 5) 0 0 m_X13_must [.ref 226, .int (nI 4)] (ms_i G2 245 v3.toNatClampNeg ((mg_i G2 226 11) - v4)) (rV (fun G4 => ((¬ (mg_i G4 226 13) = 0 → K G4) ∧ ((mg_i G4 226 13) = 0 → vp_in (((nI 4) * (mg_i G4 226 19)) + v1) 20 ∧ vp_in (((nI 4) * (mg_i G4 226 19)) + v1) 20 ∧ K (ms_i G4 236 ((((nI 4) * (mg_i G4 226 19)) + v1).toNatClampNeg) ((mg_i G4 236 ((((nI 4) * (mg_i G4 226 19)) + v1).toNatClampNeg)) + (nI 1)))))))))) : mV l κ true (d + 6) 0 0 m_X13_tellLine 183 [some (.ref 226), some (.int v1), some (.int v2), some (.int v3), some (.int v4)] [] G (rV K) := by
  refine mV_aload_n (k := 0) (by decide +kernel) rfl ?_
  refine mV_iload_n (k := 1) (by decide +kernel) rfl ?_
  refine mV_iload_n (k := 2) (by decide +kernel) rfl ?_
  refine mV_iload_n (k := 3) (by decide +kernel) rfl ?_
  refine mV_cV (as := [.int v1, .int v2, .int v3]) (rest := []) (mc1 := 0) (ms1 := 0) (mc := 0) (ms := 0) (by decide +kernel) md_X13_tellOrder lk_13_304 sh_226 rfl rfl rfl (Nat.le_of_ble_eq_true rfl) (mC.mono (mm_contV (fun G2 hK => ?_)) h)
  replace h := hK
  refine mV_aload_n (k := 0) (by decide +kernel) rfl ?_
  refine mV_gfr (r := some 245) (by decide +kernel) fk_13_73 sh_226 (mm_rrs st_226_31) rfl ?_
  refine mV_iload_n (k := 3) (by decide +kernel) rfl ?_
  refine mV_aload_n (k := 0) (by decide +kernel) rfl ?_
  refine mV_gfix (x := mg_i G2 226 11) (by decide +kernel) fk_13_239 sh_226 rfl ?_
  refine mV_iload (i := 4) (by decide +kernel) rfl ?_
  refine mV_isub (by decide +kernel) ?_
  refine mV_ias (by decide +kernel) sh_245 h.1 ?_
  replace h := h.2
  refine mV_aload_n (k := 0) (by decide +kernel) rfl ?_
  refine mV_iconst (n := 4) (v := nI 4) (by decide +kernel) (by decide) ?_
  refine mV_cV (as := [.int (nI 4)]) (rest := []) (mc1 := 0) (ms1 := 0) (mc := 0) (ms := 0) (by decide +kernel) md_X13_must lk_13_288 sh_226 rfl rfl rfl (Nat.le_of_ble_eq_true rfl) (mC.mono (mm_contV (fun G4 hK => ?_)) h)
  replace h := hK
  refine mV_aload_n (k := 0) (by decide +kernel) rfl ?_
  refine mV_gfix (x := mg_i G4 226 13) (by decide +kernel) fk_13_236 sh_226 rfl ?_
  refine mV_if_ne (off := 20) (tgt := 232) (by decide +kernel) (by decide) (fun hc => ?_) (fun hc => ?_)
  · replace h := h.1 hc
    exact mV_vret (by decide +kernel) rfl h
  · replace h := h.2 hc
    refine mV_aload_n (k := 0) (by decide +kernel) rfl ?_
    refine mV_gfr (r := some 236) (by decide +kernel) fk_13_46 sh_226 (mm_rrs st_226_22) rfl ?_
    refine mV_iconst (n := 4) (v := nI 4) (by decide +kernel) (by decide) ?_
    refine mV_aload_n (k := 0) (by decide +kernel) rfl ?_
    refine mV_gfix (x := mg_i G4 226 19) (by decide +kernel) fk_13_269 sh_226 rfl ?_
    refine mV_imul (by decide +kernel) ?_
    refine mV_iload_n (k := 1) (by decide +kernel) rfl ?_
    refine mV_iadd (by decide +kernel) ?_
    refine mV_dup2 (by decide +kernel) rfl rfl ?_
    refine mV_ialx (x := mg_i G4 236 ((((nI 4) * (mg_i G4 226 19)) + v1).toNatClampNeg)) (by decide +kernel) sh_236 h.1 rfl ?_
    replace h := h.2
    refine mV_iconst (n := 1) (v := nI 1) (by decide +kernel) (by decide) ?_
    refine mV_iadd (by decide +kernel) ?_
    refine mV_ias (by decide +kernel) sh_236 h.1 ?_
    replace h := h.2
    exact mV_vret (by decide +kernel) rfl h
set_option maxRecDepth 100000 in
set_option maxHeartbeats 4000000 in
theorem e_X13_tellOrder {l : Launch} {κ : mm_K} {d : Nat} {G : mm_G} {K : mm_G → Prop} (a1 : Int32) (a2 : Int32) (a3 : Int32) (h : (((mg_i G 226 13) ≤ 0 → vp_in (mg_i G 226 11) 403 ∧ (((mg_i G 229 ((mg_i G 226 11).toNatClampNeg)) < (nI 24) → mC l κ true (d + 4) 0 0 m_X13_fail [.ref 226, .int (nI 1)] G (rV (fun G2 => mV l κ true (d + 5) 0 0 m_X13_tellOrder 38 [some (.ref 226), some (.int a1), some (.int a2), some (.int a3), some (.int (mg_i G 229 ((mg_i G 226 11).toNatClampNeg))), none] [] G2 (rV K)))) ∧ (¬ (mg_i G 229 ((mg_i G 226 11).toNatClampNeg)) < (nI 24) → (((mg_i G 229 ((mg_i G 226 11).toNatClampNeg)) ≤ (nI 34) → mV l κ true (d + 5) 0 0 m_X13_tellOrder 38 [some (.ref 226), some (.int a1), some (.int a2), some (.int a3), some (.int (mg_i G 229 ((mg_i G 226 11).toNatClampNeg))), none] [] G (rV K)) ∧ (¬ (mg_i G 229 ((mg_i G 226 11).toNatClampNeg)) ≤ (nI 34) → mC l κ true (d + 4) 0 0 m_X13_fail [.ref 226, .int (nI 1)] G (rV (fun G4 => mV l κ true (d + 5) 0 0 m_X13_tellOrder 38 [some (.ref 226), some (.int a1), some (.int a2), some (.int a3), some (.int (mg_i G 229 ((mg_i G 226 11).toNatClampNeg))), none] [] G4 (rV K)))))))) ∧ (¬ (mg_i G 226 13) ≤ 0 → K G))) : mC l κ true (d + 5) 0 0 m_X13_tellOrder [.ref 226, .int a1, .int a2, .int a3] G (rV K) := by
  refine mC.of (by decide) (Nat.le_of_ble_eq_true rfl) [some (.ref 226), some (.int a1), some (.int a2), some (.int a3), none, none] rfl ?_
  refine mV_aload_n (k := 0) (by decide +kernel) rfl ?_
  refine mV_gfix (x := mg_i G 226 13) (by decide +kernel) fk_13_236 sh_226 rfl ?_
  refine mV_if_le (off := 4) (tgt := 8) (by decide +kernel) (by decide) (fun hc => ?_) (fun hc => ?_)
  · replace h := h.1 hc
    refine mV_aload_n (k := 0) (by decide +kernel) rfl ?_
    refine mV_gfr (r := some 229) (by decide +kernel) fk_13_20 sh_226 (mm_rrs st_226_5) rfl ?_
    refine mV_aload_n (k := 0) (by decide +kernel) rfl ?_
    refine mV_gfix (x := mg_i G 226 11) (by decide +kernel) fk_13_239 sh_226 rfl ?_
    refine mV_ialx (x := mg_i G 229 ((mg_i G 226 11).toNatClampNeg)) (by decide +kernel) sh_229 h.1 rfl ?_
    replace h := h.2
    refine mV_istore (i := 4) (ls' := [some (.ref 226), some (.int a1), some (.int a2), some (.int a3), some (.int (mg_i G 229 ((mg_i G 226 11).toNatClampNeg))), none]) (by decide +kernel) (Nat.le_of_ble_eq_true rfl) rfl rfl ?_
    refine mV_iload (i := 4) (by decide +kernel) rfl ?_
    refine mV_bipush (n := 24) (v := nI 24) (by decide +kernel) (by decide) ?_
    refine mV_icmp_lt (off := 10) (tgt := 33) (by decide +kernel) (by decide) (fun hc => ?_) (fun hc => ?_)
    · replace h := h.1 hc
      refine mV_aload_n (k := 0) (by decide +kernel) rfl ?_
      refine mV_iconst (n := 1) (v := nI 1) (by decide +kernel) (by decide) ?_
      refine mV_cV (as := [.int (nI 1)]) (rest := []) (mc1 := 0) (ms1 := 0) (mc := 0) (ms := 0) (by decide +kernel) md_X13_fail lk_13_251 sh_226 rfl rfl rfl (Nat.le_of_ble_eq_true rfl) (mC.mono (mm_contV (fun G2 hK => ?_)) h)
      replace h := hK
      exact h
    · replace h := h.2 hc
      refine mV_iload (i := 4) (by decide +kernel) rfl ?_
      refine mV_bipush (n := 34) (v := nI 34) (by decide +kernel) (by decide) ?_
      refine mV_icmp_le (off := 8) (tgt := 38) (by decide +kernel) (by decide) (fun hc => ?_) (fun hc => ?_)
      · replace h := h.1 hc
        exact h
      · replace h := h.2 hc
        refine mV_aload_n (k := 0) (by decide +kernel) rfl ?_
        refine mV_iconst (n := 1) (v := nI 1) (by decide +kernel) (by decide) ?_
        refine mV_cV (as := [.int (nI 1)]) (rest := []) (mc1 := 0) (ms1 := 0) (mc := 0) (ms := 0) (by decide +kernel) md_X13_fail lk_13_251 sh_226 rfl rfl rfl (Nat.le_of_ble_eq_true rfl) (mC.mono (mm_contV (fun G4 hK => ?_)) h)
        replace h := hK
        exact h
  · replace h := h.2 hc
    exact mV_vret (by decide +kernel) rfl h
set_option maxRecDepth 100000 in
set_option maxHeartbeats 4000000 in
theorem p_X13_tellOrder_38 {l : Launch} {κ : mm_K} {d : Nat} {G : mm_G} {K : mm_G → Prop} (v1 : Int32) (v2 : Int32) (v3 : Int32) (v4 : Int32) (h : (((mg_i G 226 13) ≤ 0 → vp_in v3 320 ∧ mC l κ true (d + 4) 0 0 m_X13_goesOn [.ref 226] (ms_i G 237 v3.toNatClampNeg (v4 - (nI 24))) (rV (fun G2 => (((nI 28) < v4 → ((¬ v4 = (nI 29) → ((¬ v4 = (nI 30) → ((¬ v4 = (nI 31) → ((¬ v4 = (nI 32) → K G2) ∧ (v4 = (nI 32) → mC l κ true (d + 4) 0 0 m_X13_must [.ref 226, .int (nI 1)] G2 (rV (fun G4 => (((mg_i G4 226 13) ≤ 0 → mC l κ true (d + 4) 0 0 m_X13_rowAt [.ref 226, .int (mg_i G2 226 11)] G4 (rI (fun r5 G6 => vp_in v3 320 ∧ vp_in v3 320 ∧ ((¬ (mg_i (ms_i G6 244 v3.toNatClampNeg r5) 244 v3.toNatClampNeg) = (-1) → K (ms_i G6 244 v3.toNatClampNeg r5)) ∧ ((mg_i (ms_i G6 244 v3.toNatClampNeg r5) 244 v3.toNatClampNeg) = (-1) → mC l κ true (d + 4) 0 0 m_X13_wrong [.ref 226, .int (nI 4), .int (mg_i G2 226 11)] (ms_i G6 244 v3.toNatClampNeg r5) (rV (fun G8 => K G8))))))) ∧ (¬ (mg_i G4 226 13) ≤ 0 → K G4))))))) ∧ (v4 = (nI 31) → mC l κ true (d + 4) 0 0 m_X13_first [.ref 226, .int v3] G2 (rV (fun G10 => ((0 < (mg_i G10 226 13) → mC l κ true (d + 4) 0 0 m_X13_fail [.ref 226, .int (nI 1)] G10 (rV (fun G12 => mV l κ true (d + 5) 0 0 m_X13_tellOrder 229 [some (.ref 226), some (.int v1), some (.int v2), some (.int v3), some (.int v4), none] [] G12 (rV K)))) ∧ (¬ 0 < (mg_i G10 226 13) → vp_in (mg_i G10 226 11) 403 ∧ (((mg_i G10 229 ((mg_i G10 226 11).toNatClampNeg)) < (nI 9) → mC l κ true (d + 4) 0 0 m_X13_fail [.ref 226, .int (nI 1)] G10 (rV (fun G14 => mV l κ true (d + 5) 0 0 m_X13_tellOrder 229 [some (.ref 226), some (.int v1), some (.int v2), some (.int v3), some (.int v4), none] [] G14 (rV K)))) ∧ (¬ (mg_i G10 229 ((mg_i G10 226 11).toNatClampNeg)) < (nI 9) → vp_in (mg_i G10 226 11) 403 ∧ (((mg_i G10 229 ((mg_i G10 226 11).toNatClampNeg)) ≤ (nI 12) → mV l κ true (d + 5) 0 0 m_X13_tellOrder 229 [some (.ref 226), some (.int v1), some (.int v2), some (.int v3), some (.int v4), none] [] G10 (rV K)) ∧ (¬ (mg_i G10 229 ((mg_i G10 226 11).toNatClampNeg)) ≤ (nI 12) → mC l κ true (d + 4) 0 0 m_X13_fail [.ref 226, .int (nI 1)] G10 (rV (fun G16 => mV l κ true (d + 5) 0 0 m_X13_tellOrder 229 [some (.ref 226), some (.int v1), some (.int v2), some (.int v3), some (.int v4), none] [] G16 (rV K)))))))))))))) ∧ (v4 = (nI 30) → mC l κ true (d + 4) 0 0 m_X13_leads [.ref 226, .int v2, .int v3] G2 (rV (fun G18 => K G18))))) ∧ (v4 = (nI 29) → mC l κ true (d + 4) 0 0 m_X13_first [.ref 226, .int v3] G2 (rV (fun G20 => K G20))))) ∧ (¬ (nI 28) < v4 → ((0 < (mg_i G2 226 13) → mC l κ true (d + 4) 0 0 m_X13_fail [.ref 226, .int (nI 1)] G2 (rV (fun G22 => mV l κ true (d + 5) 0 0 m_X13_tellOrder 108 [some (.ref 226), some (.int v1), some (.int v2), some (.int v3), some (.int v4), none] [] G22 (rV K)))) ∧ (¬ 0 < (mg_i G2 226 13) → vp_in (mg_i G2 226 11) 403 ∧ (((mg_i G2 229 ((mg_i G2 226 11).toNatClampNeg)) < (nI 35) → mC l κ true (d + 4) 0 0 m_X13_fail [.ref 226, .int (nI 1)] G2 (rV (fun G24 => mV l κ true (d + 5) 0 0 m_X13_tellOrder 108 [some (.ref 226), some (.int v1), some (.int v2), some (.int v3), some (.int v4), none] [] G24 (rV K)))) ∧ (¬ (mg_i G2 229 ((mg_i G2 226 11).toNatClampNeg)) < (nI 35) → vp_in (mg_i G2 226 11) 403 ∧ (((mg_i G2 229 ((mg_i G2 226 11).toNatClampNeg)) ≤ (nI 38) → mV l κ true (d + 5) 0 0 m_X13_tellOrder 108 [some (.ref 226), some (.int v1), some (.int v2), some (.int v3), some (.int v4), none] [] G2 (rV K)) ∧ (¬ (mg_i G2 229 ((mg_i G2 226 11).toNatClampNeg)) ≤ (nI 38) → mC l κ true (d + 4) 0 0 m_X13_fail [.ref 226, .int (nI 1)] G2 (rV (fun G26 => mV l κ true (d + 5) 0 0 m_X13_tellOrder 108 [some (.ref 226), some (.int v1), some (.int v2), some (.int v3), some (.int v4), none] [] G26 (rV K)))))))))))))) ∧ (¬ (mg_i G 226 13) ≤ 0 → K G))) : mV l κ true (d + 5) 0 0 m_X13_tellOrder 38 [some (.ref 226), some (.int v1), some (.int v2), some (.int v3), some (.int v4), none] [] G (rV K) := by
  refine mV_aload_n (k := 0) (by decide +kernel) rfl ?_
  refine mV_gfix (x := mg_i G 226 13) (by decide +kernel) fk_13_236 sh_226 rfl ?_
  refine mV_if_le (off := 4) (tgt := 46) (by decide +kernel) (by decide) (fun hc => ?_) (fun hc => ?_)
  · replace h := h.1 hc
    refine mV_aload_n (k := 0) (by decide +kernel) rfl ?_
    refine mV_gfr (r := some 237) (by decide +kernel) fk_13_49 sh_226 (mm_rrs st_226_23) rfl ?_
    refine mV_iload_n (k := 3) (by decide +kernel) rfl ?_
    refine mV_iload (i := 4) (by decide +kernel) rfl ?_
    refine mV_bipush (n := 24) (v := nI 24) (by decide +kernel) (by decide) ?_
    refine mV_isub (by decide +kernel) ?_
    refine mV_ias (by decide +kernel) sh_237 h.1 ?_
    replace h := h.2
    refine mV_aload_n (k := 0) (by decide +kernel) rfl ?_
    refine mV_cV (as := []) (rest := []) (mc1 := 0) (ms1 := 0) (mc := 0) (ms := 0) (by decide +kernel) md_X13_goesOn lk_13_257 sh_226 rfl rfl rfl (Nat.le_of_ble_eq_true rfl) (mC.mono (mm_contV (fun G2 hK => ?_)) h)
    replace h := hK
    refine mV_iload (i := 4) (by decide +kernel) rfl ?_
    refine mV_bipush (n := 28) (v := nI 28) (by decide +kernel) (by decide) ?_
    refine mV_icmp_gt (off := 81) (tgt := 146) (by decide +kernel) (by decide) (fun hc => ?_) (fun hc => ?_)
    · replace h := h.1 hc
      refine mV_iload (i := 4) (by decide +kernel) rfl ?_
      refine mV_bipush (n := 29) (v := nI 29) (by decide +kernel) (by decide) ?_
      refine mV_icmp_ne (off := 11) (tgt := 161) (by decide +kernel) (by decide) (fun hc => ?_) (fun hc => ?_)
      · replace h := h.1 hc
        refine mV_iload (i := 4) (by decide +kernel) rfl ?_
        refine mV_bipush (n := 30) (v := nI 30) (by decide +kernel) (by decide) ?_
        refine mV_icmp_ne (off := 12) (tgt := 177) (by decide +kernel) (by decide) (fun hc => ?_) (fun hc => ?_)
        · replace h := h.1 hc
          refine mV_iload (i := 4) (by decide +kernel) rfl ?_
          refine mV_bipush (n := 31) (v := nI 31) (by decide +kernel) (by decide) ?_
          refine mV_icmp_ne (off := 89) (tgt := 270) (by decide +kernel) (by decide) (fun hc => ?_) (fun hc => ?_)
          · replace h := h.1 hc
            refine mV_iload (i := 4) (by decide +kernel) rfl ?_
            refine mV_bipush (n := 32) (v := nI 32) (by decide +kernel) (by decide) ?_
            refine mV_icmp_ne (off := 51) (tgt := 325) (by decide +kernel) (by decide) (fun hc => ?_) (fun hc => ?_)
            · replace h := h.1 hc
              exact mV_vret (by decide +kernel) rfl h
            · replace h := h.2 hc
              refine mV_aload_n (k := 0) (by decide +kernel) rfl ?_
              refine mV_gfix (x := mg_i G2 226 11) (by decide +kernel) fk_13_239 sh_226 rfl ?_
              refine mV_istore (i := 5) (ls' := [some (.ref 226), some (.int v1), some (.int v2), some (.int v3), some (.int v4), some (.int (mg_i G2 226 11))]) (by decide +kernel) (Nat.le_of_ble_eq_true rfl) rfl rfl ?_
              refine mV_aload_n (k := 0) (by decide +kernel) rfl ?_
              refine mV_iconst (n := 1) (v := nI 1) (by decide +kernel) (by decide) ?_
              refine mV_cV (as := [.int (nI 1)]) (rest := []) (mc1 := 0) (ms1 := 0) (mc := 0) (ms := 0) (by decide +kernel) md_X13_must lk_13_288 sh_226 rfl rfl rfl (Nat.le_of_ble_eq_true rfl) (mC.mono (mm_contV (fun G4 hK => ?_)) h)
              replace h := hK
              refine mV_aload_n (k := 0) (by decide +kernel) rfl ?_
              refine mV_gfix (x := mg_i G4 226 13) (by decide +kernel) fk_13_236 sh_226 rfl ?_
              refine mV_if_le (off := 4) (tgt := 296) (by decide +kernel) (by decide) (fun hc => ?_) (fun hc => ?_)
              · replace h := h.1 hc
                refine mV_aload_n (k := 0) (by decide +kernel) rfl ?_
                refine mV_gfr (r := some 244) (by decide +kernel) fk_13_70 sh_226 (mm_rrs st_226_30) rfl ?_
                refine mV_iload_n (k := 3) (by decide +kernel) rfl ?_
                refine mV_aload_n (k := 0) (by decide +kernel) rfl ?_
                refine mV_iload (i := 5) (by decide +kernel) rfl ?_
                refine mV_cV (as := [.int (mg_i G2 226 11)]) (rest := [.int v3, .ref 244]) (mc1 := 0) (ms1 := 0) (mc := 0) (ms := 0) (by decide +kernel) md_X13_rowAt lk_13_294 sh_226 rfl rfl rfl (Nat.le_of_ble_eq_true rfl) (mC.mono (mm_contI (fun r5 G6 hK => ?_)) h)
                replace h := hK
                refine mV_ias (by decide +kernel) sh_244 h.1 ?_
                replace h := h.2
                refine mV_aload_n (k := 0) (by decide +kernel) rfl ?_
                refine mV_gfr (r := some 244) (by decide +kernel) fk_13_70 sh_226 (mm_rrs st_226_30) rfl ?_
                refine mV_iload_n (k := 3) (by decide +kernel) rfl ?_
                refine mV_ialx (x := mg_i (ms_i G6 244 v3.toNatClampNeg r5) 244 v3.toNatClampNeg) (by decide +kernel) sh_244 h.1 rfl ?_
                replace h := h.2
                refine mV_iconst (n := -1) (v := (-1)) (by decide +kernel) (by decide) ?_
                refine mV_icmp_ne (off := 10) (tgt := 325) (by decide +kernel) (by decide) (fun hc => ?_) (fun hc => ?_)
                · replace h := h.1 hc
                  exact mV_vret (by decide +kernel) rfl h
                · replace h := h.2 hc
                  refine mV_aload_n (k := 0) (by decide +kernel) rfl ?_
                  refine mV_iconst (n := 4) (v := nI 4) (by decide +kernel) (by decide) ?_
                  refine mV_iload (i := 5) (by decide +kernel) rfl ?_
                  refine mV_cV (as := [.int (nI 4), .int (mg_i G2 226 11)]) (rest := []) (mc1 := 0) (ms1 := 0) (mc := 0) (ms := 0) (by decide +kernel) md_X13_wrong lk_13_291 sh_226 rfl rfl rfl (Nat.le_of_ble_eq_true rfl) (mC.mono (mm_contV (fun G8 hK => ?_)) h)
                  replace h := hK
                  exact mV_vret (by decide +kernel) rfl h
              · replace h := h.2 hc
                exact mV_vret (by decide +kernel) rfl h
          · replace h := h.2 hc
            refine mV_aload_n (k := 0) (by decide +kernel) rfl ?_
            refine mV_iload_n (k := 3) (by decide +kernel) rfl ?_
            refine mV_cV (as := [.int v3]) (rest := []) (mc1 := 0) (ms1 := 0) (mc := 0) (ms := 0) (by decide +kernel) md_X13_first lk_13_308 sh_226 rfl rfl rfl (Nat.le_of_ble_eq_true rfl) (mC.mono (mm_contV (fun G10 hK => ?_)) h)
            replace h := hK
            refine mV_aload_n (k := 0) (by decide +kernel) rfl ?_
            refine mV_gfix (x := mg_i G10 226 13) (by decide +kernel) fk_13_236 sh_226 rfl ?_
            refine mV_if_gt (off := 31) (tgt := 224) (by decide +kernel) (by decide) (fun hc => ?_) (fun hc => ?_)
            · replace h := h.1 hc
              refine mV_aload_n (k := 0) (by decide +kernel) rfl ?_
              refine mV_iconst (n := 1) (v := nI 1) (by decide +kernel) (by decide) ?_
              refine mV_cV (as := [.int (nI 1)]) (rest := []) (mc1 := 0) (ms1 := 0) (mc := 0) (ms := 0) (by decide +kernel) md_X13_fail lk_13_251 sh_226 rfl rfl rfl (Nat.le_of_ble_eq_true rfl) (mC.mono (mm_contV (fun G12 hK => ?_)) h)
              replace h := hK
              exact h
            · replace h := h.2 hc
              refine mV_aload_n (k := 0) (by decide +kernel) rfl ?_
              refine mV_gfr (r := some 229) (by decide +kernel) fk_13_20 sh_226 (mm_rrs st_226_5) rfl ?_
              refine mV_aload_n (k := 0) (by decide +kernel) rfl ?_
              refine mV_gfix (x := mg_i G10 226 11) (by decide +kernel) fk_13_239 sh_226 rfl ?_
              refine mV_ialx (x := mg_i G10 229 ((mg_i G10 226 11).toNatClampNeg)) (by decide +kernel) sh_229 h.1 rfl ?_
              replace h := h.2
              refine mV_bipush (n := 9) (v := nI 9) (by decide +kernel) (by decide) ?_
              refine mV_icmp_lt (off := 17) (tgt := 224) (by decide +kernel) (by decide) (fun hc => ?_) (fun hc => ?_)
              · replace h := h.1 hc
                refine mV_aload_n (k := 0) (by decide +kernel) rfl ?_
                refine mV_iconst (n := 1) (v := nI 1) (by decide +kernel) (by decide) ?_
                refine mV_cV (as := [.int (nI 1)]) (rest := []) (mc1 := 0) (ms1 := 0) (mc := 0) (ms := 0) (by decide +kernel) md_X13_fail lk_13_251 sh_226 rfl rfl rfl (Nat.le_of_ble_eq_true rfl) (mC.mono (mm_contV (fun G14 hK => ?_)) h)
                replace h := hK
                exact h
              · replace h := h.2 hc
                refine mV_aload_n (k := 0) (by decide +kernel) rfl ?_
                refine mV_gfr (r := some 229) (by decide +kernel) fk_13_20 sh_226 (mm_rrs st_226_5) rfl ?_
                refine mV_aload_n (k := 0) (by decide +kernel) rfl ?_
                refine mV_gfix (x := mg_i G10 226 11) (by decide +kernel) fk_13_239 sh_226 rfl ?_
                refine mV_ialx (x := mg_i G10 229 ((mg_i G10 226 11).toNatClampNeg)) (by decide +kernel) sh_229 h.1 rfl ?_
                replace h := h.2
                refine mV_bipush (n := 12) (v := nI 12) (by decide +kernel) (by decide) ?_
                refine mV_icmp_le (off := 8) (tgt := 229) (by decide +kernel) (by decide) (fun hc => ?_) (fun hc => ?_)
                · replace h := h.1 hc
                  exact h
                · replace h := h.2 hc
                  refine mV_aload_n (k := 0) (by decide +kernel) rfl ?_
                  refine mV_iconst (n := 1) (v := nI 1) (by decide +kernel) (by decide) ?_
                  refine mV_cV (as := [.int (nI 1)]) (rest := []) (mc1 := 0) (ms1 := 0) (mc := 0) (ms := 0) (by decide +kernel) md_X13_fail lk_13_251 sh_226 rfl rfl rfl (Nat.le_of_ble_eq_true rfl) (mC.mono (mm_contV (fun G16 hK => ?_)) h)
                  replace h := hK
                  exact h
        · replace h := h.2 hc
          refine mV_aload_n (k := 0) (by decide +kernel) rfl ?_
          refine mV_iload_n (k := 2) (by decide +kernel) rfl ?_
          refine mV_iload_n (k := 3) (by decide +kernel) rfl ?_
          refine mV_cV (as := [.int v2, .int v3]) (rest := []) (mc1 := 0) (ms1 := 0) (mc := 0) (ms := 0) (by decide +kernel) md_X13_leads lk_13_311 sh_226 rfl rfl rfl (Nat.le_of_ble_eq_true rfl) (mC.mono (mm_contV (fun G18 hK => ?_)) h)
          replace h := hK
          refine mV_goto (off := 151) (tgt := 325) (by decide +kernel) (by decide) ?_
          exact mV_vret (by decide +kernel) rfl h
      · replace h := h.2 hc
        refine mV_aload_n (k := 0) (by decide +kernel) rfl ?_
        refine mV_iload_n (k := 3) (by decide +kernel) rfl ?_
        refine mV_cV (as := [.int v3]) (rest := []) (mc1 := 0) (ms1 := 0) (mc := 0) (ms := 0) (by decide +kernel) md_X13_first lk_13_308 sh_226 rfl rfl rfl (Nat.le_of_ble_eq_true rfl) (mC.mono (mm_contV (fun G20 hK => ?_)) h)
        replace h := hK
        refine mV_goto (off := 167) (tgt := 325) (by decide +kernel) (by decide) ?_
        exact mV_vret (by decide +kernel) rfl h
    · replace h := h.2 hc
      refine mV_aload_n (k := 0) (by decide +kernel) rfl ?_
      refine mV_gfix (x := mg_i G2 226 13) (by decide +kernel) fk_13_236 sh_226 rfl ?_
      refine mV_if_gt (off := 31) (tgt := 103) (by decide +kernel) (by decide) (fun hc => ?_) (fun hc => ?_)
      · replace h := h.1 hc
        refine mV_aload_n (k := 0) (by decide +kernel) rfl ?_
        refine mV_iconst (n := 1) (v := nI 1) (by decide +kernel) (by decide) ?_
        refine mV_cV (as := [.int (nI 1)]) (rest := []) (mc1 := 0) (ms1 := 0) (mc := 0) (ms := 0) (by decide +kernel) md_X13_fail lk_13_251 sh_226 rfl rfl rfl (Nat.le_of_ble_eq_true rfl) (mC.mono (mm_contV (fun G22 hK => ?_)) h)
        replace h := hK
        exact h
      · replace h := h.2 hc
        refine mV_aload_n (k := 0) (by decide +kernel) rfl ?_
        refine mV_gfr (r := some 229) (by decide +kernel) fk_13_20 sh_226 (mm_rrs st_226_5) rfl ?_
        refine mV_aload_n (k := 0) (by decide +kernel) rfl ?_
        refine mV_gfix (x := mg_i G2 226 11) (by decide +kernel) fk_13_239 sh_226 rfl ?_
        refine mV_ialx (x := mg_i G2 229 ((mg_i G2 226 11).toNatClampNeg)) (by decide +kernel) sh_229 h.1 rfl ?_
        replace h := h.2
        refine mV_bipush (n := 35) (v := nI 35) (by decide +kernel) (by decide) ?_
        refine mV_icmp_lt (off := 17) (tgt := 103) (by decide +kernel) (by decide) (fun hc => ?_) (fun hc => ?_)
        · replace h := h.1 hc
          refine mV_aload_n (k := 0) (by decide +kernel) rfl ?_
          refine mV_iconst (n := 1) (v := nI 1) (by decide +kernel) (by decide) ?_
          refine mV_cV (as := [.int (nI 1)]) (rest := []) (mc1 := 0) (ms1 := 0) (mc := 0) (ms := 0) (by decide +kernel) md_X13_fail lk_13_251 sh_226 rfl rfl rfl (Nat.le_of_ble_eq_true rfl) (mC.mono (mm_contV (fun G24 hK => ?_)) h)
          replace h := hK
          exact h
        · replace h := h.2 hc
          refine mV_aload_n (k := 0) (by decide +kernel) rfl ?_
          refine mV_gfr (r := some 229) (by decide +kernel) fk_13_20 sh_226 (mm_rrs st_226_5) rfl ?_
          refine mV_aload_n (k := 0) (by decide +kernel) rfl ?_
          refine mV_gfix (x := mg_i G2 226 11) (by decide +kernel) fk_13_239 sh_226 rfl ?_
          refine mV_ialx (x := mg_i G2 229 ((mg_i G2 226 11).toNatClampNeg)) (by decide +kernel) sh_229 h.1 rfl ?_
          replace h := h.2
          refine mV_bipush (n := 38) (v := nI 38) (by decide +kernel) (by decide) ?_
          refine mV_icmp_le (off := 8) (tgt := 108) (by decide +kernel) (by decide) (fun hc => ?_) (fun hc => ?_)
          · replace h := h.1 hc
            exact h
          · replace h := h.2 hc
            refine mV_aload_n (k := 0) (by decide +kernel) rfl ?_
            refine mV_iconst (n := 1) (v := nI 1) (by decide +kernel) (by decide) ?_
            refine mV_cV (as := [.int (nI 1)]) (rest := []) (mc1 := 0) (ms1 := 0) (mc := 0) (ms := 0) (by decide +kernel) md_X13_fail lk_13_251 sh_226 rfl rfl rfl (Nat.le_of_ble_eq_true rfl) (mC.mono (mm_contV (fun G26 hK => ?_)) h)
            replace h := hK
            exact h
  · replace h := h.2 hc
    exact mV_vret (by decide +kernel) rfl h
set_option maxRecDepth 100000 in
set_option maxHeartbeats 4000000 in
theorem p_X13_tellOrder_108 {l : Launch} {κ : mm_K} {d : Nat} {G : mm_G} {K : mm_G → Prop} (v1 : Int32) (v2 : Int32) (v3 : Int32) (v4 : Int32) (h : (((mg_i G 226 13) ≤ 0 → vp_in (mg_i G 226 11) 403 ∧ vp_in v3 320 ∧ mC l κ true (d + 4) 0 0 m_X13_goesOn [.ref 226] (ms_i G 238 v3.toNatClampNeg ((mg_i G 229 ((mg_i G 226 11).toNatClampNeg)) - (nI 35))) (rV (fun G2 => mC l κ true (d + 4) 0 0 m_X13_first [.ref 226, .int v3] G2 (rV (fun G4 => K G4))))) ∧ (¬ (mg_i G 226 13) ≤ 0 → K G))) : mV l κ true (d + 5) 0 0 m_X13_tellOrder 108 [some (.ref 226), some (.int v1), some (.int v2), some (.int v3), some (.int v4), none] [] G (rV K) := by
  refine mV_aload_n (k := 0) (by decide +kernel) rfl ?_
  refine mV_gfix (x := mg_i G 226 13) (by decide +kernel) fk_13_236 sh_226 rfl ?_
  refine mV_if_le (off := 4) (tgt := 116) (by decide +kernel) (by decide) (fun hc => ?_) (fun hc => ?_)
  · replace h := h.1 hc
    refine mV_aload_n (k := 0) (by decide +kernel) rfl ?_
    refine mV_gfr (r := some 238) (by decide +kernel) fk_13_52 sh_226 (mm_rrs st_226_24) rfl ?_
    refine mV_iload_n (k := 3) (by decide +kernel) rfl ?_
    refine mV_aload_n (k := 0) (by decide +kernel) rfl ?_
    refine mV_gfr (r := some 229) (by decide +kernel) fk_13_20 sh_226 (mm_rrs st_226_5) rfl ?_
    refine mV_aload_n (k := 0) (by decide +kernel) rfl ?_
    refine mV_gfix (x := mg_i G 226 11) (by decide +kernel) fk_13_239 sh_226 rfl ?_
    refine mV_ialx (x := mg_i G 229 ((mg_i G 226 11).toNatClampNeg)) (by decide +kernel) sh_229 h.1 rfl ?_
    replace h := h.2
    refine mV_bipush (n := 35) (v := nI 35) (by decide +kernel) (by decide) ?_
    refine mV_isub (by decide +kernel) ?_
    refine mV_ias (by decide +kernel) sh_238 h.1 ?_
    replace h := h.2
    refine mV_aload_n (k := 0) (by decide +kernel) rfl ?_
    refine mV_cV (as := []) (rest := []) (mc1 := 0) (ms1 := 0) (mc := 0) (ms := 0) (by decide +kernel) md_X13_goesOn lk_13_257 sh_226 rfl rfl rfl (Nat.le_of_ble_eq_true rfl) (mC.mono (mm_contV (fun G2 hK => ?_)) h)
    replace h := hK
    refine mV_aload_n (k := 0) (by decide +kernel) rfl ?_
    refine mV_iload_n (k := 3) (by decide +kernel) rfl ?_
    refine mV_cV (as := [.int v3]) (rest := []) (mc1 := 0) (ms1 := 0) (mc := 0) (ms := 0) (by decide +kernel) md_X13_first lk_13_308 sh_226 rfl rfl rfl (Nat.le_of_ble_eq_true rfl) (mC.mono (mm_contV (fun G4 hK => ?_)) h)
    replace h := hK
    refine mV_goto (off := 182) (tgt := 325) (by decide +kernel) (by decide) ?_
    exact mV_vret (by decide +kernel) rfl h
  · replace h := h.2 hc
    exact mV_vret (by decide +kernel) rfl h
set_option maxRecDepth 100000 in
set_option maxHeartbeats 4000000 in
theorem p_X13_tellOrder_229 {l : Launch} {κ : mm_K} {d : Nat} {G : mm_G} {K : mm_G → Prop} (v1 : Int32) (v2 : Int32) (v3 : Int32) (v4 : Int32) (h : (((mg_i G 226 13) ≤ 0 → vp_in (mg_i G 226 11) 403 ∧ vp_in v3 320 ∧ mC l κ true (d + 4) 0 0 m_X13_goesOn [.ref 226] (ms_i G 243 v3.toNatClampNeg (mg_i G 229 ((mg_i G 226 11).toNatClampNeg))) (rV (fun G2 => mC l κ true (d + 4) 0 0 m_X13_second [.ref 226, .int v3] G2 (rV (fun G4 => mC l κ true (d + 4) 0 0 m_X13_leads [.ref 226, .int v2, .int v3] G4 (rV (fun G6 => K G6))))))) ∧ (¬ (mg_i G 226 13) ≤ 0 → K G))) : mV l κ true (d + 5) 0 0 m_X13_tellOrder 229 [some (.ref 226), some (.int v1), some (.int v2), some (.int v3), some (.int v4), none] [] G (rV K) := by
  refine mV_aload_n (k := 0) (by decide +kernel) rfl ?_
  refine mV_gfix (x := mg_i G 226 13) (by decide +kernel) fk_13_236 sh_226 rfl ?_
  refine mV_if_le (off := 4) (tgt := 237) (by decide +kernel) (by decide) (fun hc => ?_) (fun hc => ?_)
  · replace h := h.1 hc
    refine mV_aload_n (k := 0) (by decide +kernel) rfl ?_
    refine mV_gfr (r := some 243) (by decide +kernel) fk_13_67 sh_226 (mm_rrs st_226_29) rfl ?_
    refine mV_iload_n (k := 3) (by decide +kernel) rfl ?_
    refine mV_aload_n (k := 0) (by decide +kernel) rfl ?_
    refine mV_gfr (r := some 229) (by decide +kernel) fk_13_20 sh_226 (mm_rrs st_226_5) rfl ?_
    refine mV_aload_n (k := 0) (by decide +kernel) rfl ?_
    refine mV_gfix (x := mg_i G 226 11) (by decide +kernel) fk_13_239 sh_226 rfl ?_
    refine mV_ialx (x := mg_i G 229 ((mg_i G 226 11).toNatClampNeg)) (by decide +kernel) sh_229 h.1 rfl ?_
    replace h := h.2
    refine mV_ias (by decide +kernel) sh_243 h.1 ?_
    replace h := h.2
    refine mV_aload_n (k := 0) (by decide +kernel) rfl ?_
    refine mV_cV (as := []) (rest := []) (mc1 := 0) (ms1 := 0) (mc := 0) (ms := 0) (by decide +kernel) md_X13_goesOn lk_13_257 sh_226 rfl rfl rfl (Nat.le_of_ble_eq_true rfl) (mC.mono (mm_contV (fun G2 hK => ?_)) h)
    replace h := hK
    refine mV_aload_n (k := 0) (by decide +kernel) rfl ?_
    refine mV_iload_n (k := 3) (by decide +kernel) rfl ?_
    refine mV_cV (as := [.int v3]) (rest := []) (mc1 := 0) (ms1 := 0) (mc := 0) (ms := 0) (by decide +kernel) md_X13_second lk_13_314 sh_226 rfl rfl rfl (Nat.le_of_ble_eq_true rfl) (mC.mono (mm_contV (fun G4 hK => ?_)) h)
    replace h := hK
    refine mV_aload_n (k := 0) (by decide +kernel) rfl ?_
    refine mV_iload_n (k := 2) (by decide +kernel) rfl ?_
    refine mV_iload_n (k := 3) (by decide +kernel) rfl ?_
    refine mV_cV (as := [.int v2, .int v3]) (rest := []) (mc1 := 0) (ms1 := 0) (mc := 0) (ms := 0) (by decide +kernel) md_X13_leads lk_13_311 sh_226 rfl rfl rfl (Nat.le_of_ble_eq_true rfl) (mC.mono (mm_contV (fun G6 hK => ?_)) h)
    replace h := hK
    refine mV_goto (off := 58) (tgt := 325) (by decide +kernel) (by decide) ?_
    exact mV_vret (by decide +kernel) rfl h
  · replace h := h.2 hc
    exact mV_vret (by decide +kernel) rfl h
set_option maxRecDepth 100000 in
set_option maxHeartbeats 4000000 in
theorem e_X13_leads {l : Launch} {κ : mm_K} {d : Nat} {G : mm_G} {K : mm_G → Prop} (a1 : Int32) (a2 : Int32) (h : mC l κ true (d + 2) 0 0 m_X13_must [.ref 226, .int (nI 1)] G (rV (fun G2 => (((mg_i G2 226 13) ≤ 0 → vp_in (mg_i G 226 11) 403 ∧ vp_in a2 320 ∧ vp_in a1 16 ∧ K (ms_i (ms_l G2 247 a2.toNatClampNeg (mg_l G2 232 ((mg_i G 226 11).toNatClampNeg))) 248 a1.toNatClampNeg (mg_i G 226 11))) ∧ (¬ (mg_i G2 226 13) ≤ 0 → K G2))))) : mC l κ true (d + 3) 0 0 m_X13_leads [.ref 226, .int a1, .int a2] G (rV K) := by
  refine mC.of (by decide) (Nat.le_of_ble_eq_true rfl) [some (.ref 226), some (.int a1), some (.int a2), none] rfl ?_
  refine mV_aload_n (k := 0) (by decide +kernel) rfl ?_
  refine mV_gfix (x := mg_i G 226 11) (by decide +kernel) fk_13_239 sh_226 rfl ?_
  refine mV_istore_n (k := 3) (ls' := [some (.ref 226), some (.int a1), some (.int a2), some (.int (mg_i G 226 11))]) (by decide +kernel) (Nat.le_of_ble_eq_true rfl) rfl rfl ?_
  refine mV_aload_n (k := 0) (by decide +kernel) rfl ?_
  refine mV_iconst (n := 1) (v := nI 1) (by decide +kernel) (by decide) ?_
  refine mV_cV (as := [.int (nI 1)]) (rest := []) (mc1 := 0) (ms1 := 0) (mc := 0) (ms := 0) (by decide +kernel) md_X13_must lk_13_288 sh_226 rfl rfl rfl (Nat.le_of_ble_eq_true rfl) (mC.mono (mm_contV (fun G2 hK => ?_)) h)
  replace h := hK
  refine mV_aload_n (k := 0) (by decide +kernel) rfl ?_
  refine mV_gfix (x := mg_i G2 226 13) (by decide +kernel) fk_13_236 sh_226 rfl ?_
  refine mV_if_le (off := 4) (tgt := 18) (by decide +kernel) (by decide) (fun hc => ?_) (fun hc => ?_)
  · replace h := h.1 hc
    refine mV_aload_n (k := 0) (by decide +kernel) rfl ?_
    refine mV_gfr (r := some 247) (by decide +kernel) fk_13_79 sh_226 (mm_rrs st_226_33) rfl ?_
    refine mV_iload_n (k := 2) (by decide +kernel) rfl ?_
    refine mV_aload_n (k := 0) (by decide +kernel) rfl ?_
    refine mV_gfr (r := some 232) (by decide +kernel) fk_13_30 sh_226 (mm_rrs st_226_8) rfl ?_
    refine mV_iload_n (k := 3) (by decide +kernel) rfl ?_
    refine mV_lalx (x := mg_l G2 232 ((mg_i G 226 11).toNatClampNeg)) (by decide +kernel) sh_232 h.1 rfl ?_
    replace h := h.2
    refine mV_las (by decide +kernel) sh_247 h.1 ?_
    replace h := h.2
    refine mV_aload_n (k := 0) (by decide +kernel) rfl ?_
    refine mV_gfr (r := some 248) (by decide +kernel) fk_13_82 sh_226 (mm_rrs st_226_34) rfl ?_
    refine mV_iload_n (k := 1) (by decide +kernel) rfl ?_
    refine mV_iload_n (k := 3) (by decide +kernel) rfl ?_
    refine mV_ias (by decide +kernel) sh_248 h.1 ?_
    replace h := h.2
    exact mV_vret (by decide +kernel) rfl h
  · replace h := h.2 hc
    exact mV_vret (by decide +kernel) rfl h
set_option maxRecDepth 100000 in
set_option maxHeartbeats 4000000 in
theorem e_X13_value {l : Launch} {κ : mm_K} {d : Nat} {G : mm_G} {K : mm_G → Prop}  (h : (((mg_i G 226 13) ≤ 0 → vp_in (mg_i G 226 11) 403 ∧ (((mg_i G 229 ((mg_i G 226 11).toNatClampNeg)) < (nI 35) → mC l κ true (d + 2) 0 0 m_X13_is [.ref 226, .int (nI 39)] (ms_i (ms_i G 226 41 (nI 0)) 226 42 (nI 0)) (rI (fun r1 G2 => ((r1 = 0 → mC l κ true (d + 2) 0 0 m_X13_signed [.ref 226] G2 (rI (fun r3 G4 => K (ms_i G4 226 42 r3)))) ∧ (¬ r1 = 0 → mC l κ true (d + 2) 0 0 m_X13_goesOn [.ref 226] (ms_i G2 226 41 (nI 2)) (rV (fun G6 => K G6))))))) ∧ (¬ (mg_i G 229 ((mg_i G 226 11).toNatClampNeg)) < (nI 35) → vp_in (mg_i G 226 11) 403 ∧ (((nI 38) < (mg_i G 229 ((mg_i G 226 11).toNatClampNeg)) → mC l κ true (d + 2) 0 0 m_X13_is [.ref 226, .int (nI 39)] (ms_i (ms_i G 226 41 (nI 0)) 226 42 (nI 0)) (rI (fun r7 G8 => ((r7 = 0 → mC l κ true (d + 2) 0 0 m_X13_signed [.ref 226] G8 (rI (fun r9 G10 => K (ms_i G10 226 42 r9)))) ∧ (¬ r7 = 0 → mC l κ true (d + 2) 0 0 m_X13_goesOn [.ref 226] (ms_i G8 226 41 (nI 2)) (rV (fun G12 => K G12))))))) ∧ (¬ (nI 38) < (mg_i G 229 ((mg_i G 226 11).toNatClampNeg)) → vp_in (mg_i G 226 11) 403 ∧ mC l κ true (d + 2) 0 0 m_X13_goesOn [.ref 226] (ms_i (ms_i (ms_i (ms_i G 226 41 (nI 0)) 226 42 (nI 0)) 226 41 (nI 1)) 226 42 ((mg_i G 229 ((mg_i G 226 11).toNatClampNeg)) - (nI 35))) (rV (fun G14 => K G14))))))) ∧ (¬ (mg_i G 226 13) ≤ 0 → K (ms_i (ms_i G 226 41 (nI 0)) 226 42 (nI 0))))) : mC l κ true (d + 3) 0 0 m_X13_value [.ref 226] G (rV K) := by
  refine mC.of (by decide) (Nat.le_of_ble_eq_true rfl) [some (.ref 226)] rfl ?_
  refine mV_aload_n (k := 0) (by decide +kernel) rfl ?_
  refine mV_iconst (n := 0) (v := nI 0) (by decide +kernel) (by decide) ?_
  refine mV_pfi (by decide +kernel) fk_13_317 sh_226 ?_
  refine mV_aload_n (k := 0) (by decide +kernel) rfl ?_
  refine mV_iconst (n := 0) (v := nI 0) (by decide +kernel) (by decide) ?_
  refine mV_pfi (by decide +kernel) fk_13_320 sh_226 ?_
  refine mV_aload_n (k := 0) (by decide +kernel) rfl ?_
  refine mV_gfix (x := mg_i G 226 13) (by decide +kernel) fk_13_236 sh_226 rfl ?_
  refine mV_if_le (off := 4) (tgt := 18) (by decide +kernel) (by decide) (fun hc => ?_) (fun hc => ?_)
  · replace h := h.1 hc
    refine mV_aload_n (k := 0) (by decide +kernel) rfl ?_
    refine mV_gfr (r := some 229) (by decide +kernel) fk_13_20 sh_226 (mm_rrs st_226_5) rfl ?_
    refine mV_aload_n (k := 0) (by decide +kernel) rfl ?_
    refine mV_gfix (x := mg_i G 226 11) (by decide +kernel) fk_13_239 sh_226 rfl ?_
    refine mV_ialx (x := mg_i G 229 ((mg_i G 226 11).toNatClampNeg)) (by decide +kernel) sh_229 h.1 rfl ?_
    replace h := h.2
    refine mV_bipush (n := 35) (v := nI 35) (by decide +kernel) (by decide) ?_
    refine mV_icmp_lt (off := 45) (tgt := 74) (by decide +kernel) (by decide) (fun hc => ?_) (fun hc => ?_)
    · replace h := h.1 hc
      refine mV_aload_n (k := 0) (by decide +kernel) rfl ?_
      refine mV_bipush (n := 39) (v := nI 39) (by decide +kernel) (by decide) ?_
      refine mV_cV (as := [.int (nI 39)]) (rest := []) (mc1 := 0) (ms1 := 0) (mc := 0) (ms := 0) (by decide +kernel) md_X13_is lk_13_254 sh_226 rfl rfl rfl (Nat.le_of_ble_eq_true rfl) (mC.mono (mm_contI (fun r1 G2 hK => ?_)) h)
      replace h := hK
      refine mV_if_eq (off := 15) (tgt := 95) (by decide +kernel) (by decide) (fun hc => ?_) (fun hc => ?_)
      · replace h := h.1 hc
        refine mV_aload_n (k := 0) (by decide +kernel) rfl ?_
        refine mV_aload_n (k := 0) (by decide +kernel) rfl ?_
        refine mV_cV (as := []) (rest := [.ref 226]) (mc1 := 0) (ms1 := 0) (mc := 0) (ms := 0) (by decide +kernel) md_X13_signed lk_13_323 sh_226 rfl rfl rfl (Nat.le_of_ble_eq_true rfl) (mC.mono (mm_contI (fun r3 G4 hK => ?_)) h)
        replace h := hK
        refine mV_pfi (by decide +kernel) fk_13_320 sh_226 ?_
        exact mV_vret (by decide +kernel) rfl h
      · replace h := h.2 hc
        refine mV_aload_n (k := 0) (by decide +kernel) rfl ?_
        refine mV_iconst (n := 2) (v := nI 2) (by decide +kernel) (by decide) ?_
        refine mV_pfi (by decide +kernel) fk_13_317 sh_226 ?_
        refine mV_aload_n (k := 0) (by decide +kernel) rfl ?_
        refine mV_cV (as := []) (rest := []) (mc1 := 0) (ms1 := 0) (mc := 0) (ms := 0) (by decide +kernel) md_X13_goesOn lk_13_257 sh_226 rfl rfl rfl (Nat.le_of_ble_eq_true rfl) (mC.mono (mm_contV (fun G6 hK => ?_)) h)
        replace h := hK
        refine mV_goto (off := 11) (tgt := 103) (by decide +kernel) (by decide) ?_
        exact mV_vret (by decide +kernel) rfl h
    · replace h := h.2 hc
      refine mV_aload_n (k := 0) (by decide +kernel) rfl ?_
      refine mV_gfr (r := some 229) (by decide +kernel) fk_13_20 sh_226 (mm_rrs st_226_5) rfl ?_
      refine mV_aload_n (k := 0) (by decide +kernel) rfl ?_
      refine mV_gfix (x := mg_i G 226 11) (by decide +kernel) fk_13_239 sh_226 rfl ?_
      refine mV_ialx (x := mg_i G 229 ((mg_i G 226 11).toNatClampNeg)) (by decide +kernel) sh_229 h.1 rfl ?_
      replace h := h.2
      refine mV_bipush (n := 38) (v := nI 38) (by decide +kernel) (by decide) ?_
      refine mV_icmp_gt (off := 31) (tgt := 74) (by decide +kernel) (by decide) (fun hc => ?_) (fun hc => ?_)
      · replace h := h.1 hc
        refine mV_aload_n (k := 0) (by decide +kernel) rfl ?_
        refine mV_bipush (n := 39) (v := nI 39) (by decide +kernel) (by decide) ?_
        refine mV_cV (as := [.int (nI 39)]) (rest := []) (mc1 := 0) (ms1 := 0) (mc := 0) (ms := 0) (by decide +kernel) md_X13_is lk_13_254 sh_226 rfl rfl rfl (Nat.le_of_ble_eq_true rfl) (mC.mono (mm_contI (fun r7 G8 hK => ?_)) h)
        replace h := hK
        refine mV_if_eq (off := 15) (tgt := 95) (by decide +kernel) (by decide) (fun hc => ?_) (fun hc => ?_)
        · replace h := h.1 hc
          refine mV_aload_n (k := 0) (by decide +kernel) rfl ?_
          refine mV_aload_n (k := 0) (by decide +kernel) rfl ?_
          refine mV_cV (as := []) (rest := [.ref 226]) (mc1 := 0) (ms1 := 0) (mc := 0) (ms := 0) (by decide +kernel) md_X13_signed lk_13_323 sh_226 rfl rfl rfl (Nat.le_of_ble_eq_true rfl) (mC.mono (mm_contI (fun r9 G10 hK => ?_)) h)
          replace h := hK
          refine mV_pfi (by decide +kernel) fk_13_320 sh_226 ?_
          exact mV_vret (by decide +kernel) rfl h
        · replace h := h.2 hc
          refine mV_aload_n (k := 0) (by decide +kernel) rfl ?_
          refine mV_iconst (n := 2) (v := nI 2) (by decide +kernel) (by decide) ?_
          refine mV_pfi (by decide +kernel) fk_13_317 sh_226 ?_
          refine mV_aload_n (k := 0) (by decide +kernel) rfl ?_
          refine mV_cV (as := []) (rest := []) (mc1 := 0) (ms1 := 0) (mc := 0) (ms := 0) (by decide +kernel) md_X13_goesOn lk_13_257 sh_226 rfl rfl rfl (Nat.le_of_ble_eq_true rfl) (mC.mono (mm_contV (fun G12 hK => ?_)) h)
          replace h := hK
          refine mV_goto (off := 11) (tgt := 103) (by decide +kernel) (by decide) ?_
          exact mV_vret (by decide +kernel) rfl h
      · replace h := h.2 hc
        refine mV_aload_n (k := 0) (by decide +kernel) rfl ?_
        refine mV_iconst (n := 1) (v := nI 1) (by decide +kernel) (by decide) ?_
        refine mV_pfi (by decide +kernel) fk_13_317 sh_226 ?_
        refine mV_aload_n (k := 0) (by decide +kernel) rfl ?_
        refine mV_aload_n (k := 0) (by decide +kernel) rfl ?_
        refine mV_gfr (r := some 229) (by decide +kernel) fk_13_20 sh_226 (mm_rrs st_226_5) rfl ?_
        refine mV_aload_n (k := 0) (by decide +kernel) rfl ?_
        refine mV_gfix (x := mg_i G 226 11) (by decide +kernel) fk_13_239 sh_226 rfl ?_
        refine mV_ialx (x := mg_i G 229 ((mg_i G 226 11).toNatClampNeg)) (by decide +kernel) sh_229 h.1 rfl ?_
        replace h := h.2
        refine mV_bipush (n := 35) (v := nI 35) (by decide +kernel) (by decide) ?_
        refine mV_isub (by decide +kernel) ?_
        refine mV_pfi (by decide +kernel) fk_13_320 sh_226 ?_
        refine mV_aload_n (k := 0) (by decide +kernel) rfl ?_
        refine mV_cV (as := []) (rest := []) (mc1 := 0) (ms1 := 0) (mc := 0) (ms := 0) (by decide +kernel) md_X13_goesOn lk_13_257 sh_226 rfl rfl rfl (Nat.le_of_ble_eq_true rfl) (mC.mono (mm_contV (fun G14 hK => ?_)) h)
        replace h := hK
        refine mV_goto (off := 32) (tgt := 103) (by decide +kernel) (by decide) ?_
        exact mV_vret (by decide +kernel) rfl h
  · replace h := h.2 hc
    exact mV_vret (by decide +kernel) rfl h
set_option maxRecDepth 100000 in
set_option maxHeartbeats 4000000 in
theorem e_X13_signed {l : Launch} {κ : mm_K} {d : Nat} {G : mm_G} {K : Int32 → mm_G → Prop}  (h : mC l κ true (d + 1) 0 0 m_X13_is [.ref 226, .int (nI 5)] G (rI (fun r1 G2 => ((r1 = 0 → mC l κ true (d + 1) 0 0 m_X13_is [.ref 226, .int (nI 2)] G2 (rI (fun r3 G4 => ((¬ r3 = 0 → (((mg_i G4 226 13) ≤ 0 → vp_in (mg_i G4 226 11) 403 ∧ mC l κ true (d + 1) 0 0 m_X13_goesOn [.ref 226] G4 (rV (fun G6 => ((r1 = 0 → K (mg_i G4 231 ((mg_i G4 226 11).toNatClampNeg)) G6) ∧ (¬ r1 = 0 → K (-(mg_i G4 231 ((mg_i G4 226 11).toNatClampNeg))) G6))))) ∧ (¬ (mg_i G4 226 13) ≤ 0 → K (nI 0) G4))) ∧ (r3 = 0 → mC l κ true (d + 1) 0 0 m_X13_fail [.ref 226, .int (nI 1)] G4 (rV (fun G8 => (((mg_i G8 226 13) ≤ 0 → vp_in (mg_i G8 226 11) 403 ∧ mC l κ true (d + 1) 0 0 m_X13_goesOn [.ref 226] G8 (rV (fun G10 => ((r1 = 0 → K (mg_i G8 231 ((mg_i G8 226 11).toNatClampNeg)) G10) ∧ (¬ r1 = 0 → K (-(mg_i G8 231 ((mg_i G8 226 11).toNatClampNeg))) G10))))) ∧ (¬ (mg_i G8 226 13) ≤ 0 → K (nI 0) G8))))))))) ∧ (¬ r1 = 0 → mC l κ true (d + 1) 0 0 m_X13_goesOn [.ref 226] G2 (rV (fun G12 => mC l κ true (d + 1) 0 0 m_X13_is [.ref 226, .int (nI 2)] G12 (rI (fun r13 G14 => ((¬ r13 = 0 → (((mg_i G14 226 13) ≤ 0 → vp_in (mg_i G14 226 11) 403 ∧ mC l κ true (d + 1) 0 0 m_X13_goesOn [.ref 226] G14 (rV (fun G16 => ((r1 = 0 → K (mg_i G14 231 ((mg_i G14 226 11).toNatClampNeg)) G16) ∧ (¬ r1 = 0 → K (-(mg_i G14 231 ((mg_i G14 226 11).toNatClampNeg))) G16))))) ∧ (¬ (mg_i G14 226 13) ≤ 0 → K (nI 0) G14))) ∧ (r13 = 0 → mC l κ true (d + 1) 0 0 m_X13_fail [.ref 226, .int (nI 1)] G14 (rV (fun G18 => (((mg_i G18 226 13) ≤ 0 → vp_in (mg_i G18 226 11) 403 ∧ mC l κ true (d + 1) 0 0 m_X13_goesOn [.ref 226] G18 (rV (fun G20 => ((r1 = 0 → K (mg_i G18 231 ((mg_i G18 226 11).toNatClampNeg)) G20) ∧ (¬ r1 = 0 → K (-(mg_i G18 231 ((mg_i G18 226 11).toNatClampNeg))) G20))))) ∧ (¬ (mg_i G18 226 13) ≤ 0 → K (nI 0) G18))))))))))))))) : mC l κ true (d + 2) 0 0 m_X13_signed [.ref 226] G (rI K) := by
  refine mC.of (by decide) (Nat.le_of_ble_eq_true rfl) [some (.ref 226), none, none] rfl ?_
  refine mV_aload_n (k := 0) (by decide +kernel) rfl ?_
  refine mV_iconst (n := 5) (v := nI 5) (by decide +kernel) (by decide) ?_
  refine mV_cV (as := [.int (nI 5)]) (rest := []) (mc1 := 0) (ms1 := 0) (mc := 0) (ms := 0) (by decide +kernel) md_X13_is lk_13_254 sh_226 rfl rfl rfl (Nat.le_of_ble_eq_true rfl) (mC.mono (mm_contI (fun r1 G2 hK => ?_)) h)
  replace h := hK
  refine mV_istore_n (k := 1) (ls' := [some (.ref 226), some (.int r1), none]) (by decide +kernel) (Nat.le_of_ble_eq_true rfl) rfl rfl ?_
  refine mV_iload_n (k := 1) (by decide +kernel) rfl ?_
  refine mV_if_eq (off := 7) (tgt := 14) (by decide +kernel) (by decide) (fun hc => ?_) (fun hc => ?_)
  · replace h := h.1 hc
    refine mV_aload_n (k := 0) (by decide +kernel) rfl ?_
    refine mV_iconst (n := 2) (v := nI 2) (by decide +kernel) (by decide) ?_
    refine mV_cV (as := [.int (nI 2)]) (rest := []) (mc1 := 0) (ms1 := 0) (mc := 0) (ms := 0) (by decide +kernel) md_X13_is lk_13_254 sh_226 rfl rfl rfl (Nat.le_of_ble_eq_true rfl) (mC.mono (mm_contI (fun r3 G4 hK => ?_)) h)
    replace h := hK
    refine mV_if_ne (off := 8) (tgt := 27) (by decide +kernel) (by decide) (fun hc => ?_) (fun hc => ?_)
    · replace h := h.1 hc
      refine mV_aload_n (k := 0) (by decide +kernel) rfl ?_
      refine mV_gfix (x := mg_i G4 226 13) (by decide +kernel) fk_13_236 sh_226 rfl ?_
      refine mV_if_le (off := 5) (tgt := 36) (by decide +kernel) (by decide) (fun hc => ?_) (fun hc => ?_)
      · replace h := h.1 hc
        refine mV_aload_n (k := 0) (by decide +kernel) rfl ?_
        refine mV_gfr (r := some 231) (by decide +kernel) fk_13_27 sh_226 (mm_rrs st_226_7) rfl ?_
        refine mV_aload_n (k := 0) (by decide +kernel) rfl ?_
        refine mV_gfix (x := mg_i G4 226 11) (by decide +kernel) fk_13_239 sh_226 rfl ?_
        refine mV_ialx (x := mg_i G4 231 ((mg_i G4 226 11).toNatClampNeg)) (by decide +kernel) sh_231 h.1 rfl ?_
        replace h := h.2
        refine mV_istore_n (k := 2) (ls' := [some (.ref 226), some (.int r1), some (.int (mg_i G4 231 ((mg_i G4 226 11).toNatClampNeg)))]) (by decide +kernel) (Nat.le_of_ble_eq_true rfl) rfl rfl ?_
        refine mV_aload_n (k := 0) (by decide +kernel) rfl ?_
        refine mV_cV (as := []) (rest := []) (mc1 := 0) (ms1 := 0) (mc := 0) (ms := 0) (by decide +kernel) md_X13_goesOn lk_13_257 sh_226 rfl rfl rfl (Nat.le_of_ble_eq_true rfl) (mC.mono (mm_contV (fun G6 hK => ?_)) h)
        replace h := hK
        refine mV_iload_n (k := 1) (by decide +kernel) rfl ?_
        refine mV_if_eq (off := 8) (tgt := 59) (by decide +kernel) (by decide) (fun hc => ?_) (fun hc => ?_)
        · replace h := h.1 hc
          refine mV_iload_n (k := 2) (by decide +kernel) rfl ?_
          exact mV_iret (by decide +kernel) rfl h
        · replace h := h.2 hc
          refine mV_iload_n (k := 2) (by decide +kernel) rfl ?_
          refine mV_ineg (by decide +kernel) ?_
          refine mV_goto (off := 4) (tgt := 60) (by decide +kernel) (by decide) ?_
          exact mV_iret (by decide +kernel) rfl h
      · replace h := h.2 hc
        refine mV_iconst (n := 0) (v := nI 0) (by decide +kernel) (by decide) ?_
        exact mV_iret (by decide +kernel) rfl h
    · replace h := h.2 hc
      refine mV_aload_n (k := 0) (by decide +kernel) rfl ?_
      refine mV_iconst (n := 1) (v := nI 1) (by decide +kernel) (by decide) ?_
      refine mV_cV (as := [.int (nI 1)]) (rest := []) (mc1 := 0) (ms1 := 0) (mc := 0) (ms := 0) (by decide +kernel) md_X13_fail lk_13_251 sh_226 rfl rfl rfl (Nat.le_of_ble_eq_true rfl) (mC.mono (mm_contV (fun G8 hK => ?_)) h)
      replace h := hK
      refine mV_aload_n (k := 0) (by decide +kernel) rfl ?_
      refine mV_gfix (x := mg_i G8 226 13) (by decide +kernel) fk_13_236 sh_226 rfl ?_
      refine mV_if_le (off := 5) (tgt := 36) (by decide +kernel) (by decide) (fun hc => ?_) (fun hc => ?_)
      · replace h := h.1 hc
        refine mV_aload_n (k := 0) (by decide +kernel) rfl ?_
        refine mV_gfr (r := some 231) (by decide +kernel) fk_13_27 sh_226 (mm_rrs st_226_7) rfl ?_
        refine mV_aload_n (k := 0) (by decide +kernel) rfl ?_
        refine mV_gfix (x := mg_i G8 226 11) (by decide +kernel) fk_13_239 sh_226 rfl ?_
        refine mV_ialx (x := mg_i G8 231 ((mg_i G8 226 11).toNatClampNeg)) (by decide +kernel) sh_231 h.1 rfl ?_
        replace h := h.2
        refine mV_istore_n (k := 2) (ls' := [some (.ref 226), some (.int r1), some (.int (mg_i G8 231 ((mg_i G8 226 11).toNatClampNeg)))]) (by decide +kernel) (Nat.le_of_ble_eq_true rfl) rfl rfl ?_
        refine mV_aload_n (k := 0) (by decide +kernel) rfl ?_
        refine mV_cV (as := []) (rest := []) (mc1 := 0) (ms1 := 0) (mc := 0) (ms := 0) (by decide +kernel) md_X13_goesOn lk_13_257 sh_226 rfl rfl rfl (Nat.le_of_ble_eq_true rfl) (mC.mono (mm_contV (fun G10 hK => ?_)) h)
        replace h := hK
        refine mV_iload_n (k := 1) (by decide +kernel) rfl ?_
        refine mV_if_eq (off := 8) (tgt := 59) (by decide +kernel) (by decide) (fun hc => ?_) (fun hc => ?_)
        · replace h := h.1 hc
          refine mV_iload_n (k := 2) (by decide +kernel) rfl ?_
          exact mV_iret (by decide +kernel) rfl h
        · replace h := h.2 hc
          refine mV_iload_n (k := 2) (by decide +kernel) rfl ?_
          refine mV_ineg (by decide +kernel) ?_
          refine mV_goto (off := 4) (tgt := 60) (by decide +kernel) (by decide) ?_
          exact mV_iret (by decide +kernel) rfl h
      · replace h := h.2 hc
        refine mV_iconst (n := 0) (v := nI 0) (by decide +kernel) (by decide) ?_
        exact mV_iret (by decide +kernel) rfl h
  · replace h := h.2 hc
    refine mV_aload_n (k := 0) (by decide +kernel) rfl ?_
    refine mV_cV (as := []) (rest := []) (mc1 := 0) (ms1 := 0) (mc := 0) (ms := 0) (by decide +kernel) md_X13_goesOn lk_13_257 sh_226 rfl rfl rfl (Nat.le_of_ble_eq_true rfl) (mC.mono (mm_contV (fun G12 hK => ?_)) h)
    replace h := hK
    refine mV_aload_n (k := 0) (by decide +kernel) rfl ?_
    refine mV_iconst (n := 2) (v := nI 2) (by decide +kernel) (by decide) ?_
    refine mV_cV (as := [.int (nI 2)]) (rest := []) (mc1 := 0) (ms1 := 0) (mc := 0) (ms := 0) (by decide +kernel) md_X13_is lk_13_254 sh_226 rfl rfl rfl (Nat.le_of_ble_eq_true rfl) (mC.mono (mm_contI (fun r13 G14 hK => ?_)) h)
    replace h := hK
    refine mV_if_ne (off := 8) (tgt := 27) (by decide +kernel) (by decide) (fun hc => ?_) (fun hc => ?_)
    · replace h := h.1 hc
      refine mV_aload_n (k := 0) (by decide +kernel) rfl ?_
      refine mV_gfix (x := mg_i G14 226 13) (by decide +kernel) fk_13_236 sh_226 rfl ?_
      refine mV_if_le (off := 5) (tgt := 36) (by decide +kernel) (by decide) (fun hc => ?_) (fun hc => ?_)
      · replace h := h.1 hc
        refine mV_aload_n (k := 0) (by decide +kernel) rfl ?_
        refine mV_gfr (r := some 231) (by decide +kernel) fk_13_27 sh_226 (mm_rrs st_226_7) rfl ?_
        refine mV_aload_n (k := 0) (by decide +kernel) rfl ?_
        refine mV_gfix (x := mg_i G14 226 11) (by decide +kernel) fk_13_239 sh_226 rfl ?_
        refine mV_ialx (x := mg_i G14 231 ((mg_i G14 226 11).toNatClampNeg)) (by decide +kernel) sh_231 h.1 rfl ?_
        replace h := h.2
        refine mV_istore_n (k := 2) (ls' := [some (.ref 226), some (.int r1), some (.int (mg_i G14 231 ((mg_i G14 226 11).toNatClampNeg)))]) (by decide +kernel) (Nat.le_of_ble_eq_true rfl) rfl rfl ?_
        refine mV_aload_n (k := 0) (by decide +kernel) rfl ?_
        refine mV_cV (as := []) (rest := []) (mc1 := 0) (ms1 := 0) (mc := 0) (ms := 0) (by decide +kernel) md_X13_goesOn lk_13_257 sh_226 rfl rfl rfl (Nat.le_of_ble_eq_true rfl) (mC.mono (mm_contV (fun G16 hK => ?_)) h)
        replace h := hK
        refine mV_iload_n (k := 1) (by decide +kernel) rfl ?_
        refine mV_if_eq (off := 8) (tgt := 59) (by decide +kernel) (by decide) (fun hc => ?_) (fun hc => ?_)
        · replace h := h.1 hc
          refine mV_iload_n (k := 2) (by decide +kernel) rfl ?_
          exact mV_iret (by decide +kernel) rfl h
        · replace h := h.2 hc
          refine mV_iload_n (k := 2) (by decide +kernel) rfl ?_
          refine mV_ineg (by decide +kernel) ?_
          refine mV_goto (off := 4) (tgt := 60) (by decide +kernel) (by decide) ?_
          exact mV_iret (by decide +kernel) rfl h
      · replace h := h.2 hc
        refine mV_iconst (n := 0) (v := nI 0) (by decide +kernel) (by decide) ?_
        exact mV_iret (by decide +kernel) rfl h
    · replace h := h.2 hc
      refine mV_aload_n (k := 0) (by decide +kernel) rfl ?_
      refine mV_iconst (n := 1) (v := nI 1) (by decide +kernel) (by decide) ?_
      refine mV_cV (as := [.int (nI 1)]) (rest := []) (mc1 := 0) (ms1 := 0) (mc := 0) (ms := 0) (by decide +kernel) md_X13_fail lk_13_251 sh_226 rfl rfl rfl (Nat.le_of_ble_eq_true rfl) (mC.mono (mm_contV (fun G18 hK => ?_)) h)
      replace h := hK
      refine mV_aload_n (k := 0) (by decide +kernel) rfl ?_
      refine mV_gfix (x := mg_i G18 226 13) (by decide +kernel) fk_13_236 sh_226 rfl ?_
      refine mV_if_le (off := 5) (tgt := 36) (by decide +kernel) (by decide) (fun hc => ?_) (fun hc => ?_)
      · replace h := h.1 hc
        refine mV_aload_n (k := 0) (by decide +kernel) rfl ?_
        refine mV_gfr (r := some 231) (by decide +kernel) fk_13_27 sh_226 (mm_rrs st_226_7) rfl ?_
        refine mV_aload_n (k := 0) (by decide +kernel) rfl ?_
        refine mV_gfix (x := mg_i G18 226 11) (by decide +kernel) fk_13_239 sh_226 rfl ?_
        refine mV_ialx (x := mg_i G18 231 ((mg_i G18 226 11).toNatClampNeg)) (by decide +kernel) sh_231 h.1 rfl ?_
        replace h := h.2
        refine mV_istore_n (k := 2) (ls' := [some (.ref 226), some (.int r1), some (.int (mg_i G18 231 ((mg_i G18 226 11).toNatClampNeg)))]) (by decide +kernel) (Nat.le_of_ble_eq_true rfl) rfl rfl ?_
        refine mV_aload_n (k := 0) (by decide +kernel) rfl ?_
        refine mV_cV (as := []) (rest := []) (mc1 := 0) (ms1 := 0) (mc := 0) (ms := 0) (by decide +kernel) md_X13_goesOn lk_13_257 sh_226 rfl rfl rfl (Nat.le_of_ble_eq_true rfl) (mC.mono (mm_contV (fun G20 hK => ?_)) h)
        replace h := hK
        refine mV_iload_n (k := 1) (by decide +kernel) rfl ?_
        refine mV_if_eq (off := 8) (tgt := 59) (by decide +kernel) (by decide) (fun hc => ?_) (fun hc => ?_)
        · replace h := h.1 hc
          refine mV_iload_n (k := 2) (by decide +kernel) rfl ?_
          exact mV_iret (by decide +kernel) rfl h
        · replace h := h.2 hc
          refine mV_iload_n (k := 2) (by decide +kernel) rfl ?_
          refine mV_ineg (by decide +kernel) ?_
          refine mV_goto (off := 4) (tgt := 60) (by decide +kernel) (by decide) ?_
          exact mV_iret (by decide +kernel) rfl h
      · replace h := h.2 hc
        refine mV_iconst (n := 0) (v := nI 0) (by decide +kernel) (by decide) ?_
        exact mV_iret (by decide +kernel) rfl h
set_option maxRecDepth 100000 in
set_option maxHeartbeats 4000000 in
theorem e_X13_first {l : Launch} {κ : mm_K} {d : Nat} {G : mm_G} {K : mm_G → Prop} (a1 : Int32) (h : mC l κ true (d + 3) 0 0 m_X13_value [.ref 226] G (rV (fun G2 => vp_in a1 320 ∧ vp_in a1 320 ∧ K (ms_i (ms_i G2 239 a1.toNatClampNeg (mg_i G2 226 41)) 240 a1.toNatClampNeg (mg_i G2 226 42))))) : mC l κ true (d + 4) 0 0 m_X13_first [.ref 226, .int a1] G (rV K) := by
  refine mC.of (by decide) (Nat.le_of_ble_eq_true rfl) [some (.ref 226), some (.int a1)] rfl ?_
  refine mV_aload_n (k := 0) (by decide +kernel) rfl ?_
  refine mV_cV (as := []) (rest := []) (mc1 := 0) (ms1 := 0) (mc := 0) (ms := 0) (by decide +kernel) md_X13_value lk_13_327 sh_226 rfl rfl rfl (Nat.le_of_ble_eq_true rfl) (mC.mono (mm_contV (fun G2 hK => ?_)) h)
  replace h := hK
  refine mV_aload_n (k := 0) (by decide +kernel) rfl ?_
  refine mV_gfr (r := some 239) (by decide +kernel) fk_13_55 sh_226 (mm_rrs st_226_25) rfl ?_
  refine mV_iload_n (k := 1) (by decide +kernel) rfl ?_
  refine mV_aload_n (k := 0) (by decide +kernel) rfl ?_
  refine mV_gfix (x := mg_i G2 226 41) (by decide +kernel) fk_13_317 sh_226 rfl ?_
  refine mV_ias (by decide +kernel) sh_239 h.1 ?_
  replace h := h.2
  refine mV_aload_n (k := 0) (by decide +kernel) rfl ?_
  refine mV_gfr (r := some 240) (by decide +kernel) fk_13_58 sh_226 (mm_rrs st_226_26) rfl ?_
  refine mV_iload_n (k := 1) (by decide +kernel) rfl ?_
  refine mV_aload_n (k := 0) (by decide +kernel) rfl ?_
  refine mV_gfix (x := mg_i G2 226 42) (by decide +kernel) fk_13_320 sh_226 rfl ?_
  refine mV_ias (by decide +kernel) sh_240 h.1 ?_
  replace h := h.2
  exact mV_vret (by decide +kernel) rfl h
set_option maxRecDepth 100000 in
set_option maxHeartbeats 4000000 in
theorem e_X13_second {l : Launch} {κ : mm_K} {d : Nat} {G : mm_G} {K : mm_G → Prop} (a1 : Int32) (h : mC l κ true (d + 3) 0 0 m_X13_value [.ref 226] G (rV (fun G2 => vp_in a1 320 ∧ vp_in a1 320 ∧ K (ms_i (ms_i G2 241 a1.toNatClampNeg (mg_i G2 226 41)) 242 a1.toNatClampNeg (mg_i G2 226 42))))) : mC l κ true (d + 4) 0 0 m_X13_second [.ref 226, .int a1] G (rV K) := by
  refine mC.of (by decide) (Nat.le_of_ble_eq_true rfl) [some (.ref 226), some (.int a1)] rfl ?_
  refine mV_aload_n (k := 0) (by decide +kernel) rfl ?_
  refine mV_cV (as := []) (rest := []) (mc1 := 0) (ms1 := 0) (mc := 0) (ms := 0) (by decide +kernel) md_X13_value lk_13_327 sh_226 rfl rfl rfl (Nat.le_of_ble_eq_true rfl) (mC.mono (mm_contV (fun G2 hK => ?_)) h)
  replace h := hK
  refine mV_aload_n (k := 0) (by decide +kernel) rfl ?_
  refine mV_gfr (r := some 241) (by decide +kernel) fk_13_61 sh_226 (mm_rrs st_226_27) rfl ?_
  refine mV_iload_n (k := 1) (by decide +kernel) rfl ?_
  refine mV_aload_n (k := 0) (by decide +kernel) rfl ?_
  refine mV_gfix (x := mg_i G2 226 41) (by decide +kernel) fk_13_317 sh_226 rfl ?_
  refine mV_ias (by decide +kernel) sh_241 h.1 ?_
  replace h := h.2
  refine mV_aload_n (k := 0) (by decide +kernel) rfl ?_
  refine mV_gfr (r := some 242) (by decide +kernel) fk_13_64 sh_226 (mm_rrs st_226_28) rfl ?_
  refine mV_iload_n (k := 1) (by decide +kernel) rfl ?_
  refine mV_aload_n (k := 0) (by decide +kernel) rfl ?_
  refine mV_gfix (x := mg_i G2 226 42) (by decide +kernel) fk_13_320 sh_226 rfl ?_
  refine mV_ias (by decide +kernel) sh_242 h.1 ?_
  replace h := h.2
  exact mV_vret (by decide +kernel) rfl h
set_option maxRecDepth 100000 in
set_option maxHeartbeats 4000000 in
theorem e_X13_isNumber {l : Launch} {κ : mm_K} {d : Nat} {G : mm_G} {K : Int32 → mm_G → Prop}  (h : mC l κ true d 0 0 m_X13_is [.ref 226, .int (nI 2)] G (rI (fun r1 G2 => ((¬ r1 = 0 → K (nI 1) G2) ∧ (r1 = 0 → mC l κ true d 0 0 m_X13_is [.ref 226, .int (nI 5)] G2 (rI (fun r3 G4 => ((r3 = 0 → K (nI 0) G4) ∧ (¬ r3 = 0 → K (nI 1) G4))))))))) : mC l κ true (d + 1) 0 0 m_X13_isNumber [.ref 226] G (rI K) := by
  refine mC.of (by decide) (Nat.le_of_ble_eq_true rfl) [some (.ref 226)] rfl ?_
  refine mV_aload_n (k := 0) (by decide +kernel) rfl ?_
  refine mV_iconst (n := 2) (v := nI 2) (by decide +kernel) (by decide) ?_
  refine mV_cV (as := [.int (nI 2)]) (rest := []) (mc1 := 0) (ms1 := 0) (mc := 0) (ms := 0) (by decide +kernel) md_X13_is lk_13_254 sh_226 rfl rfl rfl (Nat.le_of_ble_eq_true rfl) (mC.mono (mm_contI (fun r1 G2 hK => ?_)) h)
  replace h := hK
  refine mV_if_ne (off := 11) (tgt := 16) (by decide +kernel) (by decide) (fun hc => ?_) (fun hc => ?_)
  · replace h := h.1 hc
    refine mV_iconst (n := 1) (v := nI 1) (by decide +kernel) (by decide) ?_
    refine mV_goto (off := 4) (tgt := 21) (by decide +kernel) (by decide) ?_
    exact mV_zret (by decide +kernel) rfl (by decide) h
  · replace h := h.2 hc
    refine mV_aload_n (k := 0) (by decide +kernel) rfl ?_
    refine mV_iconst (n := 5) (v := nI 5) (by decide +kernel) (by decide) ?_
    refine mV_cV (as := [.int (nI 5)]) (rest := []) (mc1 := 0) (ms1 := 0) (mc := 0) (ms := 0) (by decide +kernel) md_X13_is lk_13_254 sh_226 rfl rfl rfl (Nat.le_of_ble_eq_true rfl) (mC.mono (mm_contI (fun r3 G4 hK => ?_)) h)
    replace h := hK
    refine mV_if_eq (off := 7) (tgt := 20) (by decide +kernel) (by decide) (fun hc => ?_) (fun hc => ?_)
    · replace h := h.1 hc
      refine mV_iconst (n := 0) (v := nI 0) (by decide +kernel) (by decide) ?_
      exact mV_zret (by decide +kernel) rfl (by decide) h
    · replace h := h.2 hc
      refine mV_iconst (n := 1) (v := nI 1) (by decide +kernel) (by decide) ?_
      refine mV_goto (off := 4) (tgt := 21) (by decide +kernel) (by decide) ?_
      exact mV_zret (by decide +kernel) rfl (by decide) h
set_option maxRecDepth 100000 in
set_option maxHeartbeats 4000000 in
theorem e_X13_tellTrial {l : Launch} {κ : mm_K} {d : Nat} {G : mm_G} {K : mm_G → Prop}  (h : vp_in (mg_i G 226 19) 2 ∧ mC l κ true (d + 2) 0 0 m_X13_goesOn [.ref 226] G (rV (fun G2 => vp_in (((nI 8) * (mg_i G 226 19)) + (mg_i G 249 ((mg_i G 226 19).toNatClampNeg))) 16 ∧ vp_in (((nI 8) * (mg_i G 226 19)) + (mg_i G 249 ((mg_i G 226 19).toNatClampNeg))) 16 ∧ mV l κ true (d + 3) 0 0 m_X13_tellTrial 36 [some (.ref 226), some (.int (((nI 8) * (mg_i G 226 19)) + (mg_i G 249 ((mg_i G 226 19).toNatClampNeg))))] [] (ms_i (ms_i G2 250 ((((nI 8) * (mg_i G 226 19)) + (mg_i G 249 ((mg_i G 226 19).toNatClampNeg))).toNatClampNeg) (nI 0)) 252 ((((nI 8) * (mg_i G 226 19)) + (mg_i G 249 ((mg_i G 226 19).toNatClampNeg))).toNatClampNeg) (-1)) (rV K)))) : mC l κ true (d + 3) 0 0 m_X13_tellTrial [.ref 226] G (rV K) := by
  refine mC.of (by decide) (Nat.le_of_ble_eq_true rfl) [some (.ref 226), none] rfl ?_
  refine mV_bipush (n := 8) (v := nI 8) (by decide +kernel) (by decide) ?_
  refine mV_aload_n (k := 0) (by decide +kernel) rfl ?_
  refine mV_gfix (x := mg_i G 226 19) (by decide +kernel) fk_13_269 sh_226 rfl ?_
  refine mV_imul (by decide +kernel) ?_
  refine mV_aload_n (k := 0) (by decide +kernel) rfl ?_
  refine mV_gfr (r := some 249) (by decide +kernel) fk_13_85 sh_226 (mm_rrs st_226_35) rfl ?_
  refine mV_aload_n (k := 0) (by decide +kernel) rfl ?_
  refine mV_gfix (x := mg_i G 226 19) (by decide +kernel) fk_13_269 sh_226 rfl ?_
  refine mV_ialx (x := mg_i G 249 ((mg_i G 226 19).toNatClampNeg)) (by decide +kernel) sh_249 h.1 rfl ?_
  replace h := h.2
  refine mV_iadd (by decide +kernel) ?_
  refine mV_istore_n (k := 1) (ls' := [some (.ref 226), some (.int (((nI 8) * (mg_i G 226 19)) + (mg_i G 249 ((mg_i G 226 19).toNatClampNeg))))]) (by decide +kernel) (Nat.le_of_ble_eq_true rfl) rfl rfl ?_
  refine mV_aload_n (k := 0) (by decide +kernel) rfl ?_
  refine mV_cV (as := []) (rest := []) (mc1 := 0) (ms1 := 0) (mc := 0) (ms := 0) (by decide +kernel) md_X13_goesOn lk_13_257 sh_226 rfl rfl rfl (Nat.le_of_ble_eq_true rfl) (mC.mono (mm_contV (fun G2 hK => ?_)) h)
  replace h := hK
  refine mV_aload_n (k := 0) (by decide +kernel) rfl ?_
  refine mV_gfr (r := some 250) (by decide +kernel) fk_13_88 sh_226 (mm_rrs st_226_36) rfl ?_
  refine mV_iload_n (k := 1) (by decide +kernel) rfl ?_
  refine mV_iconst (n := 0) (v := nI 0) (by decide +kernel) (by decide) ?_
  refine mV_ias (by decide +kernel) sh_250 h.1 ?_
  replace h := h.2
  refine mV_aload_n (k := 0) (by decide +kernel) rfl ?_
  refine mV_gfr (r := some 252) (by decide +kernel) fk_13_94 sh_226 (mm_rrs st_226_38) rfl ?_
  refine mV_iload_n (k := 1) (by decide +kernel) rfl ?_
  refine mV_iconst (n := -1) (v := (-1)) (by decide +kernel) (by decide) ?_
  refine mV_ias (by decide +kernel) sh_252 h.1 ?_
  replace h := h.2
  exact h
set_option maxRecDepth 100000 in
set_option maxHeartbeats 4000000 in
theorem p_X13_tellTrial_36 {l : Launch} {κ : mm_K} {d : Nat} {G : mm_G} {K : mm_G → Prop} (v1 : Int32) (h : ((¬ (mg_i G 226 13) = 0 → ((¬ (mg_i G 226 13) = 0 → mC l κ true (d + 2) 0 0 m_X13_must [.ref 226, .int (nI 4)] G (rV (fun G2 => ((¬ (mg_i G2 226 13) = 0 → K G2) ∧ ((mg_i G2 226 13) = 0 → vp_in (mg_i G2 226 19) 2 ∧ vp_in (mg_i G2 226 19) 2 ∧ K (ms_i G2 249 ((mg_i G2 226 19).toNatClampNeg) ((mg_i G2 249 ((mg_i G2 226 19).toNatClampNeg)) + (nI 1)))))))) ∧ ((mg_i G 226 13) = 0 → mC l κ true (d + 2) 0 0 m_X13_is [.ref 226, .int (nI 22)] G (rI (fun r3 G4 => ((r3 = 0 → mC l κ true (d + 2) 0 0 m_X13_must [.ref 226, .int (nI 4)] G4 (rV (fun G6 => ((¬ (mg_i G6 226 13) = 0 → K G6) ∧ ((mg_i G6 226 13) = 0 → vp_in (mg_i G6 226 19) 2 ∧ vp_in (mg_i G6 226 19) 2 ∧ K (ms_i G6 249 ((mg_i G6 226 19).toNatClampNeg) ((mg_i G6 249 ((mg_i G6 226 19).toNatClampNeg)) + (nI 1)))))))) ∧ (¬ r3 = 0 → mC l κ true (d + 2) 0 0 m_X13_goesOn [.ref 226] G4 (rV (fun G8 => vp_in v1 16 ∧ mV l κ true (d + 3) 0 0 m_X13_tellTrial 130 [some (.ref 226), some (.int v1)] [] (ms_i G8 252 v1.toNatClampNeg (nI 0)) (rV K)))))))))) ∧ ((mg_i G 226 13) = 0 → mC l κ true (d + 2) 0 0 m_X13_isNumber [.ref 226] G (rI (fun r9 G10 => ((r9 = 0 → ((¬ (mg_i G10 226 13) = 0 → mC l κ true (d + 2) 0 0 m_X13_must [.ref 226, .int (nI 4)] G10 (rV (fun G12 => ((¬ (mg_i G12 226 13) = 0 → K G12) ∧ ((mg_i G12 226 13) = 0 → vp_in (mg_i G12 226 19) 2 ∧ vp_in (mg_i G12 226 19) 2 ∧ K (ms_i G12 249 ((mg_i G12 226 19).toNatClampNeg) ((mg_i G12 249 ((mg_i G12 226 19).toNatClampNeg)) + (nI 1)))))))) ∧ ((mg_i G10 226 13) = 0 → mC l κ true (d + 2) 0 0 m_X13_is [.ref 226, .int (nI 22)] G10 (rI (fun r13 G14 => ((r13 = 0 → mC l κ true (d + 2) 0 0 m_X13_must [.ref 226, .int (nI 4)] G14 (rV (fun G16 => ((¬ (mg_i G16 226 13) = 0 → K G16) ∧ ((mg_i G16 226 13) = 0 → vp_in (mg_i G16 226 19) 2 ∧ vp_in (mg_i G16 226 19) 2 ∧ K (ms_i G16 249 ((mg_i G16 226 19).toNatClampNeg) ((mg_i G16 249 ((mg_i G16 226 19).toNatClampNeg)) + (nI 1)))))))) ∧ (¬ r13 = 0 → mC l κ true (d + 2) 0 0 m_X13_goesOn [.ref 226] G14 (rV (fun G18 => vp_in v1 16 ∧ mV l κ true (d + 3) 0 0 m_X13_tellTrial 130 [some (.ref 226), some (.int v1)] [] (ms_i G18 252 v1.toNatClampNeg (nI 0)) (rV K)))))))))) ∧ (¬ r9 = 0 → vp_in v1 16 ∧ mC l κ true (d + 2) 0 0 m_X13_room [.ref 226, .int (mg_i G10 250 v1.toNatClampNeg), .int (nI 6)] G10 (rV (fun G20 => (((mg_i G20 226 13) ≤ 0 → vp_in v1 16 ∧ mC l κ true (d + 2) 0 0 m_X13_signed [.ref 226] G20 (rI (fun r21 G22 => vp_in (((nI 6) * v1) + (mg_i G20 250 v1.toNatClampNeg)) 96 ∧ vp_in v1 16 ∧ vp_in v1 16 ∧ mV l κ true (d + 3) 0 0 m_X13_tellTrial 36 [some (.ref 226), some (.int v1)] [] (ms_i (ms_i G22 251 ((((nI 6) * v1) + (mg_i G20 250 v1.toNatClampNeg)).toNatClampNeg) r21) 250 v1.toNatClampNeg ((mg_i G22 250 v1.toNatClampNeg) + (nI 1))) (rV K)))) ∧ (¬ (mg_i G20 226 13) ≤ 0 → K G20))))))))))) : mV l κ true (d + 3) 0 0 m_X13_tellTrial 36 [some (.ref 226), some (.int v1)] [] G (rV K) := by
  refine mV_aload_n (k := 0) (by decide +kernel) rfl ?_
  refine mV_gfix (x := mg_i G 226 13) (by decide +kernel) fk_13_236 sh_226 rfl ?_
  refine mV_if_ne (off := 63) (tgt := 103) (by decide +kernel) (by decide) (fun hc => ?_) (fun hc => ?_)
  · replace h := h.1 hc
    refine mV_aload_n (k := 0) (by decide +kernel) rfl ?_
    refine mV_gfix (x := mg_i G 226 13) (by decide +kernel) fk_13_236 sh_226 rfl ?_
    refine mV_if_ne (off := 90) (tgt := 197) (by decide +kernel) (by decide) (fun hc => ?_) (fun hc => ?_)
    · replace h := h.1 hc
      refine mV_aload_n (k := 0) (by decide +kernel) rfl ?_
      refine mV_iconst (n := 4) (v := nI 4) (by decide +kernel) (by decide) ?_
      refine mV_cV (as := [.int (nI 4)]) (rest := []) (mc1 := 0) (ms1 := 0) (mc := 0) (ms := 0) (by decide +kernel) md_X13_must lk_13_288 sh_226 rfl rfl rfl (Nat.le_of_ble_eq_true rfl) (mC.mono (mm_contV (fun G2 hK => ?_)) h)
      replace h := hK
      refine mV_aload_n (k := 0) (by decide +kernel) rfl ?_
      refine mV_gfix (x := mg_i G2 226 13) (by decide +kernel) fk_13_236 sh_226 rfl ?_
      refine mV_if_ne (off := 16) (tgt := 222) (by decide +kernel) (by decide) (fun hc => ?_) (fun hc => ?_)
      · replace h := h.1 hc
        exact mV_vret (by decide +kernel) rfl h
      · replace h := h.2 hc
        refine mV_aload_n (k := 0) (by decide +kernel) rfl ?_
        refine mV_gfr (r := some 249) (by decide +kernel) fk_13_85 sh_226 (mm_rrs st_226_35) rfl ?_
        refine mV_aload_n (k := 0) (by decide +kernel) rfl ?_
        refine mV_gfix (x := mg_i G2 226 19) (by decide +kernel) fk_13_269 sh_226 rfl ?_
        refine mV_dup2 (by decide +kernel) rfl rfl ?_
        refine mV_ialx (x := mg_i G2 249 ((mg_i G2 226 19).toNatClampNeg)) (by decide +kernel) sh_249 h.1 rfl ?_
        replace h := h.2
        refine mV_iconst (n := 1) (v := nI 1) (by decide +kernel) (by decide) ?_
        refine mV_iadd (by decide +kernel) ?_
        refine mV_ias (by decide +kernel) sh_249 h.1 ?_
        replace h := h.2
        exact mV_vret (by decide +kernel) rfl h
    · replace h := h.2 hc
      refine mV_aload_n (k := 0) (by decide +kernel) rfl ?_
      refine mV_bipush (n := 22) (v := nI 22) (by decide +kernel) (by decide) ?_
      refine mV_cV (as := [.int (nI 22)]) (rest := []) (mc1 := 0) (ms1 := 0) (mc := 0) (ms := 0) (by decide +kernel) md_X13_is lk_13_254 sh_226 rfl rfl rfl (Nat.le_of_ble_eq_true rfl) (mC.mono (mm_contI (fun r3 G4 hK => ?_)) h)
      replace h := hK
      refine mV_if_eq (off := 81) (tgt := 197) (by decide +kernel) (by decide) (fun hc => ?_) (fun hc => ?_)
      · replace h := h.1 hc
        refine mV_aload_n (k := 0) (by decide +kernel) rfl ?_
        refine mV_iconst (n := 4) (v := nI 4) (by decide +kernel) (by decide) ?_
        refine mV_cV (as := [.int (nI 4)]) (rest := []) (mc1 := 0) (ms1 := 0) (mc := 0) (ms := 0) (by decide +kernel) md_X13_must lk_13_288 sh_226 rfl rfl rfl (Nat.le_of_ble_eq_true rfl) (mC.mono (mm_contV (fun G6 hK => ?_)) h)
        replace h := hK
        refine mV_aload_n (k := 0) (by decide +kernel) rfl ?_
        refine mV_gfix (x := mg_i G6 226 13) (by decide +kernel) fk_13_236 sh_226 rfl ?_
        refine mV_if_ne (off := 16) (tgt := 222) (by decide +kernel) (by decide) (fun hc => ?_) (fun hc => ?_)
        · replace h := h.1 hc
          exact mV_vret (by decide +kernel) rfl h
        · replace h := h.2 hc
          refine mV_aload_n (k := 0) (by decide +kernel) rfl ?_
          refine mV_gfr (r := some 249) (by decide +kernel) fk_13_85 sh_226 (mm_rrs st_226_35) rfl ?_
          refine mV_aload_n (k := 0) (by decide +kernel) rfl ?_
          refine mV_gfix (x := mg_i G6 226 19) (by decide +kernel) fk_13_269 sh_226 rfl ?_
          refine mV_dup2 (by decide +kernel) rfl rfl ?_
          refine mV_ialx (x := mg_i G6 249 ((mg_i G6 226 19).toNatClampNeg)) (by decide +kernel) sh_249 h.1 rfl ?_
          replace h := h.2
          refine mV_iconst (n := 1) (v := nI 1) (by decide +kernel) (by decide) ?_
          refine mV_iadd (by decide +kernel) ?_
          refine mV_ias (by decide +kernel) sh_249 h.1 ?_
          replace h := h.2
          exact mV_vret (by decide +kernel) rfl h
      · replace h := h.2 hc
        refine mV_aload_n (k := 0) (by decide +kernel) rfl ?_
        refine mV_cV (as := []) (rest := []) (mc1 := 0) (ms1 := 0) (mc := 0) (ms := 0) (by decide +kernel) md_X13_goesOn lk_13_257 sh_226 rfl rfl rfl (Nat.le_of_ble_eq_true rfl) (mC.mono (mm_contV (fun G8 hK => ?_)) h)
        replace h := hK
        refine mV_aload_n (k := 0) (by decide +kernel) rfl ?_
        refine mV_gfr (r := some 252) (by decide +kernel) fk_13_94 sh_226 (mm_rrs st_226_38) rfl ?_
        refine mV_iload_n (k := 1) (by decide +kernel) rfl ?_
        refine mV_iconst (n := 0) (v := nI 0) (by decide +kernel) (by decide) ?_
        refine mV_ias (by decide +kernel) sh_252 h.1 ?_
        replace h := h.2
        exact h
  · replace h := h.2 hc
    refine mV_aload_n (k := 0) (by decide +kernel) rfl ?_
    refine mV_cV (as := []) (rest := []) (mc1 := 0) (ms1 := 0) (mc := 0) (ms := 0) (by decide +kernel) md_X13_isNumber lk_13_330 sh_226 rfl rfl rfl (Nat.le_of_ble_eq_true rfl) (mC.mono (mm_contI (fun r9 G10 hK => ?_)) h)
    replace h := hK
    refine mV_if_eq (off := 56) (tgt := 103) (by decide +kernel) (by decide) (fun hc => ?_) (fun hc => ?_)
    · replace h := h.1 hc
      refine mV_aload_n (k := 0) (by decide +kernel) rfl ?_
      refine mV_gfix (x := mg_i G10 226 13) (by decide +kernel) fk_13_236 sh_226 rfl ?_
      refine mV_if_ne (off := 90) (tgt := 197) (by decide +kernel) (by decide) (fun hc => ?_) (fun hc => ?_)
      · replace h := h.1 hc
        refine mV_aload_n (k := 0) (by decide +kernel) rfl ?_
        refine mV_iconst (n := 4) (v := nI 4) (by decide +kernel) (by decide) ?_
        refine mV_cV (as := [.int (nI 4)]) (rest := []) (mc1 := 0) (ms1 := 0) (mc := 0) (ms := 0) (by decide +kernel) md_X13_must lk_13_288 sh_226 rfl rfl rfl (Nat.le_of_ble_eq_true rfl) (mC.mono (mm_contV (fun G12 hK => ?_)) h)
        replace h := hK
        refine mV_aload_n (k := 0) (by decide +kernel) rfl ?_
        refine mV_gfix (x := mg_i G12 226 13) (by decide +kernel) fk_13_236 sh_226 rfl ?_
        refine mV_if_ne (off := 16) (tgt := 222) (by decide +kernel) (by decide) (fun hc => ?_) (fun hc => ?_)
        · replace h := h.1 hc
          exact mV_vret (by decide +kernel) rfl h
        · replace h := h.2 hc
          refine mV_aload_n (k := 0) (by decide +kernel) rfl ?_
          refine mV_gfr (r := some 249) (by decide +kernel) fk_13_85 sh_226 (mm_rrs st_226_35) rfl ?_
          refine mV_aload_n (k := 0) (by decide +kernel) rfl ?_
          refine mV_gfix (x := mg_i G12 226 19) (by decide +kernel) fk_13_269 sh_226 rfl ?_
          refine mV_dup2 (by decide +kernel) rfl rfl ?_
          refine mV_ialx (x := mg_i G12 249 ((mg_i G12 226 19).toNatClampNeg)) (by decide +kernel) sh_249 h.1 rfl ?_
          replace h := h.2
          refine mV_iconst (n := 1) (v := nI 1) (by decide +kernel) (by decide) ?_
          refine mV_iadd (by decide +kernel) ?_
          refine mV_ias (by decide +kernel) sh_249 h.1 ?_
          replace h := h.2
          exact mV_vret (by decide +kernel) rfl h
      · replace h := h.2 hc
        refine mV_aload_n (k := 0) (by decide +kernel) rfl ?_
        refine mV_bipush (n := 22) (v := nI 22) (by decide +kernel) (by decide) ?_
        refine mV_cV (as := [.int (nI 22)]) (rest := []) (mc1 := 0) (ms1 := 0) (mc := 0) (ms := 0) (by decide +kernel) md_X13_is lk_13_254 sh_226 rfl rfl rfl (Nat.le_of_ble_eq_true rfl) (mC.mono (mm_contI (fun r13 G14 hK => ?_)) h)
        replace h := hK
        refine mV_if_eq (off := 81) (tgt := 197) (by decide +kernel) (by decide) (fun hc => ?_) (fun hc => ?_)
        · replace h := h.1 hc
          refine mV_aload_n (k := 0) (by decide +kernel) rfl ?_
          refine mV_iconst (n := 4) (v := nI 4) (by decide +kernel) (by decide) ?_
          refine mV_cV (as := [.int (nI 4)]) (rest := []) (mc1 := 0) (ms1 := 0) (mc := 0) (ms := 0) (by decide +kernel) md_X13_must lk_13_288 sh_226 rfl rfl rfl (Nat.le_of_ble_eq_true rfl) (mC.mono (mm_contV (fun G16 hK => ?_)) h)
          replace h := hK
          refine mV_aload_n (k := 0) (by decide +kernel) rfl ?_
          refine mV_gfix (x := mg_i G16 226 13) (by decide +kernel) fk_13_236 sh_226 rfl ?_
          refine mV_if_ne (off := 16) (tgt := 222) (by decide +kernel) (by decide) (fun hc => ?_) (fun hc => ?_)
          · replace h := h.1 hc
            exact mV_vret (by decide +kernel) rfl h
          · replace h := h.2 hc
            refine mV_aload_n (k := 0) (by decide +kernel) rfl ?_
            refine mV_gfr (r := some 249) (by decide +kernel) fk_13_85 sh_226 (mm_rrs st_226_35) rfl ?_
            refine mV_aload_n (k := 0) (by decide +kernel) rfl ?_
            refine mV_gfix (x := mg_i G16 226 19) (by decide +kernel) fk_13_269 sh_226 rfl ?_
            refine mV_dup2 (by decide +kernel) rfl rfl ?_
            refine mV_ialx (x := mg_i G16 249 ((mg_i G16 226 19).toNatClampNeg)) (by decide +kernel) sh_249 h.1 rfl ?_
            replace h := h.2
            refine mV_iconst (n := 1) (v := nI 1) (by decide +kernel) (by decide) ?_
            refine mV_iadd (by decide +kernel) ?_
            refine mV_ias (by decide +kernel) sh_249 h.1 ?_
            replace h := h.2
            exact mV_vret (by decide +kernel) rfl h
        · replace h := h.2 hc
          refine mV_aload_n (k := 0) (by decide +kernel) rfl ?_
          refine mV_cV (as := []) (rest := []) (mc1 := 0) (ms1 := 0) (mc := 0) (ms := 0) (by decide +kernel) md_X13_goesOn lk_13_257 sh_226 rfl rfl rfl (Nat.le_of_ble_eq_true rfl) (mC.mono (mm_contV (fun G18 hK => ?_)) h)
          replace h := hK
          refine mV_aload_n (k := 0) (by decide +kernel) rfl ?_
          refine mV_gfr (r := some 252) (by decide +kernel) fk_13_94 sh_226 (mm_rrs st_226_38) rfl ?_
          refine mV_iload_n (k := 1) (by decide +kernel) rfl ?_
          refine mV_iconst (n := 0) (v := nI 0) (by decide +kernel) (by decide) ?_
          refine mV_ias (by decide +kernel) sh_252 h.1 ?_
          replace h := h.2
          exact h
    · replace h := h.2 hc
      refine mV_aload_n (k := 0) (by decide +kernel) rfl ?_
      refine mV_aload_n (k := 0) (by decide +kernel) rfl ?_
      refine mV_gfr (r := some 250) (by decide +kernel) fk_13_88 sh_226 (mm_rrs st_226_36) rfl ?_
      refine mV_iload_n (k := 1) (by decide +kernel) rfl ?_
      refine mV_ialx (x := mg_i G10 250 v1.toNatClampNeg) (by decide +kernel) sh_250 h.1 rfl ?_
      replace h := h.2
      refine mV_bipush (n := 6) (v := nI 6) (by decide +kernel) (by decide) ?_
      refine mV_cV (as := [.int (mg_i G10 250 v1.toNatClampNeg), .int (nI 6)]) (rest := []) (mc1 := 0) (ms1 := 0) (mc := 0) (ms := 0) (by decide +kernel) md_X13_room lk_13_278 sh_226 rfl rfl rfl (Nat.le_of_ble_eq_true rfl) (mC.mono (mm_contV (fun G20 hK => ?_)) h)
      replace h := hK
      refine mV_aload_n (k := 0) (by decide +kernel) rfl ?_
      refine mV_gfix (x := mg_i G20 226 13) (by decide +kernel) fk_13_236 sh_226 rfl ?_
      refine mV_if_le (off := 4) (tgt := 70) (by decide +kernel) (by decide) (fun hc => ?_) (fun hc => ?_)
      · replace h := h.1 hc
        refine mV_aload_n (k := 0) (by decide +kernel) rfl ?_
        refine mV_gfr (r := some 251) (by decide +kernel) fk_13_91 sh_226 (mm_rrs st_226_37) rfl ?_
        refine mV_bipush (n := 6) (v := nI 6) (by decide +kernel) (by decide) ?_
        refine mV_iload_n (k := 1) (by decide +kernel) rfl ?_
        refine mV_imul (by decide +kernel) ?_
        refine mV_aload_n (k := 0) (by decide +kernel) rfl ?_
        refine mV_gfr (r := some 250) (by decide +kernel) fk_13_88 sh_226 (mm_rrs st_226_36) rfl ?_
        refine mV_iload_n (k := 1) (by decide +kernel) rfl ?_
        refine mV_ialx (x := mg_i G20 250 v1.toNatClampNeg) (by decide +kernel) sh_250 h.1 rfl ?_
        replace h := h.2
        refine mV_iadd (by decide +kernel) ?_
        refine mV_aload_n (k := 0) (by decide +kernel) rfl ?_
        refine mV_cV (as := []) (rest := [.int (((nI 6) * v1) + (mg_i G20 250 v1.toNatClampNeg)), .ref 251]) (mc1 := 0) (ms1 := 0) (mc := 0) (ms := 0) (by decide +kernel) md_X13_signed lk_13_323 sh_226 rfl rfl rfl (Nat.le_of_ble_eq_true rfl) (mC.mono (mm_contI (fun r21 G22 hK => ?_)) h)
        replace h := hK
        refine mV_ias (by decide +kernel) sh_251 h.1 ?_
        replace h := h.2
        refine mV_aload_n (k := 0) (by decide +kernel) rfl ?_
        refine mV_gfr (r := some 250) (by decide +kernel) fk_13_88 sh_226 (mm_rrs st_226_36) rfl ?_
        refine mV_iload_n (k := 1) (by decide +kernel) rfl ?_
        refine mV_dup2 (by decide +kernel) rfl rfl ?_
        refine mV_ialx (x := mg_i G22 250 v1.toNatClampNeg) (by decide +kernel) sh_250 h.1 rfl ?_
        replace h := h.2
        refine mV_iconst (n := 1) (v := nI 1) (by decide +kernel) (by decide) ?_
        refine mV_iadd (by decide +kernel) ?_
        refine mV_ias (by decide +kernel) sh_250 h.1 ?_
        replace h := h.2
        refine mV_goto (off := -64) (tgt := 36) (by decide +kernel) (by decide) ?_
        exact h
      · replace h := h.2 hc
        exact mV_vret (by decide +kernel) rfl h
set_option maxRecDepth 100000 in
set_option maxHeartbeats 4000000 in
theorem p_X13_tellTrial_130 {l : Launch} {κ : mm_K} {d : Nat} {G : mm_G} {K : mm_G → Prop} (v1 : Int32) (h : ((¬ (mg_i G 226 13) = 0 → mC l κ true (d + 2) 0 0 m_X13_must [.ref 226, .int (nI 4)] G (rV (fun G2 => ((¬ (mg_i G2 226 13) = 0 → K G2) ∧ ((mg_i G2 226 13) = 0 → vp_in (mg_i G2 226 19) 2 ∧ vp_in (mg_i G2 226 19) 2 ∧ K (ms_i G2 249 ((mg_i G2 226 19).toNatClampNeg) ((mg_i G2 249 ((mg_i G2 226 19).toNatClampNeg)) + (nI 1)))))))) ∧ ((mg_i G 226 13) = 0 → mC l κ true (d + 2) 0 0 m_X13_isNumber [.ref 226] G (rI (fun r3 G4 => ((r3 = 0 → mC l κ true (d + 2) 0 0 m_X13_must [.ref 226, .int (nI 4)] G4 (rV (fun G6 => ((¬ (mg_i G6 226 13) = 0 → K G6) ∧ ((mg_i G6 226 13) = 0 → vp_in (mg_i G6 226 19) 2 ∧ vp_in (mg_i G6 226 19) 2 ∧ K (ms_i G6 249 ((mg_i G6 226 19).toNatClampNeg) ((mg_i G6 249 ((mg_i G6 226 19).toNatClampNeg)) + (nI 1)))))))) ∧ (¬ r3 = 0 → vp_in v1 16 ∧ mC l κ true (d + 2) 0 0 m_X13_room [.ref 226, .int (mg_i G4 252 v1.toNatClampNeg), .int (nI 8)] G4 (rV (fun G8 => (((mg_i G8 226 13) ≤ 0 → vp_in v1 16 ∧ mC l κ true (d + 2) 0 0 m_X13_signed [.ref 226] G8 (rI (fun r9 G10 => vp_in (((nI 8) * v1) + (mg_i G8 252 v1.toNatClampNeg)) 128 ∧ vp_in v1 16 ∧ vp_in v1 16 ∧ mV l κ true (d + 3) 0 0 m_X13_tellTrial 130 [some (.ref 226), some (.int v1)] [] (ms_i (ms_i G10 253 ((((nI 8) * v1) + (mg_i G8 252 v1.toNatClampNeg)).toNatClampNeg) r9) 252 v1.toNatClampNeg ((mg_i G10 252 v1.toNatClampNeg) + (nI 1))) (rV K)))) ∧ (¬ (mg_i G8 226 13) ≤ 0 → K G8))))))))))) : mV l κ true (d + 3) 0 0 m_X13_tellTrial 130 [some (.ref 226), some (.int v1)] [] G (rV K) := by
  refine mV_aload_n (k := 0) (by decide +kernel) rfl ?_
  refine mV_gfix (x := mg_i G 226 13) (by decide +kernel) fk_13_236 sh_226 rfl ?_
  refine mV_if_ne (off := 63) (tgt := 197) (by decide +kernel) (by decide) (fun hc => ?_) (fun hc => ?_)
  · replace h := h.1 hc
    refine mV_aload_n (k := 0) (by decide +kernel) rfl ?_
    refine mV_iconst (n := 4) (v := nI 4) (by decide +kernel) (by decide) ?_
    refine mV_cV (as := [.int (nI 4)]) (rest := []) (mc1 := 0) (ms1 := 0) (mc := 0) (ms := 0) (by decide +kernel) md_X13_must lk_13_288 sh_226 rfl rfl rfl (Nat.le_of_ble_eq_true rfl) (mC.mono (mm_contV (fun G2 hK => ?_)) h)
    replace h := hK
    refine mV_aload_n (k := 0) (by decide +kernel) rfl ?_
    refine mV_gfix (x := mg_i G2 226 13) (by decide +kernel) fk_13_236 sh_226 rfl ?_
    refine mV_if_ne (off := 16) (tgt := 222) (by decide +kernel) (by decide) (fun hc => ?_) (fun hc => ?_)
    · replace h := h.1 hc
      exact mV_vret (by decide +kernel) rfl h
    · replace h := h.2 hc
      refine mV_aload_n (k := 0) (by decide +kernel) rfl ?_
      refine mV_gfr (r := some 249) (by decide +kernel) fk_13_85 sh_226 (mm_rrs st_226_35) rfl ?_
      refine mV_aload_n (k := 0) (by decide +kernel) rfl ?_
      refine mV_gfix (x := mg_i G2 226 19) (by decide +kernel) fk_13_269 sh_226 rfl ?_
      refine mV_dup2 (by decide +kernel) rfl rfl ?_
      refine mV_ialx (x := mg_i G2 249 ((mg_i G2 226 19).toNatClampNeg)) (by decide +kernel) sh_249 h.1 rfl ?_
      replace h := h.2
      refine mV_iconst (n := 1) (v := nI 1) (by decide +kernel) (by decide) ?_
      refine mV_iadd (by decide +kernel) ?_
      refine mV_ias (by decide +kernel) sh_249 h.1 ?_
      replace h := h.2
      exact mV_vret (by decide +kernel) rfl h
  · replace h := h.2 hc
    refine mV_aload_n (k := 0) (by decide +kernel) rfl ?_
    refine mV_cV (as := []) (rest := []) (mc1 := 0) (ms1 := 0) (mc := 0) (ms := 0) (by decide +kernel) md_X13_isNumber lk_13_330 sh_226 rfl rfl rfl (Nat.le_of_ble_eq_true rfl) (mC.mono (mm_contI (fun r3 G4 hK => ?_)) h)
    replace h := hK
    refine mV_if_eq (off := 56) (tgt := 197) (by decide +kernel) (by decide) (fun hc => ?_) (fun hc => ?_)
    · replace h := h.1 hc
      refine mV_aload_n (k := 0) (by decide +kernel) rfl ?_
      refine mV_iconst (n := 4) (v := nI 4) (by decide +kernel) (by decide) ?_
      refine mV_cV (as := [.int (nI 4)]) (rest := []) (mc1 := 0) (ms1 := 0) (mc := 0) (ms := 0) (by decide +kernel) md_X13_must lk_13_288 sh_226 rfl rfl rfl (Nat.le_of_ble_eq_true rfl) (mC.mono (mm_contV (fun G6 hK => ?_)) h)
      replace h := hK
      refine mV_aload_n (k := 0) (by decide +kernel) rfl ?_
      refine mV_gfix (x := mg_i G6 226 13) (by decide +kernel) fk_13_236 sh_226 rfl ?_
      refine mV_if_ne (off := 16) (tgt := 222) (by decide +kernel) (by decide) (fun hc => ?_) (fun hc => ?_)
      · replace h := h.1 hc
        exact mV_vret (by decide +kernel) rfl h
      · replace h := h.2 hc
        refine mV_aload_n (k := 0) (by decide +kernel) rfl ?_
        refine mV_gfr (r := some 249) (by decide +kernel) fk_13_85 sh_226 (mm_rrs st_226_35) rfl ?_
        refine mV_aload_n (k := 0) (by decide +kernel) rfl ?_
        refine mV_gfix (x := mg_i G6 226 19) (by decide +kernel) fk_13_269 sh_226 rfl ?_
        refine mV_dup2 (by decide +kernel) rfl rfl ?_
        refine mV_ialx (x := mg_i G6 249 ((mg_i G6 226 19).toNatClampNeg)) (by decide +kernel) sh_249 h.1 rfl ?_
        replace h := h.2
        refine mV_iconst (n := 1) (v := nI 1) (by decide +kernel) (by decide) ?_
        refine mV_iadd (by decide +kernel) ?_
        refine mV_ias (by decide +kernel) sh_249 h.1 ?_
        replace h := h.2
        exact mV_vret (by decide +kernel) rfl h
    · replace h := h.2 hc
      refine mV_aload_n (k := 0) (by decide +kernel) rfl ?_
      refine mV_aload_n (k := 0) (by decide +kernel) rfl ?_
      refine mV_gfr (r := some 252) (by decide +kernel) fk_13_94 sh_226 (mm_rrs st_226_38) rfl ?_
      refine mV_iload_n (k := 1) (by decide +kernel) rfl ?_
      refine mV_ialx (x := mg_i G4 252 v1.toNatClampNeg) (by decide +kernel) sh_252 h.1 rfl ?_
      replace h := h.2
      refine mV_bipush (n := 8) (v := nI 8) (by decide +kernel) (by decide) ?_
      refine mV_cV (as := [.int (mg_i G4 252 v1.toNatClampNeg), .int (nI 8)]) (rest := []) (mc1 := 0) (ms1 := 0) (mc := 0) (ms := 0) (by decide +kernel) md_X13_room lk_13_278 sh_226 rfl rfl rfl (Nat.le_of_ble_eq_true rfl) (mC.mono (mm_contV (fun G8 hK => ?_)) h)
      replace h := hK
      refine mV_aload_n (k := 0) (by decide +kernel) rfl ?_
      refine mV_gfix (x := mg_i G8 226 13) (by decide +kernel) fk_13_236 sh_226 rfl ?_
      refine mV_if_le (off := 4) (tgt := 164) (by decide +kernel) (by decide) (fun hc => ?_) (fun hc => ?_)
      · replace h := h.1 hc
        refine mV_aload_n (k := 0) (by decide +kernel) rfl ?_
        refine mV_gfr (r := some 253) (by decide +kernel) fk_13_97 sh_226 (mm_rrs st_226_39) rfl ?_
        refine mV_bipush (n := 8) (v := nI 8) (by decide +kernel) (by decide) ?_
        refine mV_iload_n (k := 1) (by decide +kernel) rfl ?_
        refine mV_imul (by decide +kernel) ?_
        refine mV_aload_n (k := 0) (by decide +kernel) rfl ?_
        refine mV_gfr (r := some 252) (by decide +kernel) fk_13_94 sh_226 (mm_rrs st_226_38) rfl ?_
        refine mV_iload_n (k := 1) (by decide +kernel) rfl ?_
        refine mV_ialx (x := mg_i G8 252 v1.toNatClampNeg) (by decide +kernel) sh_252 h.1 rfl ?_
        replace h := h.2
        refine mV_iadd (by decide +kernel) ?_
        refine mV_aload_n (k := 0) (by decide +kernel) rfl ?_
        refine mV_cV (as := []) (rest := [.int (((nI 8) * v1) + (mg_i G8 252 v1.toNatClampNeg)), .ref 253]) (mc1 := 0) (ms1 := 0) (mc := 0) (ms := 0) (by decide +kernel) md_X13_signed lk_13_323 sh_226 rfl rfl rfl (Nat.le_of_ble_eq_true rfl) (mC.mono (mm_contI (fun r9 G10 hK => ?_)) h)
        replace h := hK
        refine mV_ias (by decide +kernel) sh_253 h.1 ?_
        replace h := h.2
        refine mV_aload_n (k := 0) (by decide +kernel) rfl ?_
        refine mV_gfr (r := some 252) (by decide +kernel) fk_13_94 sh_226 (mm_rrs st_226_38) rfl ?_
        refine mV_iload_n (k := 1) (by decide +kernel) rfl ?_
        refine mV_dup2 (by decide +kernel) rfl rfl ?_
        refine mV_ialx (x := mg_i G10 252 v1.toNatClampNeg) (by decide +kernel) sh_252 h.1 rfl ?_
        replace h := h.2
        refine mV_iconst (n := 1) (v := nI 1) (by decide +kernel) (by decide) ?_
        refine mV_iadd (by decide +kernel) ?_
        refine mV_ias (by decide +kernel) sh_252 h.1 ?_
        replace h := h.2
        refine mV_goto (off := -64) (tgt := 130) (by decide +kernel) (by decide) ?_
        exact h
      · replace h := h.2 hc
        exact mV_vret (by decide +kernel) rfl h
