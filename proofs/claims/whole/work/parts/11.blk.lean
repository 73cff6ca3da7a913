set_option maxRecDepth 100000 in
set_option maxHeartbeats 4000000 in
theorem e_X13_in {l : Launch} {κ : mm_K} {d : Nat} {G : mm_G} {K : Int32 → mm_G → Prop} (a1 : Int32) (a2 : Int32) (a3 : Int32) (h : ((a1 < a2 → K (nI 0) G) ∧ (¬ a1 < a2 → ((a3 < a1 → K (nI 0) G) ∧ (¬ a3 < a1 → K (nI 1) G))))) : mC l κ true d 0 0 m_X13_in [.int a1, .int a2, .int a3] G (rI K) := by
  refine mC.of (by decide) (Nat.le_of_ble_eq_true rfl) [some (.int a1), some (.int a2), some (.int a3)] rfl ?_
  refine mV_iload_n (k := 0) (by decide +kernel) rfl ?_
  refine mV_iload_n (k := 1) (by decide +kernel) rfl ?_
  refine mV_icmp_lt (off := 12) (tgt := 14) (by decide +kernel) (by decide) (fun hc => ?_) (fun hc => ?_)
  · replace h := h.1 hc
    refine mV_iconst (n := 0) (v := nI 0) (by decide +kernel) (by decide) ?_
    exact mV_zret (by decide +kernel) rfl (by decide) h
  · replace h := h.2 hc
    refine mV_iload_n (k := 0) (by decide +kernel) rfl ?_
    refine mV_iload_n (k := 2) (by decide +kernel) rfl ?_
    refine mV_icmp_gt (off := 7) (tgt := 14) (by decide +kernel) (by decide) (fun hc => ?_) (fun hc => ?_)
    · replace h := h.1 hc
      refine mV_iconst (n := 0) (v := nI 0) (by decide +kernel) (by decide) ?_
      exact mV_zret (by decide +kernel) rfl (by decide) h
    · replace h := h.2 hc
      refine mV_iconst (n := 1) (v := nI 1) (by decide +kernel) (by decide) ?_
      refine mV_goto (off := 4) (tgt := 15) (by decide +kernel) (by decide) ?_
      exact mV_zret (by decide +kernel) rfl (by decide) h
set_option maxRecDepth 100000 in
set_option maxHeartbeats 4000000 in
theorem e_X13_bits {l : Launch} {κ : mm_K} {d : Nat} {G : mm_G} {K : Int32 → mm_G → Prop} (a1 : Int32) (h : mV l κ true d 0 0 m_X13_bits 4 [some (.int a1), some (.int (nI 0)), some (.int (nI 0))] [] G (rI K)) : mC l κ true d 0 0 m_X13_bits [.int a1] G (rI K) := by
  refine mC.of (by decide) (Nat.le_of_ble_eq_true rfl) [some (.int a1), none, none] rfl ?_
  refine mV_iconst (n := 0) (v := nI 0) (by decide +kernel) (by decide) ?_
  refine mV_istore_n (k := 1) (ls' := [some (.int a1), some (.int (nI 0)), none]) (by decide +kernel) (Nat.le_of_ble_eq_true rfl) rfl rfl ?_
  refine mV_iconst (n := 0) (v := nI 0) (by decide +kernel) (by decide) ?_
  refine mV_istore_n (k := 2) (ls' := [some (.int a1), some (.int (nI 0)), some (.int (nI 0))]) (by decide +kernel) (Nat.le_of_ble_eq_true rfl) rfl rfl ?_
  exact h
set_option maxRecDepth 100000 in
set_option maxHeartbeats 4000000 in
theorem p_X13_bits_4 {l : Launch} {κ : mm_K} {d : Nat} {G : mm_G} {K : Int32 → mm_G → Prop} (v0 : Int32) (v1 : Int32) (v2 : Int32) (h : (((nI 16) ≤ v2 → K v1 G) ∧ (¬ (nI 16) ≤ v2 → mV l κ true d 0 0 m_X13_bits 4 [some (.int v0), some (.int (v1 + ((v0 >>> (v2 &&& 31)) &&& (nI 1)))), some (.int (v2 + (nI 1)))] [] G (rI K)))) : mV l κ true d 0 0 m_X13_bits 4 [some (.int v0), some (.int v1), some (.int v2)] [] G (rI K) := by
  refine mV_iload_n (k := 2) (by decide +kernel) rfl ?_
  refine mV_bipush (n := 16) (v := nI 16) (by decide +kernel) (by decide) ?_
  refine mV_icmp_ge (off := 17) (tgt := 24) (by decide +kernel) (by decide) (fun hc => ?_) (fun hc => ?_)
  · replace h := h.1 hc
    refine mV_iload_n (k := 1) (by decide +kernel) rfl ?_
    exact mV_iret (by decide +kernel) rfl h
  · replace h := h.2 hc
    refine mV_iload_n (k := 1) (by decide +kernel) rfl ?_
    refine mV_iload_n (k := 0) (by decide +kernel) rfl ?_
    refine mV_iload_n (k := 2) (by decide +kernel) rfl ?_
    refine mV_ishr (by decide +kernel) ?_
    refine mV_iconst (n := 1) (v := nI 1) (by decide +kernel) (by decide) ?_
    refine mV_iand (by decide +kernel) ?_
    refine mV_iadd (by decide +kernel) ?_
    refine mV_istore_n (k := 1) (ls' := [some (.int v0), some (.int (v1 + ((v0 >>> (v2 &&& 31)) &&& (nI 1)))), some (.int v2)]) (by decide +kernel) (Nat.le_of_ble_eq_true rfl) rfl rfl ?_
    refine mV_iincc (i := 2) (n := 1) (c := nI 1) (ls' := [some (.int v0), some (.int (v1 + ((v0 >>> (v2 &&& 31)) &&& (nI 1)))), some (.int (v2 + (nI 1)))]) (by decide +kernel) (by decide) rfl (Nat.le_of_ble_eq_true rfl) rfl rfl ?_
    refine mV_goto (off := -17) (tgt := 4) (by decide +kernel) (by decide) ?_
    exact h
set_option maxRecDepth 100000 in
set_option maxHeartbeats 4000000 in
theorem e_X13_lineAt {l : Launch} {κ : mm_K} {d : Nat} {G : mm_G} {K : Int32 → mm_G → Prop} (a1 : Int32) (a2 : Int32) (h : K ((((nI 64) * (mg_i G 226 18)) + ((nI 16) * a1)) + a2) G) : mC l κ true d 0 0 m_X13_lineAt [.ref 226, .int a1, .int a2] G (rI K) := by
  refine mC.of (by decide) (Nat.le_of_ble_eq_true rfl) [some (.ref 226), some (.int a1), some (.int a2)] rfl ?_
  refine mV_bipush (n := 64) (v := nI 64) (by decide +kernel) (by decide) ?_
  refine mV_aload_n (k := 0) (by decide +kernel) rfl ?_
  refine mV_gfix (x := mg_i G 226 18) (by decide +kernel) fk_13_266 sh_226 rfl ?_
  refine mV_imul (by decide +kernel) ?_
  refine mV_bipush (n := 16) (v := nI 16) (by decide +kernel) (by decide) ?_
  refine mV_iload_n (k := 1) (by decide +kernel) rfl ?_
  refine mV_imul (by decide +kernel) ?_
  refine mV_iadd (by decide +kernel) ?_
  refine mV_iload_n (k := 2) (by decide +kernel) rfl ?_
  refine mV_iadd (by decide +kernel) ?_
  exact mV_iret (by decide +kernel) rfl h
set_option maxRecDepth 100000 in
set_option maxHeartbeats 4000000 in
theorem e_X13_linesOf {l : Launch} {κ : mm_K} {d : Nat} {G : mm_G} {K : Int32 → mm_G → Prop} (a1 : Int32) (h : vp_in (((nI 4) * (mg_i G 226 18)) + a1) 20 ∧ K (mg_i G 236 ((((nI 4) * (mg_i G 226 18)) + a1).toNatClampNeg)) G) : mC l κ true d 0 0 m_X13_linesOf [.ref 226, .int a1] G (rI K) := by
  refine mC.of (by decide) (Nat.le_of_ble_eq_true rfl) [some (.ref 226), some (.int a1)] rfl ?_
  refine mV_aload_n (k := 0) (by decide +kernel) rfl ?_
  refine mV_gfr (r := some 236) (by decide +kernel) fk_13_46 sh_226 (mm_rrs st_226_22) rfl ?_
  refine mV_iconst (n := 4) (v := nI 4) (by decide +kernel) (by decide) ?_
  refine mV_aload_n (k := 0) (by decide +kernel) rfl ?_
  refine mV_gfix (x := mg_i G 226 18) (by decide +kernel) fk_13_266 sh_226 rfl ?_
  refine mV_imul (by decide +kernel) ?_
  refine mV_iload_n (k := 1) (by decide +kernel) rfl ?_
  refine mV_iadd (by decide +kernel) ?_
  refine mV_ialx (x := mg_i G 236 ((((nI 4) * (mg_i G 226 18)) + a1).toNatClampNeg)) (by decide +kernel) sh_236 h.1 rfl ?_
  replace h := h.2
  exact mV_iret (by decide +kernel) rfl h
set_option maxRecDepth 100000 in
set_option maxHeartbeats 4000000 in
theorem e_X13_takesRow {l : Launch} {κ : mm_K} {d : Nat} {G : mm_G} {K : mm_G → Prop} (a1 : Int32) (a2 : Int32) (h : mC l κ true d 0 0 m_X13_linesOf [.ref 226, .int a1] (ms_i G 226 46 a1) (rI (fun r1 G2 => mV l κ true (d + 1) 0 0 m_X13_takesRow 21 [some (.ref 226), some (.int a1), some (.int a2), some (.int (nI 0))] [] (ms_i (ms_i G2 226 45 r1) 226 47 a2) (rV K)))) : mC l κ true (d + 1) 0 0 m_X13_takesRow [.ref 226, .int a1, .int a2] G (rV K) := by
  refine mC.of (by decide) (Nat.le_of_ble_eq_true rfl) [some (.ref 226), some (.int a1), some (.int a2), none] rfl ?_
  refine mV_aload_n (k := 0) (by decide +kernel) rfl ?_
  refine mV_iload_n (k := 1) (by decide +kernel) rfl ?_
  refine mV_pfi (by decide +kernel) fk_13_334 sh_226 ?_
  refine mV_aload_n (k := 0) (by decide +kernel) rfl ?_
  refine mV_aload_n (k := 0) (by decide +kernel) rfl ?_
  refine mV_iload_n (k := 1) (by decide +kernel) rfl ?_
  refine mV_cV (as := [.int a1]) (rest := [.ref 226]) (mc1 := 0) (ms1 := 0) (mc := 0) (ms := 0) (by decide +kernel) md_X13_linesOf lk_13_337 sh_226 rfl rfl rfl (Nat.le_of_ble_eq_true rfl) (mC.mono (mm_contI (fun r1 G2 hK => ?_)) h)
  replace h := hK
  refine mV_pfi (by decide +kernel) fk_13_340 sh_226 ?_
  refine mV_aload_n (k := 0) (by decide +kernel) rfl ?_
  refine mV_iload_n (k := 2) (by decide +kernel) rfl ?_
  refine mV_pfi (by decide +kernel) fk_13_343 sh_226 ?_
  refine mV_iconst (n := 0) (v := nI 0) (by decide +kernel) (by decide) ?_
  refine mV_istore_n (k := 3) (ls' := [some (.ref 226), some (.int a1), some (.int a2), some (.int (nI 0))]) (by decide +kernel) (Nat.le_of_ble_eq_true rfl) rfl rfl ?_
  exact h
set_option maxRecDepth 100000 in
set_option maxHeartbeats 4000000 in
theorem p_X13_takesRow_21 {l : Launch} {κ : mm_K} {d : Nat} {G : mm_G} {K : mm_G → Prop} (v1 : Int32) (v2 : Int32) (v3 : Int32) (h : (((mg_i G 226 45) ≤ v3 → K G) ∧ (¬ (mg_i G 226 45) ≤ v3 → mC l κ true d 0 0 m_X13_lineAt [.ref 226, .int v1, .int v3] G (rI (fun r1 G2 => vp_in v3 20 ∧ vp_in v3 20 ∧ mV l κ true (d + 1) 0 0 m_X13_takesRow 21 [some (.ref 226), some (.int v1), some (.int v2), some (.int (v3 + (nI 1)))] [] (ms_i (ms_i G2 255 v3.toNatClampNeg r1) 256 v3.toNatClampNeg v3) (rV K)))))) : mV l κ true (d + 1) 0 0 m_X13_takesRow 21 [some (.ref 226), some (.int v1), some (.int v2), some (.int v3)] [] G (rV K) := by
  refine mV_iload_n (k := 3) (by decide +kernel) rfl ?_
  refine mV_aload_n (k := 0) (by decide +kernel) rfl ?_
  refine mV_gfix (x := mg_i G 226 45) (by decide +kernel) fk_13_340 sh_226 rfl ?_
  refine mV_icmp_ge (off := 28) (tgt := 54) (by decide +kernel) (by decide) (fun hc => ?_) (fun hc => ?_)
  · replace h := h.1 hc
    exact mV_vret (by decide +kernel) rfl h
  · replace h := h.2 hc
    refine mV_aload_n (k := 0) (by decide +kernel) rfl ?_
    refine mV_gfr (r := some 255) (by decide +kernel) fk_13_103 sh_226 (mm_rrs st_226_43) rfl ?_
    refine mV_iload_n (k := 3) (by decide +kernel) rfl ?_
    refine mV_aload_n (k := 0) (by decide +kernel) rfl ?_
    refine mV_iload_n (k := 1) (by decide +kernel) rfl ?_
    refine mV_iload_n (k := 3) (by decide +kernel) rfl ?_
    refine mV_cV (as := [.int v1, .int v3]) (rest := [.int v3, .ref 255]) (mc1 := 0) (ms1 := 0) (mc := 0) (ms := 0) (by decide +kernel) md_X13_lineAt lk_13_346 sh_226 rfl rfl rfl (Nat.le_of_ble_eq_true rfl) (mC.mono (mm_contI (fun r1 G2 hK => ?_)) h)
    replace h := hK
    refine mV_ias (by decide +kernel) sh_255 h.1 ?_
    replace h := h.2
    refine mV_aload_n (k := 0) (by decide +kernel) rfl ?_
    refine mV_gfr (r := some 256) (by decide +kernel) fk_13_106 sh_226 (mm_rrs st_226_44) rfl ?_
    refine mV_iload_n (k := 3) (by decide +kernel) rfl ?_
    refine mV_iload_n (k := 3) (by decide +kernel) rfl ?_
    refine mV_ias (by decide +kernel) sh_256 h.1 ?_
    replace h := h.2
    refine mV_iincc (i := 3) (n := 1) (c := nI 1) (ls' := [some (.ref 226), some (.int v1), some (.int v2), some (.int (v3 + (nI 1)))]) (by decide +kernel) (by decide) rfl (Nat.le_of_ble_eq_true rfl) rfl rfl ?_
    refine mV_goto (off := -30) (tgt := 21) (by decide +kernel) (by decide) ?_
    exact h
set_option maxRecDepth 100000 in
set_option maxHeartbeats 4000000 in
theorem e_X13_valueOf {l : Launch} {κ : mm_K} {d : Nat} {G : mm_G} {K : Int32 → mm_G → Prop} (a1 : Int32) (a2 : Int32) (h : ((¬ a1 = 0 → ((¬ a1 = (nI 1) → vp_in (((nI 8) * (mg_i G 226 18)) + (mg_i G 226 50)) 16 ∧ (((mg_i G 250 ((((nI 8) * (mg_i G 226 18)) + (mg_i G 226 50)).toNatClampNeg)) ≤ (mg_i G 226 49) → K (nI 0) (ms_i G 226 49 ((mg_i G 226 49) + (nI 1)))) ∧ (¬ (mg_i G 250 ((((nI 8) * (mg_i G 226 18)) + (mg_i G 226 50)).toNatClampNeg)) ≤ (mg_i G 226 49) → vp_in (((nI 6) * (((nI 8) * (mg_i G 226 18)) + (mg_i G 226 50))) + (mg_i G 226 49)) 96 ∧ K (mg_i G 251 ((((nI 6) * (((nI 8) * (mg_i G 226 18)) + (mg_i G 226 50))) + (mg_i G 226 49)).toNatClampNeg)) (ms_i G 226 49 ((mg_i G 226 49) + (nI 1)))))) ∧ (a1 = (nI 1) → vp_in a2 4 ∧ K (mg_i G 257 a2.toNatClampNeg) G))) ∧ (a1 = 0 → K a2 G))) : mC l κ true d 0 0 m_X13_valueOf [.ref 226, .int a1, .int a2] G (rI K) := by
  refine mC.of (by decide) (Nat.le_of_ble_eq_true rfl) [some (.ref 226), some (.int a1), some (.int a2), none, none] rfl ?_
  refine mV_iload_n (k := 1) (by decide +kernel) rfl ?_
  refine mV_if_ne (off := 5) (tgt := 6) (by decide +kernel) (by decide) (fun hc => ?_) (fun hc => ?_)
  · replace h := h.1 hc
    refine mV_iload_n (k := 1) (by decide +kernel) rfl ?_
    refine mV_iconst (n := 1) (v := nI 1) (by decide +kernel) (by decide) ?_
    refine mV_icmp_ne (off := 10) (tgt := 18) (by decide +kernel) (by decide) (fun hc => ?_) (fun hc => ?_)
    · replace h := h.1 hc
      refine mV_bipush (n := 8) (v := nI 8) (by decide +kernel) (by decide) ?_
      refine mV_aload_n (k := 0) (by decide +kernel) rfl ?_
      refine mV_gfix (x := mg_i G 226 18) (by decide +kernel) fk_13_266 sh_226 rfl ?_
      refine mV_imul (by decide +kernel) ?_
      refine mV_aload_n (k := 0) (by decide +kernel) rfl ?_
      refine mV_gfix (x := mg_i G 226 50) (by decide +kernel) fk_13_350 sh_226 rfl ?_
      refine mV_iadd (by decide +kernel) ?_
      refine mV_istore_n (k := 3) (ls' := [some (.ref 226), some (.int a1), some (.int a2), some (.int (((nI 8) * (mg_i G 226 18)) + (mg_i G 226 50))), none]) (by decide +kernel) (Nat.le_of_ble_eq_true rfl) rfl rfl ?_
      refine mV_aload_n (k := 0) (by decide +kernel) rfl ?_
      refine mV_gfix (x := mg_i G 226 49) (by decide +kernel) fk_13_353 sh_226 rfl ?_
      refine mV_aload_n (k := 0) (by decide +kernel) rfl ?_
      refine mV_gfr (r := some 250) (by decide +kernel) fk_13_88 sh_226 (mm_rrs st_226_36) rfl ?_
      refine mV_iload_n (k := 3) (by decide +kernel) rfl ?_
      refine mV_ialx (x := mg_i G 250 ((((nI 8) * (mg_i G 226 18)) + (mg_i G 226 50)).toNatClampNeg)) (by decide +kernel) sh_250 h.1 rfl ?_
      replace h := h.2
      refine mV_icmp_ge (off := 20) (tgt := 61) (by decide +kernel) (by decide) (fun hc => ?_) (fun hc => ?_)
      · replace h := h.1 hc
        refine mV_iconst (n := 0) (v := nI 0) (by decide +kernel) (by decide) ?_
        refine mV_istore (i := 4) (ls' := [some (.ref 226), some (.int a1), some (.int a2), some (.int (((nI 8) * (mg_i G 226 18)) + (mg_i G 226 50))), some (.int (nI 0))]) (by decide +kernel) (Nat.le_of_ble_eq_true rfl) rfl rfl ?_
        refine mV_aload_n (k := 0) (by decide +kernel) rfl ?_
        refine mV_dup (by decide +kernel) rfl ?_
        refine mV_gfix (x := mg_i G 226 49) (by decide +kernel) fk_13_353 sh_226 rfl ?_
        refine mV_iconst (n := 1) (v := nI 1) (by decide +kernel) (by decide) ?_
        refine mV_iadd (by decide +kernel) ?_
        refine mV_pfi (by decide +kernel) fk_13_353 sh_226 ?_
        refine mV_iload (i := 4) (by decide +kernel) rfl ?_
        exact mV_iret (by decide +kernel) rfl h
      · replace h := h.2 hc
        refine mV_aload_n (k := 0) (by decide +kernel) rfl ?_
        refine mV_gfr (r := some 251) (by decide +kernel) fk_13_91 sh_226 (mm_rrs st_226_37) rfl ?_
        refine mV_bipush (n := 6) (v := nI 6) (by decide +kernel) (by decide) ?_
        refine mV_iload_n (k := 3) (by decide +kernel) rfl ?_
        refine mV_imul (by decide +kernel) ?_
        refine mV_aload_n (k := 0) (by decide +kernel) rfl ?_
        refine mV_gfix (x := mg_i G 226 49) (by decide +kernel) fk_13_353 sh_226 rfl ?_
        refine mV_iadd (by decide +kernel) ?_
        refine mV_ialx (x := mg_i G 251 ((((nI 6) * (((nI 8) * (mg_i G 226 18)) + (mg_i G 226 50))) + (mg_i G 226 49)).toNatClampNeg)) (by decide +kernel) sh_251 h.1 rfl ?_
        replace h := h.2
        refine mV_goto (off := 4) (tgt := 62) (by decide +kernel) (by decide) ?_
        refine mV_istore (i := 4) (ls' := [some (.ref 226), some (.int a1), some (.int a2), some (.int (((nI 8) * (mg_i G 226 18)) + (mg_i G 226 50))), some (.int (mg_i G 251 ((((nI 6) * (((nI 8) * (mg_i G 226 18)) + (mg_i G 226 50))) + (mg_i G 226 49)).toNatClampNeg)))]) (by decide +kernel) (Nat.le_of_ble_eq_true rfl) rfl rfl ?_
        refine mV_aload_n (k := 0) (by decide +kernel) rfl ?_
        refine mV_dup (by decide +kernel) rfl ?_
        refine mV_gfix (x := mg_i G 226 49) (by decide +kernel) fk_13_353 sh_226 rfl ?_
        refine mV_iconst (n := 1) (v := nI 1) (by decide +kernel) (by decide) ?_
        refine mV_iadd (by decide +kernel) ?_
        refine mV_pfi (by decide +kernel) fk_13_353 sh_226 ?_
        refine mV_iload (i := 4) (by decide +kernel) rfl ?_
        exact mV_iret (by decide +kernel) rfl h
    · replace h := h.2 hc
      refine mV_aload_n (k := 0) (by decide +kernel) rfl ?_
      refine mV_gfr (r := some 257) (by decide +kernel) fk_13_109 sh_226 (mm_rrs st_226_48) rfl ?_
      refine mV_iload_n (k := 2) (by decide +kernel) rfl ?_
      refine mV_ialx (x := mg_i G 257 a2.toNatClampNeg) (by decide +kernel) sh_257 h.1 rfl ?_
      replace h := h.2
      exact mV_iret (by decide +kernel) rfl h
  · replace h := h.2 hc
    refine mV_iload_n (k := 2) (by decide +kernel) rfl ?_
    exact mV_iret (by decide +kernel) rfl h
set_option maxRecDepth 100000 in
set_option maxHeartbeats 4000000 in
theorem e_X13_topLines {l : Launch} {κ : mm_K} {d : Nat} {G : mm_G} {K : Int32 → mm_G → Prop}  (h : vp_in (mg_i G 226 58) 8 ∧ ((¬ (mg_i G 260 ((mg_i G 226 58).toNatClampNeg)) = (-1) → vp_in (mg_i G 226 58) 8 ∧ mC l κ true d 0 0 m_X13_linesOf [.ref 226, .int (mg_i G 260 ((mg_i G 226 58).toNatClampNeg))] G (rI (fun r1 G2 => K r1 G2))) ∧ ((mg_i G 260 ((mg_i G 226 58).toNatClampNeg)) = (-1) → K (mg_i G 226 45) G))) : mC l κ true (d + 1) 0 0 m_X13_topLines [.ref 226] G (rI K) := by
  refine mC.of (by decide) (Nat.le_of_ble_eq_true rfl) [some (.ref 226)] rfl ?_
  refine mV_aload_n (k := 0) (by decide +kernel) rfl ?_
  refine mV_gfr (r := some 260) (by decide +kernel) fk_13_118 sh_226 (mm_rrs st_226_56) rfl ?_
  refine mV_aload_n (k := 0) (by decide +kernel) rfl ?_
  refine mV_gfix (x := mg_i G 226 58) (by decide +kernel) fk_13_356 sh_226 rfl ?_
  refine mV_ialx (x := mg_i G 260 ((mg_i G 226 58).toNatClampNeg)) (by decide +kernel) sh_260 h.1 rfl ?_
  replace h := h.2
  refine mV_iconst (n := -1) (v := (-1)) (by decide +kernel) (by decide) ?_
  refine mV_icmp_ne (off := 10) (tgt := 20) (by decide +kernel) (by decide) (fun hc => ?_) (fun hc => ?_)
  · replace h := h.1 hc
    refine mV_aload_n (k := 0) (by decide +kernel) rfl ?_
    refine mV_aload_n (k := 0) (by decide +kernel) rfl ?_
    refine mV_gfr (r := some 260) (by decide +kernel) fk_13_118 sh_226 (mm_rrs st_226_56) rfl ?_
    refine mV_aload_n (k := 0) (by decide +kernel) rfl ?_
    refine mV_gfix (x := mg_i G 226 58) (by decide +kernel) fk_13_356 sh_226 rfl ?_
    refine mV_ialx (x := mg_i G 260 ((mg_i G 226 58).toNatClampNeg)) (by decide +kernel) sh_260 h.1 rfl ?_
    replace h := h.2
    refine mV_cV (as := [.int (mg_i G 260 ((mg_i G 226 58).toNatClampNeg))]) (rest := []) (mc1 := 0) (ms1 := 0) (mc := 0) (ms := 0) (by decide +kernel) md_X13_linesOf lk_13_337 sh_226 rfl rfl rfl (Nat.le_of_ble_eq_true rfl) (mC.mono (mm_contI (fun r1 G2 hK => ?_)) h)
    replace h := hK
    exact mV_iret (by decide +kernel) rfl h
  · replace h := h.2 hc
    refine mV_aload_n (k := 0) (by decide +kernel) rfl ?_
    refine mV_gfix (x := mg_i G 226 45) (by decide +kernel) fk_13_340 sh_226 rfl ?_
    refine mV_goto (off := 16) (tgt := 33) (by decide +kernel) (by decide) ?_
    exact mV_iret (by decide +kernel) rfl h
set_option maxRecDepth 100000 in
set_option maxHeartbeats 4000000 in
theorem e_X13_topLine {l : Launch} {κ : mm_K} {d : Nat} {G : mm_G} {K : Int32 → mm_G → Prop} (a1 : Int32) (h : vp_in (mg_i G 226 58) 8 ∧ ((¬ (mg_i G 260 ((mg_i G 226 58).toNatClampNeg)) = (-1) → vp_in (mg_i G 226 58) 8 ∧ mC l κ true d 0 0 m_X13_lineAt [.ref 226, .int (mg_i G 260 ((mg_i G 226 58).toNatClampNeg)), .int a1] G (rI (fun r1 G2 => K r1 G2))) ∧ ((mg_i G 260 ((mg_i G 226 58).toNatClampNeg)) = (-1) → vp_in a1 20 ∧ K (mg_i G 255 a1.toNatClampNeg) G))) : mC l κ true (d + 1) 0 0 m_X13_topLine [.ref 226, .int a1] G (rI K) := by
  refine mC.of (by decide) (Nat.le_of_ble_eq_true rfl) [some (.ref 226), some (.int a1)] rfl ?_
  refine mV_aload_n (k := 0) (by decide +kernel) rfl ?_
  refine mV_gfr (r := some 260) (by decide +kernel) fk_13_118 sh_226 (mm_rrs st_226_56) rfl ?_
  refine mV_aload_n (k := 0) (by decide +kernel) rfl ?_
  refine mV_gfix (x := mg_i G 226 58) (by decide +kernel) fk_13_356 sh_226 rfl ?_
  refine mV_ialx (x := mg_i G 260 ((mg_i G 226 58).toNatClampNeg)) (by decide +kernel) sh_260 h.1 rfl ?_
  replace h := h.2
  refine mV_iconst (n := -1) (v := (-1)) (by decide +kernel) (by decide) ?_
  refine mV_icmp_ne (off := 12) (tgt := 22) (by decide +kernel) (by decide) (fun hc => ?_) (fun hc => ?_)
  · replace h := h.1 hc
    refine mV_aload_n (k := 0) (by decide +kernel) rfl ?_
    refine mV_aload_n (k := 0) (by decide +kernel) rfl ?_
    refine mV_gfr (r := some 260) (by decide +kernel) fk_13_118 sh_226 (mm_rrs st_226_56) rfl ?_
    refine mV_aload_n (k := 0) (by decide +kernel) rfl ?_
    refine mV_gfix (x := mg_i G 226 58) (by decide +kernel) fk_13_356 sh_226 rfl ?_
    refine mV_ialx (x := mg_i G 260 ((mg_i G 226 58).toNatClampNeg)) (by decide +kernel) sh_260 h.1 rfl ?_
    replace h := h.2
    refine mV_iload_n (k := 1) (by decide +kernel) rfl ?_
    refine mV_cV (as := [.int (mg_i G 260 ((mg_i G 226 58).toNatClampNeg)), .int a1]) (rest := []) (mc1 := 0) (ms1 := 0) (mc := 0) (ms := 0) (by decide +kernel) md_X13_lineAt lk_13_346 sh_226 rfl rfl rfl (Nat.le_of_ble_eq_true rfl) (mC.mono (mm_contI (fun r1 G2 hK => ?_)) h)
    replace h := hK
    exact mV_iret (by decide +kernel) rfl h
  · replace h := h.2 hc
    refine mV_aload_n (k := 0) (by decide +kernel) rfl ?_
    refine mV_gfr (r := some 255) (by decide +kernel) fk_13_103 sh_226 (mm_rrs st_226_43) rfl ?_
    refine mV_iload_n (k := 1) (by decide +kernel) rfl ?_
    refine mV_ialx (x := mg_i G 255 a1.toNatClampNeg) (by decide +kernel) sh_255 h.1 rfl ?_
    replace h := h.2
    refine mV_goto (off := 17) (tgt := 36) (by decide +kernel) (by decide) ?_
    exact mV_iret (by decide +kernel) rfl h
set_option maxRecDepth 100000 in
set_option maxHeartbeats 4000000 in
theorem e_X13_isThere {l : Launch} {κ : mm_K} {d : Nat} {G : mm_G} {K : Int32 → mm_G → Prop} (a1 : Int32) (h : vp_in (mg_i G 226 58) 8 ∧ ((¬ (mg_i G 260 ((mg_i G 226 58).toNatClampNeg)) = (-1) → K (nI 1) G) ∧ ((mg_i G 260 ((mg_i G 226 58).toNatClampNeg)) = (-1) → ((¬ (((mg_i G 226 47) >>> (a1 &&& 31)) &&& (nI 1)) = 0 → K (nI 0) G) ∧ ((((mg_i G 226 47) >>> (a1 &&& 31)) &&& (nI 1)) = 0 → K (nI 1) G))))) : mC l κ true d 0 0 m_X13_isThere [.ref 226, .int a1] G (rI K) := by
  refine mC.of (by decide) (Nat.le_of_ble_eq_true rfl) [some (.ref 226), some (.int a1)] rfl ?_
  refine mV_aload_n (k := 0) (by decide +kernel) rfl ?_
  refine mV_gfr (r := some 260) (by decide +kernel) fk_13_118 sh_226 (mm_rrs st_226_56) rfl ?_
  refine mV_aload_n (k := 0) (by decide +kernel) rfl ?_
  refine mV_gfix (x := mg_i G 226 58) (by decide +kernel) fk_13_356 sh_226 rfl ?_
  refine mV_ialx (x := mg_i G 260 ((mg_i G 226 58).toNatClampNeg)) (by decide +kernel) sh_260 h.1 rfl ?_
  replace h := h.2
  refine mV_iconst (n := -1) (v := (-1)) (by decide +kernel) (by decide) ?_
  refine mV_icmp_ne (off := 14) (tgt := 24) (by decide +kernel) (by decide) (fun hc => ?_) (fun hc => ?_)
  · replace h := h.1 hc
    refine mV_iconst (n := 1) (v := nI 1) (by decide +kernel) (by decide) ?_
    refine mV_goto (off := 4) (tgt := 29) (by decide +kernel) (by decide) ?_
    exact mV_zret (by decide +kernel) rfl (by decide) h
  · replace h := h.2 hc
    refine mV_aload_n (k := 0) (by decide +kernel) rfl ?_
    refine mV_gfix (x := mg_i G 226 47) (by decide +kernel) fk_13_343 sh_226 rfl ?_
    refine mV_iload_n (k := 1) (by decide +kernel) rfl ?_
    refine mV_ishr (by decide +kernel) ?_
    refine mV_iconst (n := 1) (v := nI 1) (by decide +kernel) (by decide) ?_
    refine mV_iand (by decide +kernel) ?_
    refine mV_if_ne (off := 7) (tgt := 28) (by decide +kernel) (by decide) (fun hc => ?_) (fun hc => ?_)
    · replace h := h.1 hc
      refine mV_iconst (n := 0) (v := nI 0) (by decide +kernel) (by decide) ?_
      exact mV_zret (by decide +kernel) rfl (by decide) h
    · replace h := h.2 hc
      refine mV_iconst (n := 1) (v := nI 1) (by decide +kernel) (by decide) ?_
      refine mV_goto (off := 4) (tgt := 29) (by decide +kernel) (by decide) ?_
      exact mV_zret (by decide +kernel) rfl (by decide) h
set_option maxRecDepth 100000 in
set_option maxHeartbeats 4000000 in
theorem e_X13_jumps {l : Launch} {κ : mm_K} {d : Nat} {G : mm_G} {K : mm_G → Prop} (a1 : Int64) (h : mV l κ true (d + 2) 0 0 m_X13_jumps 2 [some (.ref 226), some (.long a1), none, some (.int (nI 0))] [] G (rV K)) : mC l κ true (d + 2) 0 0 m_X13_jumps [.ref 226, .long a1] G (rV K) := by
  refine mC.of (by decide) (Nat.le_of_ble_eq_true rfl) [some (.ref 226), some (.long a1), none, none] rfl ?_
  refine mV_iconst (n := 0) (v := nI 0) (by decide +kernel) (by decide) ?_
  refine mV_istore_n (k := 3) (ls' := [some (.ref 226), some (.long a1), none, some (.int (nI 0))]) (by decide +kernel) (Nat.le_of_ble_eq_true rfl) rfl rfl ?_
  exact h
set_option maxRecDepth 100000 in
set_option maxHeartbeats 4000000 in
theorem p_X13_jumps_2 {l : Launch} {κ : mm_K} {d : Nat} {G : mm_G} {K : mm_G → Prop} (v1 : Int64) (v3 : Int32) (h : mC l κ true (d + 1) 0 0 m_X13_topLines [.ref 226] G (rI (fun r1 G2 => ((r1 ≤ v3 → K G2) ∧ (¬ r1 ≤ v3 → mC l κ true (d + 1) 0 0 m_X13_isThere [.ref 226, .int v3] G2 (rI (fun r3 G4 => ((r3 = 0 → mV l κ true (d + 2) 0 0 m_X13_jumps 2 [some (.ref 226), some (.long v1), none, some (.int (v3 + (nI 1)))] [] G4 (rV K)) ∧ (¬ r3 = 0 → mC l κ true (d + 1) 0 0 m_X13_topLine [.ref 226, .int v3] G4 (rI (fun r5 G6 => vp_in r5 320 ∧ (((lg_cmp (mg_l G6 246 r5.toNatClampNeg) v1) = 0 → vp_in (mg_i G6 226 58) 8 ∧ K (ms_i G6 261 ((mg_i G6 226 58).toNatClampNeg) v3)) ∧ (¬ (lg_cmp (mg_l G6 246 r5.toNatClampNeg) v1) = 0 → mV l κ true (d + 2) 0 0 m_X13_jumps 2 [some (.ref 226), some (.long v1), none, some (.int (v3 + (nI 1)))] [] G6 (rV K)))))))))))))) : mV l κ true (d + 2) 0 0 m_X13_jumps 2 [some (.ref 226), some (.long v1), none, some (.int v3)] [] G (rV K) := by
  refine mV_iload_n (k := 3) (by decide +kernel) rfl ?_
  refine mV_aload_n (k := 0) (by decide +kernel) rfl ?_
  refine mV_cV (as := []) (rest := [.int v3]) (mc1 := 0) (ms1 := 0) (mc := 0) (ms := 0) (by decide +kernel) md_X13_topLines lk_13_359 sh_226 rfl rfl rfl (Nat.le_of_ble_eq_true rfl) (mC.mono (mm_contI (fun r1 G2 hK => ?_)) h)
  replace h := hK
  refine mV_icmp_ge (off := 46) (tgt := 53) (by decide +kernel) (by decide) (fun hc => ?_) (fun hc => ?_)
  · replace h := h.1 hc
    exact mV_vret (by decide +kernel) rfl h
  · replace h := h.2 hc
    refine mV_aload_n (k := 0) (by decide +kernel) rfl ?_
    refine mV_iload_n (k := 3) (by decide +kernel) rfl ?_
    refine mV_cV (as := [.int v3]) (rest := []) (mc1 := 0) (ms1 := 0) (mc := 0) (ms := 0) (by decide +kernel) md_X13_isThere lk_13_362 sh_226 rfl rfl rfl (Nat.le_of_ble_eq_true rfl) (mC.mono (mm_contI (fun r3 G4 hK => ?_)) h)
    replace h := hK
    refine mV_if_eq (off := 32) (tgt := 47) (by decide +kernel) (by decide) (fun hc => ?_) (fun hc => ?_)
    · replace h := h.1 hc
      refine mV_iincc (i := 3) (n := 1) (c := nI 1) (ls' := [some (.ref 226), some (.long v1), none, some (.int (v3 + (nI 1)))]) (by decide +kernel) (by decide) rfl (Nat.le_of_ble_eq_true rfl) rfl rfl ?_
      refine mV_goto (off := -48) (tgt := 2) (by decide +kernel) (by decide) ?_
      exact h
    · replace h := h.2 hc
      refine mV_aload_n (k := 0) (by decide +kernel) rfl ?_
      refine mV_gfr (r := some 246) (by decide +kernel) fk_13_76 sh_226 (mm_rrs st_226_32) rfl ?_
      refine mV_aload_n (k := 0) (by decide +kernel) rfl ?_
      refine mV_iload_n (k := 3) (by decide +kernel) rfl ?_
      refine mV_cV (as := [.int v3]) (rest := [.ref 246]) (mc1 := 0) (ms1 := 0) (mc := 0) (ms := 0) (by decide +kernel) md_X13_topLine lk_13_365 sh_226 rfl rfl rfl (Nat.le_of_ble_eq_true rfl) (mC.mono (mm_contI (fun r5 G6 hK => ?_)) h)
      replace h := hK
      refine mV_lalx (x := mg_l G6 246 r5.toNatClampNeg) (by decide +kernel) sh_246 h.1 rfl ?_
      replace h := h.2
      refine mV_lload_n (k := 1) (by decide +kernel) rfl ?_
      refine mV_lcmp (by decide +kernel) ?_
      refine mV_if_eq (off := 6) (tgt := 36) (by decide +kernel) (by decide) (fun hc => ?_) (fun hc => ?_)
      · replace h := h.1 hc
        refine mV_aload_n (k := 0) (by decide +kernel) rfl ?_
        refine mV_gfr (r := some 261) (by decide +kernel) fk_13_121 sh_226 (mm_rrs st_226_57) rfl ?_
        refine mV_aload_n (k := 0) (by decide +kernel) rfl ?_
        refine mV_gfix (x := mg_i G6 226 58) (by decide +kernel) fk_13_356 sh_226 rfl ?_
        refine mV_iload_n (k := 3) (by decide +kernel) rfl ?_
        refine mV_ias (by decide +kernel) sh_261 h.1 ?_
        replace h := h.2
        exact mV_vret (by decide +kernel) rfl h
      · replace h := h.2 hc
        refine mV_goto (off := 14) (tgt := 47) (by decide +kernel) (by decide) ?_
        refine mV_iincc (i := 3) (n := 1) (c := nI 1) (ls' := [some (.ref 226), some (.long v1), none, some (.int (v3 + (nI 1)))]) (by decide +kernel) (by decide) rfl (Nat.le_of_ble_eq_true rfl) rfl rfl ?_
        refine mV_goto (off := -48) (tgt := 2) (by decide +kernel) (by decide) ?_
        exact h
set_option maxRecDepth 100000 in
set_option maxHeartbeats 4000000 in
theorem e_X13_runs {l : Launch} {κ : mm_K} {d : Nat} {G : mm_G} {K : mm_G → Prop} (a1 : Int32) (h : mV l κ true (d + 4) 0 0 m_X13_runs 2 [some (.ref 226), some (.int a1), some (.int (nI 0))] [] G (rV K)) : mC l κ true (d + 4) 0 0 m_X13_runs [.ref 226, .int a1] G (rV K) := by
  refine mC.of (by decide) (Nat.le_of_ble_eq_true rfl) [some (.ref 226), some (.int a1), none] rfl ?_
  refine mV_iconst (n := 0) (v := nI 0) (by decide +kernel) (by decide) ?_
  refine mV_istore_n (k := 2) (ls' := [some (.ref 226), some (.int a1), some (.int (nI 0))]) (by decide +kernel) (Nat.le_of_ble_eq_true rfl) rfl rfl ?_
  exact h
set_option maxRecDepth 100000 in
set_option maxHeartbeats 4000000 in
theorem p_X13_runs_2 {l : Launch} {κ : mm_K} {d : Nat} {G : mm_G} {K : mm_G → Prop} (v1 : Int32) (v2 : Int32) (h : (((nI 4) ≤ v2 → vp_in (nI 0) 8 ∧ vp_in (nI 0) 8 ∧ mV l κ true (d + 4) 0 0 m_X13_runs 64 [some (.ref 226), some (.int v1), some (.int v2)] [] (ms_i (ms_i (ms_i (ms_i (ms_i (ms_i (ms_i (ms_i G 226 49 (nI 0)) 226 50 v1) 226 51 (nI 0)) 226 53 (nI 0)) 226 55 (-1)) 226 58 (nI 0)) 260 ((nI 0).toNatClampNeg) (-1)) 261 ((nI 0).toNatClampNeg) (nI 0)) (rV K)) ∧ (¬ (nI 4) ≤ v2 → vp_in v2 4 ∧ mV l κ true (d + 4) 0 0 m_X13_runs 2 [some (.ref 226), some (.int v1), some (.int (v2 + (nI 1)))] [] (ms_i G 257 v2.toNatClampNeg (nI 0)) (rV K)))) : mV l κ true (d + 4) 0 0 m_X13_runs 2 [some (.ref 226), some (.int v1), some (.int v2)] [] G (rV K) := by
  refine mV_iload_n (k := 2) (by decide +kernel) rfl ?_
  refine mV_iconst (n := 4) (v := nI 4) (by decide +kernel) (by decide) ?_
  refine mV_icmp_ge (off := 16) (tgt := 20) (by decide +kernel) (by decide) (fun hc => ?_) (fun hc => ?_)
  · replace h := h.1 hc
    refine mV_aload_n (k := 0) (by decide +kernel) rfl ?_
    refine mV_iconst (n := 0) (v := nI 0) (by decide +kernel) (by decide) ?_
    refine mV_pfi (by decide +kernel) fk_13_353 sh_226 ?_
    refine mV_aload_n (k := 0) (by decide +kernel) rfl ?_
    refine mV_iload_n (k := 1) (by decide +kernel) rfl ?_
    refine mV_pfi (by decide +kernel) fk_13_350 sh_226 ?_
    refine mV_aload_n (k := 0) (by decide +kernel) rfl ?_
    refine mV_iconst (n := 0) (v := nI 0) (by decide +kernel) (by decide) ?_
    refine mV_pfi (by decide +kernel) fk_13_368 sh_226 ?_
    refine mV_aload_n (k := 0) (by decide +kernel) rfl ?_
    refine mV_iconst (n := 0) (v := nI 0) (by decide +kernel) (by decide) ?_
    refine mV_pfi (by decide +kernel) fk_13_371 sh_226 ?_
    refine mV_aload_n (k := 0) (by decide +kernel) rfl ?_
    refine mV_iconst (n := -1) (v := (-1)) (by decide +kernel) (by decide) ?_
    refine mV_pfi (by decide +kernel) fk_13_374 sh_226 ?_
    refine mV_aload_n (k := 0) (by decide +kernel) rfl ?_
    refine mV_iconst (n := 0) (v := nI 0) (by decide +kernel) (by decide) ?_
    refine mV_pfi (by decide +kernel) fk_13_356 sh_226 ?_
    refine mV_aload_n (k := 0) (by decide +kernel) rfl ?_
    refine mV_gfr (r := some 260) (by decide +kernel) fk_13_118 sh_226 (mm_rrs st_226_56) rfl ?_
    refine mV_iconst (n := 0) (v := nI 0) (by decide +kernel) (by decide) ?_
    refine mV_iconst (n := -1) (v := (-1)) (by decide +kernel) (by decide) ?_
    refine mV_ias (by decide +kernel) sh_260 h.1 ?_
    replace h := h.2
    refine mV_aload_n (k := 0) (by decide +kernel) rfl ?_
    refine mV_gfr (r := some 261) (by decide +kernel) fk_13_121 sh_226 (mm_rrs st_226_57) rfl ?_
    refine mV_iconst (n := 0) (v := nI 0) (by decide +kernel) (by decide) ?_
    refine mV_iconst (n := 0) (v := nI 0) (by decide +kernel) (by decide) ?_
    refine mV_ias (by decide +kernel) sh_261 h.1 ?_
    replace h := h.2
    exact h
  · replace h := h.2 hc
    refine mV_aload_n (k := 0) (by decide +kernel) rfl ?_
    refine mV_gfr (r := some 257) (by decide +kernel) fk_13_109 sh_226 (mm_rrs st_226_48) rfl ?_
    refine mV_iload_n (k := 2) (by decide +kernel) rfl ?_
    refine mV_iconst (n := 0) (v := nI 0) (by decide +kernel) (by decide) ?_
    refine mV_ias (by decide +kernel) sh_257 h.1 ?_
    replace h := h.2
    refine mV_iincc (i := 2) (n := 1) (c := nI 1) (ls' := [some (.ref 226), some (.int v1), some (.int (v2 + (nI 1)))]) (by decide +kernel) (by decide) rfl (Nat.le_of_ble_eq_true rfl) rfl rfl ?_
    refine mV_goto (off := -15) (tgt := 2) (by decide +kernel) (by decide) ?_
    exact h
set_option maxRecDepth 100000 in
set_option maxHeartbeats 4000000 in
theorem p_X13_runs_64 {l : Launch} {κ : mm_K} {d : Nat} {G : mm_G} {K : mm_G → Prop} (v1 : Int32) (v2 : Int32) (h : ((¬ (mg_i G 226 55) = (-1) → K G) ∧ ((mg_i G 226 55) = (-1) → vp_in (mg_i G 226 58) 8 ∧ mC l κ true (d + 3) 0 0 m_X13_topLines [.ref 226] G (rI (fun r1 G2 => (((mg_i G 261 ((mg_i G 226 58).toNatClampNeg)) < r1 → vp_in (mg_i G2 226 58) 8 ∧ vp_in (mg_i G2 226 58) 8 ∧ mC l κ true (d + 3) 0 0 m_X13_isThere [.ref 226, .int (mg_i G 261 ((mg_i G 226 58).toNatClampNeg))] (ms_i G2 261 ((mg_i G2 226 58).toNatClampNeg) ((mg_i G2 261 ((mg_i G2 226 58).toNatClampNeg)) + (nI 1))) (rI (fun r3 G4 => ((¬ r3 = 0 → vp_in (mg_i G4 226 18) 2 ∧ ((¬ (mg_i G4 226 53) = (mg_i G4 254 ((mg_i G4 226 18).toNatClampNeg)) → vp_in (mg_i G4 226 58) 8 ∧ ((¬ (mg_i G4 260 ((mg_i G4 226 58).toNatClampNeg)) = (-1) → vp_in (mg_i G4 226 58) 8 ∧ vp_in (mg_i G4 226 53) 301 ∧ mC l κ true (d + 3) 0 0 m_X13_topLine [.ref 226, .int (mg_i G 261 ((mg_i G 226 58).toNatClampNeg))] (ms_i (ms_i G4 259 ((mg_i G4 226 53).toNatClampNeg) (((nI 20) * (mg_i G4 260 ((mg_i G4 226 58).toNatClampNeg))) + (mg_i G 261 ((mg_i G 226 58).toNatClampNeg)))) 226 53 ((mg_i G4 226 53) + (nI 1))) (rI (fun r5 G6 => mC l κ true (d + 3) 0 0 m_X13_acts [.ref 226, .int r5] G6 (rV (fun G8 => mV l κ true (d + 4) 0 0 m_X13_runs 64 [some (.ref 226), some (.int v1), some (.int (mg_i G 261 ((mg_i G 226 58).toNatClampNeg)))] [] G8 (rV K)))))) ∧ ((mg_i G4 260 ((mg_i G4 226 58).toNatClampNeg)) = (-1) → vp_in (mg_i G 261 ((mg_i G 226 58).toNatClampNeg)) 20 ∧ vp_in (mg_i G4 226 53) 301 ∧ mC l κ true (d + 3) 0 0 m_X13_topLine [.ref 226, .int (mg_i G 261 ((mg_i G 226 58).toNatClampNeg))] (ms_i (ms_i G4 259 ((mg_i G4 226 53).toNatClampNeg) (((nI 20) * (mg_i G4 226 46)) + (mg_i G4 256 ((mg_i G 261 ((mg_i G 226 58).toNatClampNeg)).toNatClampNeg)))) 226 53 ((mg_i G4 226 53) + (nI 1))) (rI (fun r9 G10 => mC l κ true (d + 3) 0 0 m_X13_acts [.ref 226, .int r9] G10 (rV (fun G12 => mV l κ true (d + 4) 0 0 m_X13_runs 64 [some (.ref 226), some (.int v1), some (.int (mg_i G 261 ((mg_i G 226 58).toNatClampNeg)))] [] G12 (rV K)))))))) ∧ ((mg_i G4 226 53) = (mg_i G4 254 ((mg_i G4 226 18).toNatClampNeg)) → mV l κ true (d + 4) 0 0 m_X13_runs 64 [some (.ref 226), some (.int v1), some (.int (mg_i G 261 ((mg_i G 226 58).toNatClampNeg)))] [] (ms_i G4 226 55 (nI 1)) (rV K)))) ∧ (r3 = 0 → mV l κ true (d + 4) 0 0 m_X13_runs 64 [some (.ref 226), some (.int v1), some (.int (mg_i G 261 ((mg_i G 226 58).toNatClampNeg)))] [] G4 (rV K)))))) ∧ (¬ (mg_i G 261 ((mg_i G 226 58).toNatClampNeg)) < r1 → ((¬ (mg_i G2 226 58) = 0 → mV l κ true (d + 4) 0 0 m_X13_runs 64 [some (.ref 226), some (.int v1), some (.int (mg_i G 261 ((mg_i G 226 58).toNatClampNeg)))] [] (ms_i G2 226 58 ((mg_i G2 226 58) - (nI 1))) (rV K)) ∧ ((mg_i G2 226 58) = 0 → mV l κ true (d + 4) 0 0 m_X13_runs 64 [some (.ref 226), some (.int v1), some (.int (mg_i G 261 ((mg_i G 226 58).toNatClampNeg)))] [] (ms_i G2 226 55 (nI 0)) (rV K)))))))))) : mV l κ true (d + 4) 0 0 m_X13_runs 64 [some (.ref 226), some (.int v1), some (.int v2)] [] G (rV K) := by
  refine mV_aload_n (k := 0) (by decide +kernel) rfl ?_
  refine mV_gfix (x := mg_i G 226 55) (by decide +kernel) fk_13_374 sh_226 rfl ?_
  refine mV_iconst (n := -1) (v := (-1)) (by decide +kernel) (by decide) ?_
  refine mV_icmp_ne (off := 172) (tgt := 241) (by decide +kernel) (by decide) (fun hc => ?_) (fun hc => ?_)
  · replace h := h.1 hc
    exact mV_vret (by decide +kernel) rfl h
  · replace h := h.2 hc
    refine mV_aload_n (k := 0) (by decide +kernel) rfl ?_
    refine mV_gfr (r := some 261) (by decide +kernel) fk_13_121 sh_226 (mm_rrs st_226_57) rfl ?_
    refine mV_aload_n (k := 0) (by decide +kernel) rfl ?_
    refine mV_gfix (x := mg_i G 226 58) (by decide +kernel) fk_13_356 sh_226 rfl ?_
    refine mV_ialx (x := mg_i G 261 ((mg_i G 226 58).toNatClampNeg)) (by decide +kernel) sh_261 h.1 rfl ?_
    replace h := h.2
    refine mV_istore_n (k := 2) (ls' := [some (.ref 226), some (.int v1), some (.int (mg_i G 261 ((mg_i G 226 58).toNatClampNeg)))]) (by decide +kernel) (Nat.le_of_ble_eq_true rfl) rfl rfl ?_
    refine mV_iload_n (k := 2) (by decide +kernel) rfl ?_
    refine mV_aload_n (k := 0) (by decide +kernel) rfl ?_
    refine mV_cV (as := []) (rest := [.int (mg_i G 261 ((mg_i G 226 58).toNatClampNeg))]) (mc1 := 0) (ms1 := 0) (mc := 0) (ms := 0) (by decide +kernel) md_X13_topLines lk_13_359 sh_226 rfl rfl rfl (Nat.le_of_ble_eq_true rfl) (mC.mono (mm_contI (fun r1 G2 hK => ?_)) h)
    replace h := hK
    refine mV_icmp_lt (off := 31) (tgt := 118) (by decide +kernel) (by decide) (fun hc => ?_) (fun hc => ?_)
    · replace h := h.1 hc
      refine mV_aload_n (k := 0) (by decide +kernel) rfl ?_
      refine mV_gfr (r := some 261) (by decide +kernel) fk_13_121 sh_226 (mm_rrs st_226_57) rfl ?_
      refine mV_aload_n (k := 0) (by decide +kernel) rfl ?_
      refine mV_gfix (x := mg_i G2 226 58) (by decide +kernel) fk_13_356 sh_226 rfl ?_
      refine mV_dup2 (by decide +kernel) rfl rfl ?_
      refine mV_ialx (x := mg_i G2 261 ((mg_i G2 226 58).toNatClampNeg)) (by decide +kernel) sh_261 h.1 rfl ?_
      replace h := h.2
      refine mV_iconst (n := 1) (v := nI 1) (by decide +kernel) (by decide) ?_
      refine mV_iadd (by decide +kernel) ?_
      refine mV_ias (by decide +kernel) sh_261 h.1 ?_
      replace h := h.2
      refine mV_aload_n (k := 0) (by decide +kernel) rfl ?_
      refine mV_iload_n (k := 2) (by decide +kernel) rfl ?_
      refine mV_cV (as := [.int (mg_i G 261 ((mg_i G 226 58).toNatClampNeg))]) (rest := []) (mc1 := 0) (ms1 := 0) (mc := 0) (ms := 0) (by decide +kernel) md_X13_isThere lk_13_362 sh_226 rfl rfl rfl (Nat.le_of_ble_eq_true rfl) (mC.mono (mm_contI (fun r3 G4 hK => ?_)) h)
      replace h := hK
      refine mV_if_ne (off := 6) (tgt := 142) (by decide +kernel) (by decide) (fun hc => ?_) (fun hc => ?_)
      · replace h := h.1 hc
        refine mV_aload_n (k := 0) (by decide +kernel) rfl ?_
        refine mV_gfix (x := mg_i G4 226 53) (by decide +kernel) fk_13_371 sh_226 rfl ?_
        refine mV_aload_n (k := 0) (by decide +kernel) rfl ?_
        refine mV_gfr (r := some 254) (by decide +kernel) fk_13_100 sh_226 (mm_rrs st_226_40) rfl ?_
        refine mV_aload_n (k := 0) (by decide +kernel) rfl ?_
        refine mV_gfix (x := mg_i G4 226 18) (by decide +kernel) fk_13_266 sh_226 rfl ?_
        refine mV_ialx (x := mg_i G4 254 ((mg_i G4 226 18).toNatClampNeg)) (by decide +kernel) sh_254 h.1 rfl ?_
        replace h := h.2
        refine mV_icmp_ne (off := 11) (tgt := 166) (by decide +kernel) (by decide) (fun hc => ?_) (fun hc => ?_)
        · replace h := h.1 hc
          refine mV_aload_n (k := 0) (by decide +kernel) rfl ?_
          refine mV_gfr (r := some 259) (by decide +kernel) fk_13_115 sh_226 (mm_rrs st_226_54) rfl ?_
          refine mV_aload_n (k := 0) (by decide +kernel) rfl ?_
          refine mV_gfix (x := mg_i G4 226 53) (by decide +kernel) fk_13_371 sh_226 rfl ?_
          refine mV_aload_n (k := 0) (by decide +kernel) rfl ?_
          refine mV_gfr (r := some 260) (by decide +kernel) fk_13_118 sh_226 (mm_rrs st_226_56) rfl ?_
          refine mV_aload_n (k := 0) (by decide +kernel) rfl ?_
          refine mV_gfix (x := mg_i G4 226 58) (by decide +kernel) fk_13_356 sh_226 rfl ?_
          refine mV_ialx (x := mg_i G4 260 ((mg_i G4 226 58).toNatClampNeg)) (by decide +kernel) sh_260 h.1 rfl ?_
          replace h := h.2
          refine mV_iconst (n := -1) (v := (-1)) (by decide +kernel) (by decide) ?_
          refine mV_icmp_ne (off := 20) (tgt := 204) (by decide +kernel) (by decide) (fun hc => ?_) (fun hc => ?_)
          · replace h := h.1 hc
            refine mV_bipush (n := 20) (v := nI 20) (by decide +kernel) (by decide) ?_
            refine mV_aload_n (k := 0) (by decide +kernel) rfl ?_
            refine mV_gfr (r := some 260) (by decide +kernel) fk_13_118 sh_226 (mm_rrs st_226_56) rfl ?_
            refine mV_aload_n (k := 0) (by decide +kernel) rfl ?_
            refine mV_gfix (x := mg_i G4 226 58) (by decide +kernel) fk_13_356 sh_226 rfl ?_
            refine mV_ialx (x := mg_i G4 260 ((mg_i G4 226 58).toNatClampNeg)) (by decide +kernel) sh_260 h.1 rfl ?_
            replace h := h.2
            refine mV_imul (by decide +kernel) ?_
            refine mV_iload_n (k := 2) (by decide +kernel) rfl ?_
            refine mV_iadd (by decide +kernel) ?_
            refine mV_ias (by decide +kernel) sh_259 h.1 ?_
            replace h := h.2
            refine mV_aload_n (k := 0) (by decide +kernel) rfl ?_
            refine mV_dup (by decide +kernel) rfl ?_
            refine mV_gfix (x := mg_i G4 226 53) (by decide +kernel) fk_13_371 sh_226 rfl ?_
            refine mV_iconst (n := 1) (v := nI 1) (by decide +kernel) (by decide) ?_
            refine mV_iadd (by decide +kernel) ?_
            refine mV_pfi (by decide +kernel) fk_13_371 sh_226 ?_
            refine mV_aload_n (k := 0) (by decide +kernel) rfl ?_
            refine mV_aload_n (k := 0) (by decide +kernel) rfl ?_
            refine mV_iload_n (k := 2) (by decide +kernel) rfl ?_
            refine mV_cV (as := [.int (mg_i G 261 ((mg_i G 226 58).toNatClampNeg))]) (rest := [.ref 226]) (mc1 := 0) (ms1 := 0) (mc := 0) (ms := 0) (by decide +kernel) md_X13_topLine lk_13_365 sh_226 rfl rfl rfl (Nat.le_of_ble_eq_true rfl) (mC.mono (mm_contI (fun r5 G6 hK => ?_)) h)
            replace h := hK
            refine mV_cV (as := [.int r5]) (rest := []) (mc1 := 0) (ms1 := 0) (mc := 0) (ms := 0) (by decide +kernel) md_X13_acts lk_13_377 sh_226 rfl rfl rfl (Nat.le_of_ble_eq_true rfl) (mC.mono (mm_contV (fun G8 hK => ?_)) h)
            replace h := hK
            refine mV_goto (off := -174) (tgt := 64) (by decide +kernel) (by decide) ?_
            exact h
          · replace h := h.2 hc
            refine mV_bipush (n := 20) (v := nI 20) (by decide +kernel) (by decide) ?_
            refine mV_aload_n (k := 0) (by decide +kernel) rfl ?_
            refine mV_gfix (x := mg_i G4 226 46) (by decide +kernel) fk_13_334 sh_226 rfl ?_
            refine mV_imul (by decide +kernel) ?_
            refine mV_aload_n (k := 0) (by decide +kernel) rfl ?_
            refine mV_gfr (r := some 256) (by decide +kernel) fk_13_106 sh_226 (mm_rrs st_226_44) rfl ?_
            refine mV_iload_n (k := 2) (by decide +kernel) rfl ?_
            refine mV_ialx (x := mg_i G4 256 ((mg_i G 261 ((mg_i G 226 58).toNatClampNeg)).toNatClampNeg)) (by decide +kernel) sh_256 h.1 rfl ?_
            replace h := h.2
            refine mV_iadd (by decide +kernel) ?_
            refine mV_goto (off := 17) (tgt := 218) (by decide +kernel) (by decide) ?_
            refine mV_ias (by decide +kernel) sh_259 h.1 ?_
            replace h := h.2
            refine mV_aload_n (k := 0) (by decide +kernel) rfl ?_
            refine mV_dup (by decide +kernel) rfl ?_
            refine mV_gfix (x := mg_i G4 226 53) (by decide +kernel) fk_13_371 sh_226 rfl ?_
            refine mV_iconst (n := 1) (v := nI 1) (by decide +kernel) (by decide) ?_
            refine mV_iadd (by decide +kernel) ?_
            refine mV_pfi (by decide +kernel) fk_13_371 sh_226 ?_
            refine mV_aload_n (k := 0) (by decide +kernel) rfl ?_
            refine mV_aload_n (k := 0) (by decide +kernel) rfl ?_
            refine mV_iload_n (k := 2) (by decide +kernel) rfl ?_
            refine mV_cV (as := [.int (mg_i G 261 ((mg_i G 226 58).toNatClampNeg))]) (rest := [.ref 226]) (mc1 := 0) (ms1 := 0) (mc := 0) (ms := 0) (by decide +kernel) md_X13_topLine lk_13_365 sh_226 rfl rfl rfl (Nat.le_of_ble_eq_true rfl) (mC.mono (mm_contI (fun r9 G10 hK => ?_)) h)
            replace h := hK
            refine mV_cV (as := [.int r9]) (rest := []) (mc1 := 0) (ms1 := 0) (mc := 0) (ms := 0) (by decide +kernel) md_X13_acts lk_13_377 sh_226 rfl rfl rfl (Nat.le_of_ble_eq_true rfl) (mC.mono (mm_contV (fun G12 hK => ?_)) h)
            replace h := hK
            refine mV_goto (off := -174) (tgt := 64) (by decide +kernel) (by decide) ?_
            exact h
        · replace h := h.2 hc
          refine mV_aload_n (k := 0) (by decide +kernel) rfl ?_
          refine mV_iconst (n := 1) (v := nI 1) (by decide +kernel) (by decide) ?_
          refine mV_pfi (by decide +kernel) fk_13_374 sh_226 ?_
          refine mV_goto (off := -99) (tgt := 64) (by decide +kernel) (by decide) ?_
          exact h
      · replace h := h.2 hc
        refine mV_goto (off := -75) (tgt := 64) (by decide +kernel) (by decide) ?_
        exact h
    · replace h := h.2 hc
      refine mV_aload_n (k := 0) (by decide +kernel) rfl ?_
      refine mV_gfix (x := mg_i G2 226 58) (by decide +kernel) fk_13_356 sh_226 rfl ?_
      refine mV_if_ne (off := 11) (tgt := 105) (by decide +kernel) (by decide) (fun hc => ?_) (fun hc => ?_)
      · replace h := h.1 hc
        refine mV_aload_n (k := 0) (by decide +kernel) rfl ?_
        refine mV_dup (by decide +kernel) rfl ?_
        refine mV_gfix (x := mg_i G2 226 58) (by decide +kernel) fk_13_356 sh_226 rfl ?_
        refine mV_iconst (n := 1) (v := nI 1) (by decide +kernel) (by decide) ?_
        refine mV_isub (by decide +kernel) ?_
        refine mV_pfi (by decide +kernel) fk_13_356 sh_226 ?_
        refine mV_goto (off := -51) (tgt := 64) (by decide +kernel) (by decide) ?_
        exact h
      · replace h := h.2 hc
        refine mV_aload_n (k := 0) (by decide +kernel) rfl ?_
        refine mV_iconst (n := 0) (v := nI 0) (by decide +kernel) (by decide) ?_
        refine mV_pfi (by decide +kernel) fk_13_374 sh_226 ?_
        refine mV_goto (off := -38) (tgt := 64) (by decide +kernel) (by decide) ?_
        exact h
set_option maxRecDepth 100000 in
set_option maxHeartbeats 4000000 in
theorem e_X13_acts {l : Launch} {κ : mm_K} {d : Nat} {G : mm_G} {K : mm_G → Prop} (a1 : Int32) (h : vp_in a1 320 ∧ vp_in a1 320 ∧ (((mg_i G 237 a1.toNatClampNeg) < (nI 6) → vp_in a1 320 ∧ vp_in a1 320 ∧ mC l κ true (d + 2) 0 0 m_X13_valueOf [.ref 226, .int (mg_i G 239 a1.toNatClampNeg), .int (mg_i G 240 a1.toNatClampNeg)] G (rI (fun r1 G2 => mV l κ true (d + 3) 0 0 m_X13_acts 50 [some (.ref 226), some (.int a1), some (.int (mg_i G 238 a1.toNatClampNeg)), some (.int r1), none, none] [] G2 (rV K)))) ∧ (¬ (mg_i G 237 a1.toNatClampNeg) < (nI 6) → vp_in a1 320 ∧ ((¬ (mg_i G 237 a1.toNatClampNeg) = (nI 7) → mV l κ true (d + 3) 0 0 m_X13_acts 50 [some (.ref 226), some (.int a1), some (.int (mg_i G 238 a1.toNatClampNeg)), some (.int (nI 0)), none, none] [] G (rV K)) ∧ ((mg_i G 237 a1.toNatClampNeg) = (nI 7) → vp_in a1 320 ∧ vp_in a1 320 ∧ mC l κ true (d + 2) 0 0 m_X13_valueOf [.ref 226, .int (mg_i G 239 a1.toNatClampNeg), .int (mg_i G 240 a1.toNatClampNeg)] G (rI (fun r3 G4 => mV l κ true (d + 3) 0 0 m_X13_acts 50 [some (.ref 226), some (.int a1), some (.int (mg_i G 238 a1.toNatClampNeg)), some (.int r3), none, none] [] G4 (rV K)))))))) : mC l κ true (d + 3) 0 0 m_X13_acts [.ref 226, .int a1] G (rV K) := by
  refine mC.of (by decide) (Nat.le_of_ble_eq_true rfl) [some (.ref 226), some (.int a1), none, none, none, none] rfl ?_
  refine mV_aload_n (k := 0) (by decide +kernel) rfl ?_
  refine mV_gfr (r := some 238) (by decide +kernel) fk_13_52 sh_226 (mm_rrs st_226_24) rfl ?_
  refine mV_iload_n (k := 1) (by decide +kernel) rfl ?_
  refine mV_ialx (x := mg_i G 238 a1.toNatClampNeg) (by decide +kernel) sh_238 h.1 rfl ?_
  replace h := h.2
  refine mV_istore_n (k := 2) (ls' := [some (.ref 226), some (.int a1), some (.int (mg_i G 238 a1.toNatClampNeg)), none, none, none]) (by decide +kernel) (Nat.le_of_ble_eq_true rfl) rfl rfl ?_
  refine mV_aload_n (k := 0) (by decide +kernel) rfl ?_
  refine mV_gfr (r := some 237) (by decide +kernel) fk_13_49 sh_226 (mm_rrs st_226_23) rfl ?_
  refine mV_iload_n (k := 1) (by decide +kernel) rfl ?_
  refine mV_ialx (x := mg_i G 237 a1.toNatClampNeg) (by decide +kernel) sh_237 h.1 rfl ?_
  replace h := h.2
  refine mV_bipush (n := 6) (v := nI 6) (by decide +kernel) (by decide) ?_
  refine mV_icmp_lt (off := 14) (tgt := 29) (by decide +kernel) (by decide) (fun hc => ?_) (fun hc => ?_)
  · replace h := h.1 hc
    refine mV_aload_n (k := 0) (by decide +kernel) rfl ?_
    refine mV_aload_n (k := 0) (by decide +kernel) rfl ?_
    refine mV_gfr (r := some 239) (by decide +kernel) fk_13_55 sh_226 (mm_rrs st_226_25) rfl ?_
    refine mV_iload_n (k := 1) (by decide +kernel) rfl ?_
    refine mV_ialx (x := mg_i G 239 a1.toNatClampNeg) (by decide +kernel) sh_239 h.1 rfl ?_
    replace h := h.2
    refine mV_aload_n (k := 0) (by decide +kernel) rfl ?_
    refine mV_gfr (r := some 240) (by decide +kernel) fk_13_58 sh_226 (mm_rrs st_226_26) rfl ?_
    refine mV_iload_n (k := 1) (by decide +kernel) rfl ?_
    refine mV_ialx (x := mg_i G 240 a1.toNatClampNeg) (by decide +kernel) sh_240 h.1 rfl ?_
    replace h := h.2
    refine mV_cV (as := [.int (mg_i G 239 a1.toNatClampNeg), .int (mg_i G 240 a1.toNatClampNeg)]) (rest := []) (mc1 := 0) (ms1 := 0) (mc := 0) (ms := 0) (by decide +kernel) md_X13_valueOf lk_13_380 sh_226 rfl rfl rfl (Nat.le_of_ble_eq_true rfl) (mC.mono (mm_contI (fun r1 G2 hK => ?_)) h)
    replace h := hK
    refine mV_goto (off := 4) (tgt := 49) (by decide +kernel) (by decide) ?_
    refine mV_istore_n (k := 3) (ls' := [some (.ref 226), some (.int a1), some (.int (mg_i G 238 a1.toNatClampNeg)), some (.int r1), none, none]) (by decide +kernel) (Nat.le_of_ble_eq_true rfl) rfl rfl ?_
    exact h
  · replace h := h.2 hc
    refine mV_aload_n (k := 0) (by decide +kernel) rfl ?_
    refine mV_gfr (r := some 237) (by decide +kernel) fk_13_49 sh_226 (mm_rrs st_226_23) rfl ?_
    refine mV_iload_n (k := 1) (by decide +kernel) rfl ?_
    refine mV_ialx (x := mg_i G 237 a1.toNatClampNeg) (by decide +kernel) sh_237 h.1 rfl ?_
    replace h := h.2
    refine mV_bipush (n := 7) (v := nI 7) (by decide +kernel) (by decide) ?_
    refine mV_icmp_ne (off := 22) (tgt := 48) (by decide +kernel) (by decide) (fun hc => ?_) (fun hc => ?_)
    · replace h := h.1 hc
      refine mV_iconst (n := 0) (v := nI 0) (by decide +kernel) (by decide) ?_
      refine mV_istore_n (k := 3) (ls' := [some (.ref 226), some (.int a1), some (.int (mg_i G 238 a1.toNatClampNeg)), some (.int (nI 0)), none, none]) (by decide +kernel) (Nat.le_of_ble_eq_true rfl) rfl rfl ?_
      exact h
    · replace h := h.2 hc
      refine mV_aload_n (k := 0) (by decide +kernel) rfl ?_
      refine mV_aload_n (k := 0) (by decide +kernel) rfl ?_
      refine mV_gfr (r := some 239) (by decide +kernel) fk_13_55 sh_226 (mm_rrs st_226_25) rfl ?_
      refine mV_iload_n (k := 1) (by decide +kernel) rfl ?_
      refine mV_ialx (x := mg_i G 239 a1.toNatClampNeg) (by decide +kernel) sh_239 h.1 rfl ?_
      replace h := h.2
      refine mV_aload_n (k := 0) (by decide +kernel) rfl ?_
      refine mV_gfr (r := some 240) (by decide +kernel) fk_13_58 sh_226 (mm_rrs st_226_26) rfl ?_
      refine mV_iload_n (k := 1) (by decide +kernel) rfl ?_
      refine mV_ialx (x := mg_i G 240 a1.toNatClampNeg) (by decide +kernel) sh_240 h.1 rfl ?_
      replace h := h.2
      refine mV_cV (as := [.int (mg_i G 239 a1.toNatClampNeg), .int (mg_i G 240 a1.toNatClampNeg)]) (rest := []) (mc1 := 0) (ms1 := 0) (mc := 0) (ms := 0) (by decide +kernel) md_X13_valueOf lk_13_380 sh_226 rfl rfl rfl (Nat.le_of_ble_eq_true rfl) (mC.mono (mm_contI (fun r3 G4 hK => ?_)) h)
      replace h := hK
      refine mV_goto (off := 4) (tgt := 49) (by decide +kernel) (by decide) ?_
      refine mV_istore_n (k := 3) (ls' := [some (.ref 226), some (.int a1), some (.int (mg_i G 238 a1.toNatClampNeg)), some (.int r3), none, none]) (by decide +kernel) (Nat.le_of_ble_eq_true rfl) rfl rfl ?_
      exact h
set_option maxRecDepth 100000 in
set_option maxHeartbeats 4000000 in
theorem p_X13_acts_50 {l : Launch} {κ : mm_K} {d : Nat} {G : mm_G} {K : mm_G → Prop} (v1 : Int32) (v2 : Int32) (v3 : Int32) (h : vp_in v1 320 ∧ (((mg_i G 237 v1.toNatClampNeg) = nI 0 → vp_in v2 4 ∧ K (ms_i G 257 v2.toNatClampNeg v3)) ∧ ((mg_i G 237 v1.toNatClampNeg) = nI 1 → vp_in v2 4 ∧ vp_in v2 4 ∧ K (ms_i G 257 v2.toNatClampNeg ((mg_i G 257 v2.toNatClampNeg) + v3))) ∧ ((mg_i G 237 v1.toNatClampNeg) = nI 2 → vp_in v2 4 ∧ vp_in v2 4 ∧ K (ms_i G 257 v2.toNatClampNeg ((mg_i G 257 v2.toNatClampNeg) - v3))) ∧ ((mg_i G 237 v1.toNatClampNeg) = nI 3 → vp_in v2 4 ∧ vp_in v2 4 ∧ K (ms_i G 257 v2.toNatClampNeg ((mg_i G 257 v2.toNatClampNeg) * v3))) ∧ ((mg_i G 237 v1.toNatClampNeg) = nI 4 → ((¬ v3 = 0 → ((¬ v3 = (-1) → vp_in v2 4 ∧ (¬ v3 = 0) ∧ vp_in v2 4 ∧ K (ms_i G 257 v2.toNatClampNeg ((mg_i G 257 v2.toNatClampNeg) / v3))) ∧ (v3 = (-1) → vp_in v2 4 ∧ vp_in v2 4 ∧ K (ms_i G 257 v2.toNatClampNeg (-(mg_i G 257 v2.toNatClampNeg)))))) ∧ (v3 = 0 → K (ms_i G 226 55 (nI 2))))) ∧ ((mg_i G 237 v1.toNatClampNeg) = nI 5 → ((¬ (mg_i G 226 51) = (nI 8) → vp_in (mg_i G 226 51) 8 ∧ K (ms_i (ms_i G 258 ((mg_i G 226 51).toNatClampNeg) v3) 226 51 ((mg_i G 226 51) + (nI 1)))) ∧ ((mg_i G 226 51) = (nI 8) → K (ms_i G 226 55 (nI 3))))) ∧ ((mg_i G 237 v1.toNatClampNeg) = nI 6 → vp_in v1 320 ∧ mC l κ true (d + 2) 0 0 m_X13_jumps [.ref 226, .long (mg_l G 247 v1.toNatClampNeg)] G (rV (fun G2 => K G2))) ∧ ((mg_i G 237 v1.toNatClampNeg) = nI 7 → vp_in v1 320 ∧ vp_in v1 320 ∧ mC l κ true (d + 2) 0 0 m_X13_valueOf [.ref 226, .int (mg_i G 241 v1.toNatClampNeg), .int (mg_i G 242 v1.toNatClampNeg)] G (rI (fun r3 G4 => vp_in v1 320 ∧ ((¬ (mg_i G4 243 v1.toNatClampNeg) = (nI 9) → ((¬ (mg_i G4 243 v1.toNatClampNeg) = (nI 10) → ((¬ (mg_i G4 243 v1.toNatClampNeg) = (nI 11) → ((r3 < v3 → K G4) ∧ (¬ r3 < v3 → mV l κ true (d + 3) 0 0 m_X13_acts 338 [some (.ref 226), some (.int v1), some (.int v2), some (.int v3), some (.int r3), some (.int (mg_i G4 243 v1.toNatClampNeg))] [] G4 (rV K)))) ∧ ((mg_i G4 243 v1.toNatClampNeg) = (nI 11) → ((r3 ≤ v3 → K G4) ∧ (¬ r3 ≤ v3 → mV l κ true (d + 3) 0 0 m_X13_acts 338 [some (.ref 226), some (.int v1), some (.int v2), some (.int v3), some (.int r3), some (.int (mg_i G4 243 v1.toNatClampNeg))] [] G4 (rV K)))))) ∧ ((mg_i G4 243 v1.toNatClampNeg) = (nI 10) → ((v3 = r3 → K G4) ∧ (¬ v3 = r3 → mV l κ true (d + 3) 0 0 m_X13_acts 338 [some (.ref 226), some (.int v1), some (.int v2), some (.int v3), some (.int r3), some (.int (mg_i G4 243 v1.toNatClampNeg))] [] G4 (rV K)))))) ∧ ((mg_i G4 243 v1.toNatClampNeg) = (nI 9) → ((¬ v3 = r3 → K G4) ∧ (v3 = r3 → mV l κ true (d + 3) 0 0 m_X13_acts 338 [some (.ref 226), some (.int v1), some (.int v2), some (.int v3), some (.int r3), some (.int (mg_i G4 243 v1.toNatClampNeg))] [] G4 (rV K)))))))) ∧ ((mg_i G 237 v1.toNatClampNeg) = nI 8 → vp_in v1 320 ∧ vp_in ((mg_i G 226 58) + (nI 1)) 8 ∧ vp_in ((mg_i G 226 58) + (nI 1)) 8 ∧ K (ms_i (ms_i (ms_i G 226 58 ((mg_i G 226 58) + (nI 1))) 260 (((mg_i G 226 58) + (nI 1)).toNatClampNeg) (mg_i G 244 v1.toNatClampNeg)) 261 (((mg_i G 226 58) + (nI 1)).toNatClampNeg) (nI 0))) ∧ ((mg_i G 237 v1.toNatClampNeg) = nI 9 → mC l κ true (d + 2) 0 0 m_X13_topLines [.ref 226] G (rI (fun r5 G6 => vp_in (mg_i G 226 58) 8 ∧ K (ms_i G6 261 ((mg_i G 226 58).toNatClampNeg) r5)))) ∧ (((mg_i G 237 v1.toNatClampNeg).toInt < 0 ∨ 9 < (mg_i G 237 v1.toNatClampNeg).toInt) → K G))) : mV l κ true (d + 3) 0 0 m_X13_acts 50 [some (.ref 226), some (.int v1), some (.int v2), some (.int v3), none, none] [] G (rV K) := by
  refine mV_aload_n (k := 0) (by decide +kernel) rfl ?_
  refine mV_gfr (r := some 237) (by decide +kernel) fk_13_49 sh_226 (mm_rrs st_226_23) rfl ?_
  refine mV_iload_n (k := 1) (by decide +kernel) rfl ?_
  refine mV_ialx (x := mg_i G 237 v1.toNatClampNeg) (by decide +kernel) sh_237 h.1 rfl ?_
  replace h := h.2
  have hsw : ((mg_i G 237 v1.toNatClampNeg).toInt < 0 ∨ 9 < (mg_i G 237 v1.toNatClampNeg).toInt) ∨ (mg_i G 237 v1.toNatClampNeg).toInt = 0 ∨ (mg_i G 237 v1.toNatClampNeg).toInt = 1 ∨ (mg_i G 237 v1.toNatClampNeg).toInt = 2 ∨ (mg_i G 237 v1.toNatClampNeg).toInt = 3 ∨ (mg_i G 237 v1.toNatClampNeg).toInt = 4 ∨ (mg_i G 237 v1.toNatClampNeg).toInt = 5 ∨ (mg_i G 237 v1.toNatClampNeg).toInt = 6 ∨ (mg_i G 237 v1.toNatClampNeg).toInt = 7 ∨ (mg_i G 237 v1.toNatClampNeg).toInt = 8 ∨ (mg_i G 237 v1.toNatClampNeg).toInt = 9 := by omega
  rcases hsw with hc | hc | hc | hc | hc | hc | hc | hc | hc | hc | hc
  · replace h := h.2.2.2.2.2.2.2.2.2.2 hc
    refine mV_tabOut (dflt := 349) (lo := 0) (hi := 9) (offs := #[56, 66, 79, 92, 105, 149, 189, 202, 295, 333]) (len := 56) (tgt := 405) (by decide +kernel) hc (by decide) ?_
    exact mV_vret (by decide +kernel) rfl h
  · replace h := h.1 (mm_eqI hc (by decide))
    refine mV_tabIn (dflt := 349) (lo := 0) (hi := 9) (offs := #[56, 66, 79, 92, 105, 149, 189, 202, 295, 333]) (len := 56) (off := 56) (tgt := 112) (by decide +kernel) (by rw [hc]; decide) (by rw [hc]; decide) (by rw [hc]; rfl) (by decide) ?_
    refine mV_aload_n (k := 0) (by decide +kernel) rfl ?_
    refine mV_gfr (r := some 257) (by decide +kernel) fk_13_109 sh_226 (mm_rrs st_226_48) rfl ?_
    refine mV_iload_n (k := 2) (by decide +kernel) rfl ?_
    refine mV_iload_n (k := 3) (by decide +kernel) rfl ?_
    refine mV_ias (by decide +kernel) sh_257 h.1 ?_
    replace h := h.2
    refine mV_goto (off := 286) (tgt := 405) (by decide +kernel) (by decide) ?_
    exact mV_vret (by decide +kernel) rfl h
  · replace h := h.2.1 (mm_eqI hc (by decide))
    refine mV_tabIn (dflt := 349) (lo := 0) (hi := 9) (offs := #[56, 66, 79, 92, 105, 149, 189, 202, 295, 333]) (len := 56) (off := 66) (tgt := 122) (by decide +kernel) (by rw [hc]; decide) (by rw [hc]; decide) (by rw [hc]; rfl) (by decide) ?_
    refine mV_aload_n (k := 0) (by decide +kernel) rfl ?_
    refine mV_gfr (r := some 257) (by decide +kernel) fk_13_109 sh_226 (mm_rrs st_226_48) rfl ?_
    refine mV_iload_n (k := 2) (by decide +kernel) rfl ?_
    refine mV_dup2 (by decide +kernel) rfl rfl ?_
    refine mV_ialx (x := mg_i G 257 v2.toNatClampNeg) (by decide +kernel) sh_257 h.1 rfl ?_
    replace h := h.2
    refine mV_iload_n (k := 3) (by decide +kernel) rfl ?_
    refine mV_iadd (by decide +kernel) ?_
    refine mV_ias (by decide +kernel) sh_257 h.1 ?_
    replace h := h.2
    refine mV_goto (off := 273) (tgt := 405) (by decide +kernel) (by decide) ?_
    exact mV_vret (by decide +kernel) rfl h
  · replace h := h.2.2.1 (mm_eqI hc (by decide))
    refine mV_tabIn (dflt := 349) (lo := 0) (hi := 9) (offs := #[56, 66, 79, 92, 105, 149, 189, 202, 295, 333]) (len := 56) (off := 79) (tgt := 135) (by decide +kernel) (by rw [hc]; decide) (by rw [hc]; decide) (by rw [hc]; rfl) (by decide) ?_
    refine mV_aload_n (k := 0) (by decide +kernel) rfl ?_
    refine mV_gfr (r := some 257) (by decide +kernel) fk_13_109 sh_226 (mm_rrs st_226_48) rfl ?_
    refine mV_iload_n (k := 2) (by decide +kernel) rfl ?_
    refine mV_dup2 (by decide +kernel) rfl rfl ?_
    refine mV_ialx (x := mg_i G 257 v2.toNatClampNeg) (by decide +kernel) sh_257 h.1 rfl ?_
    replace h := h.2
    refine mV_iload_n (k := 3) (by decide +kernel) rfl ?_
    refine mV_isub (by decide +kernel) ?_
    refine mV_ias (by decide +kernel) sh_257 h.1 ?_
    replace h := h.2
    refine mV_goto (off := 260) (tgt := 405) (by decide +kernel) (by decide) ?_
    exact mV_vret (by decide +kernel) rfl h
  · replace h := h.2.2.2.1 (mm_eqI hc (by decide))
    refine mV_tabIn (dflt := 349) (lo := 0) (hi := 9) (offs := #[56, 66, 79, 92, 105, 149, 189, 202, 295, 333]) (len := 56) (off := 92) (tgt := 148) (by decide +kernel) (by rw [hc]; decide) (by rw [hc]; decide) (by rw [hc]; rfl) (by decide) ?_
    refine mV_aload_n (k := 0) (by decide +kernel) rfl ?_
    refine mV_gfr (r := some 257) (by decide +kernel) fk_13_109 sh_226 (mm_rrs st_226_48) rfl ?_
    refine mV_iload_n (k := 2) (by decide +kernel) rfl ?_
    refine mV_dup2 (by decide +kernel) rfl rfl ?_
    refine mV_ialx (x := mg_i G 257 v2.toNatClampNeg) (by decide +kernel) sh_257 h.1 rfl ?_
    replace h := h.2
    refine mV_iload_n (k := 3) (by decide +kernel) rfl ?_
    refine mV_imul (by decide +kernel) ?_
    refine mV_ias (by decide +kernel) sh_257 h.1 ?_
    replace h := h.2
    refine mV_goto (off := 247) (tgt := 405) (by decide +kernel) (by decide) ?_
    exact mV_vret (by decide +kernel) rfl h
  · replace h := h.2.2.2.2.1 (mm_eqI hc (by decide))
    refine mV_tabIn (dflt := 349) (lo := 0) (hi := 9) (offs := #[56, 66, 79, 92, 105, 149, 189, 202, 295, 333]) (len := 56) (off := 105) (tgt := 161) (by decide +kernel) (by rw [hc]; decide) (by rw [hc]; decide) (by rw [hc]; rfl) (by decide) ?_
    refine mV_iload_n (k := 3) (by decide +kernel) rfl ?_
    refine mV_if_ne (off := 11) (tgt := 173) (by decide +kernel) (by decide) (fun hc => ?_) (fun hc => ?_)
    · replace h := h.1 hc
      refine mV_aload_n (k := 0) (by decide +kernel) rfl ?_
      refine mV_gfr (r := some 257) (by decide +kernel) fk_13_109 sh_226 (mm_rrs st_226_48) rfl ?_
      refine mV_iload_n (k := 2) (by decide +kernel) rfl ?_
      refine mV_iload_n (k := 3) (by decide +kernel) rfl ?_
      refine mV_iconst (n := -1) (v := (-1)) (by decide +kernel) (by decide) ?_
      refine mV_icmp_ne (off := 13) (tgt := 193) (by decide +kernel) (by decide) (fun hc => ?_) (fun hc => ?_)
      · replace h := h.1 hc
        refine mV_aload_n (k := 0) (by decide +kernel) rfl ?_
        refine mV_gfr (r := some 257) (by decide +kernel) fk_13_109 sh_226 (mm_rrs st_226_48) rfl ?_
        refine mV_iload_n (k := 2) (by decide +kernel) rfl ?_
        refine mV_ialx (x := mg_i G 257 v2.toNatClampNeg) (by decide +kernel) sh_257 h.1 rfl ?_
        replace h := h.2
        refine mV_iload_n (k := 3) (by decide +kernel) rfl ?_
        refine mV_idiv (by decide +kernel) h.1 ?_
        replace h := h.2
        refine mV_ias (by decide +kernel) sh_257 h.1 ?_
        replace h := h.2
        refine mV_goto (off := 203) (tgt := 405) (by decide +kernel) (by decide) ?_
        exact mV_vret (by decide +kernel) rfl h
      · replace h := h.2 hc
        refine mV_aload_n (k := 0) (by decide +kernel) rfl ?_
        refine mV_gfr (r := some 257) (by decide +kernel) fk_13_109 sh_226 (mm_rrs st_226_48) rfl ?_
        refine mV_iload_n (k := 2) (by decide +kernel) rfl ?_
        refine mV_ialx (x := mg_i G 257 v2.toNatClampNeg) (by decide +kernel) sh_257 h.1 rfl ?_
        replace h := h.2
        refine mV_ineg (by decide +kernel) ?_
        refine mV_goto (off := 11) (tgt := 201) (by decide +kernel) (by decide) ?_
        refine mV_ias (by decide +kernel) sh_257 h.1 ?_
        replace h := h.2
        refine mV_goto (off := 203) (tgt := 405) (by decide +kernel) (by decide) ?_
        exact mV_vret (by decide +kernel) rfl h
    · replace h := h.2 hc
      refine mV_aload_n (k := 0) (by decide +kernel) rfl ?_
      refine mV_iconst (n := 2) (v := nI 2) (by decide +kernel) (by decide) ?_
      refine mV_pfi (by decide +kernel) fk_13_374 sh_226 ?_
      refine mV_goto (off := 235) (tgt := 405) (by decide +kernel) (by decide) ?_
      exact mV_vret (by decide +kernel) rfl h
  · replace h := h.2.2.2.2.2.1 (mm_eqI hc (by decide))
    refine mV_tabIn (dflt := 349) (lo := 0) (hi := 9) (offs := #[56, 66, 79, 92, 105, 149, 189, 202, 295, 333]) (len := 56) (off := 149) (tgt := 205) (by decide +kernel) (by rw [hc]; decide) (by rw [hc]; decide) (by rw [hc]; rfl) (by decide) ?_
    refine mV_aload_n (k := 0) (by decide +kernel) rfl ?_
    refine mV_gfix (x := mg_i G 226 51) (by decide +kernel) fk_13_368 sh_226 rfl ?_
    refine mV_bipush (n := 8) (v := nI 8) (by decide +kernel) (by decide) ?_
    refine mV_icmp_ne (off := 11) (tgt := 222) (by decide +kernel) (by decide) (fun hc => ?_) (fun hc => ?_)
    · replace h := h.1 hc
      refine mV_aload_n (k := 0) (by decide +kernel) rfl ?_
      refine mV_gfr (r := some 258) (by decide +kernel) fk_13_112 sh_226 (mm_rrs st_226_52) rfl ?_
      refine mV_aload_n (k := 0) (by decide +kernel) rfl ?_
      refine mV_gfix (x := mg_i G 226 51) (by decide +kernel) fk_13_368 sh_226 rfl ?_
      refine mV_iload_n (k := 3) (by decide +kernel) rfl ?_
      refine mV_ias (by decide +kernel) sh_258 h.1 ?_
      replace h := h.2
      refine mV_aload_n (k := 0) (by decide +kernel) rfl ?_
      refine mV_dup (by decide +kernel) rfl ?_
      refine mV_gfix (x := mg_i G 226 51) (by decide +kernel) fk_13_368 sh_226 rfl ?_
      refine mV_iconst (n := 1) (v := nI 1) (by decide +kernel) (by decide) ?_
      refine mV_iadd (by decide +kernel) ?_
      refine mV_pfi (by decide +kernel) fk_13_368 sh_226 ?_
      refine mV_goto (off := 163) (tgt := 405) (by decide +kernel) (by decide) ?_
      exact mV_vret (by decide +kernel) rfl h
    · replace h := h.2 hc
      refine mV_aload_n (k := 0) (by decide +kernel) rfl ?_
      refine mV_iconst (n := 3) (v := nI 3) (by decide +kernel) (by decide) ?_
      refine mV_pfi (by decide +kernel) fk_13_374 sh_226 ?_
      refine mV_goto (off := 186) (tgt := 405) (by decide +kernel) (by decide) ?_
      exact mV_vret (by decide +kernel) rfl h
  · replace h := h.2.2.2.2.2.2.1 (mm_eqI hc (by decide))
    refine mV_tabIn (dflt := 349) (lo := 0) (hi := 9) (offs := #[56, 66, 79, 92, 105, 149, 189, 202, 295, 333]) (len := 56) (off := 189) (tgt := 245) (by decide +kernel) (by rw [hc]; decide) (by rw [hc]; decide) (by rw [hc]; rfl) (by decide) ?_
    refine mV_aload_n (k := 0) (by decide +kernel) rfl ?_
    refine mV_aload_n (k := 0) (by decide +kernel) rfl ?_
    refine mV_gfr (r := some 247) (by decide +kernel) fk_13_79 sh_226 (mm_rrs st_226_33) rfl ?_
    refine mV_iload_n (k := 1) (by decide +kernel) rfl ?_
    refine mV_lalx (x := mg_l G 247 v1.toNatClampNeg) (by decide +kernel) sh_247 h.1 rfl ?_
    replace h := h.2
    refine mV_cV (as := [.long (mg_l G 247 v1.toNatClampNeg)]) (rest := []) (mc1 := 0) (ms1 := 0) (mc := 0) (ms := 0) (by decide +kernel) md_X13_jumps lk_13_383 sh_226 rfl rfl rfl (Nat.le_of_ble_eq_true rfl) (mC.mono (mm_contV (fun G2 hK => ?_)) h)
    replace h := hK
    refine mV_goto (off := 150) (tgt := 405) (by decide +kernel) (by decide) ?_
    exact mV_vret (by decide +kernel) rfl h
  · replace h := h.2.2.2.2.2.2.2.1 (mm_eqI hc (by decide))
    refine mV_tabIn (dflt := 349) (lo := 0) (hi := 9) (offs := #[56, 66, 79, 92, 105, 149, 189, 202, 295, 333]) (len := 56) (off := 202) (tgt := 258) (by decide +kernel) (by rw [hc]; decide) (by rw [hc]; decide) (by rw [hc]; rfl) (by decide) ?_
    refine mV_aload_n (k := 0) (by decide +kernel) rfl ?_
    refine mV_aload_n (k := 0) (by decide +kernel) rfl ?_
    refine mV_gfr (r := some 241) (by decide +kernel) fk_13_61 sh_226 (mm_rrs st_226_27) rfl ?_
    refine mV_iload_n (k := 1) (by decide +kernel) rfl ?_
    refine mV_ialx (x := mg_i G 241 v1.toNatClampNeg) (by decide +kernel) sh_241 h.1 rfl ?_
    replace h := h.2
    refine mV_aload_n (k := 0) (by decide +kernel) rfl ?_
    refine mV_gfr (r := some 242) (by decide +kernel) fk_13_64 sh_226 (mm_rrs st_226_28) rfl ?_
    refine mV_iload_n (k := 1) (by decide +kernel) rfl ?_
    refine mV_ialx (x := mg_i G 242 v1.toNatClampNeg) (by decide +kernel) sh_242 h.1 rfl ?_
    replace h := h.2
    refine mV_cV (as := [.int (mg_i G 241 v1.toNatClampNeg), .int (mg_i G 242 v1.toNatClampNeg)]) (rest := []) (mc1 := 0) (ms1 := 0) (mc := 0) (ms := 0) (by decide +kernel) md_X13_valueOf lk_13_380 sh_226 rfl rfl rfl (Nat.le_of_ble_eq_true rfl) (mC.mono (mm_contI (fun r3 G4 hK => ?_)) h)
    replace h := hK
    refine mV_istore (i := 4) (ls' := [some (.ref 226), some (.int v1), some (.int v2), some (.int v3), some (.int r3), none]) (by decide +kernel) (Nat.le_of_ble_eq_true rfl) rfl rfl ?_
    refine mV_aload_n (k := 0) (by decide +kernel) rfl ?_
    refine mV_gfr (r := some 243) (by decide +kernel) fk_13_67 sh_226 (mm_rrs st_226_29) rfl ?_
    refine mV_iload_n (k := 1) (by decide +kernel) rfl ?_
    refine mV_ialx (x := mg_i G4 243 v1.toNatClampNeg) (by decide +kernel) sh_243 h.1 rfl ?_
    replace h := h.2
    refine mV_istore (i := 5) (ls' := [some (.ref 226), some (.int v1), some (.int v2), some (.int v3), some (.int r3), some (.int (mg_i G4 243 v1.toNatClampNeg))]) (by decide +kernel) (Nat.le_of_ble_eq_true rfl) rfl rfl ?_
    refine mV_iload (i := 5) (by decide +kernel) rfl ?_
    refine mV_bipush (n := 9) (v := nI 9) (by decide +kernel) (by decide) ?_
    refine mV_icmp_ne (off := 12) (tgt := 300) (by decide +kernel) (by decide) (fun hc => ?_) (fun hc => ?_)
    · replace h := h.1 hc
      refine mV_iload (i := 5) (by decide +kernel) rfl ?_
      refine mV_bipush (n := 10) (v := nI 10) (by decide +kernel) (by decide) ?_
      refine mV_icmp_ne (off := 12) (tgt := 316) (by decide +kernel) (by decide) (fun hc => ?_) (fun hc => ?_)
      · replace h := h.1 hc
        refine mV_iload (i := 5) (by decide +kernel) rfl ?_
        refine mV_bipush (n := 11) (v := nI 11) (by decide +kernel) (by decide) ?_
        refine mV_icmp_ne (off := 12) (tgt := 332) (by decide +kernel) (by decide) (fun hc => ?_) (fun hc => ?_)
        · replace h := h.1 hc
          refine mV_iload_n (k := 3) (by decide +kernel) rfl ?_
          refine mV_iload (i := 4) (by decide +kernel) rfl ?_
          refine mV_icmp_gt (off := 70) (tgt := 405) (by decide +kernel) (by decide) (fun hc => ?_) (fun hc => ?_)
          · replace h := h.1 hc
            exact mV_vret (by decide +kernel) rfl h
          · replace h := h.2 hc
            exact h
        · replace h := h.2 hc
          refine mV_iload_n (k := 3) (by decide +kernel) rfl ?_
          refine mV_iload (i := 4) (by decide +kernel) rfl ?_
          refine mV_icmp_ge (off := 79) (tgt := 405) (by decide +kernel) (by decide) (fun hc => ?_) (fun hc => ?_)
          · replace h := h.1 hc
            exact mV_vret (by decide +kernel) rfl h
          · replace h := h.2 hc
            refine mV_goto (off := 9) (tgt := 338) (by decide +kernel) (by decide) ?_
            exact h
      · replace h := h.2 hc
        refine mV_iload_n (k := 3) (by decide +kernel) rfl ?_
        refine mV_iload (i := 4) (by decide +kernel) rfl ?_
        refine mV_icmp_eq (off := 95) (tgt := 405) (by decide +kernel) (by decide) (fun hc => ?_) (fun hc => ?_)
        · replace h := h.1 hc
          exact mV_vret (by decide +kernel) rfl h
        · replace h := h.2 hc
          refine mV_goto (off := 25) (tgt := 338) (by decide +kernel) (by decide) ?_
          exact h
    · replace h := h.2 hc
      refine mV_iload_n (k := 3) (by decide +kernel) rfl ?_
      refine mV_iload (i := 4) (by decide +kernel) rfl ?_
      refine mV_icmp_ne (off := 111) (tgt := 405) (by decide +kernel) (by decide) (fun hc => ?_) (fun hc => ?_)
      · replace h := h.1 hc
        exact mV_vret (by decide +kernel) rfl h
      · replace h := h.2 hc
        refine mV_goto (off := 41) (tgt := 338) (by decide +kernel) (by decide) ?_
        exact h
  · replace h := h.2.2.2.2.2.2.2.2.1 (mm_eqI hc (by decide))
    refine mV_tabIn (dflt := 349) (lo := 0) (hi := 9) (offs := #[56, 66, 79, 92, 105, 149, 189, 202, 295, 333]) (len := 56) (off := 295) (tgt := 351) (by decide +kernel) (by rw [hc]; decide) (by rw [hc]; decide) (by rw [hc]; rfl) (by decide) ?_
    refine mV_aload_n (k := 0) (by decide +kernel) rfl ?_
    refine mV_dup (by decide +kernel) rfl ?_
    refine mV_gfix (x := mg_i G 226 58) (by decide +kernel) fk_13_356 sh_226 rfl ?_
    refine mV_iconst (n := 1) (v := nI 1) (by decide +kernel) (by decide) ?_
    refine mV_iadd (by decide +kernel) ?_
    refine mV_pfi (by decide +kernel) fk_13_356 sh_226 ?_
    refine mV_aload_n (k := 0) (by decide +kernel) rfl ?_
    refine mV_gfr (r := some 260) (by decide +kernel) fk_13_118 sh_226 (mm_rrs st_226_56) rfl ?_
    refine mV_aload_n (k := 0) (by decide +kernel) rfl ?_
    refine mV_gfix (x := (mg_i G 226 58) + (nI 1)) (by decide +kernel) fk_13_356 sh_226 rfl ?_
    refine mV_aload_n (k := 0) (by decide +kernel) rfl ?_
    refine mV_gfr (r := some 244) (by decide +kernel) fk_13_70 sh_226 (mm_rrs st_226_30) rfl ?_
    refine mV_iload_n (k := 1) (by decide +kernel) rfl ?_
    refine mV_ialx (x := mg_i G 244 v1.toNatClampNeg) (by decide +kernel) sh_244 h.1 rfl ?_
    replace h := h.2
    refine mV_ias (by decide +kernel) sh_260 h.1 ?_
    replace h := h.2
    refine mV_aload_n (k := 0) (by decide +kernel) rfl ?_
    refine mV_gfr (r := some 261) (by decide +kernel) fk_13_121 sh_226 (mm_rrs st_226_57) rfl ?_
    refine mV_aload_n (k := 0) (by decide +kernel) rfl ?_
    refine mV_gfix (x := (mg_i G 226 58) + (nI 1)) (by decide +kernel) fk_13_356 sh_226 rfl ?_
    refine mV_iconst (n := 0) (v := nI 0) (by decide +kernel) (by decide) ?_
    refine mV_ias (by decide +kernel) sh_261 h.1 ?_
    replace h := h.2
    refine mV_goto (off := 19) (tgt := 405) (by decide +kernel) (by decide) ?_
    exact mV_vret (by decide +kernel) rfl h
  · replace h := h.2.2.2.2.2.2.2.2.2.1 (mm_eqI hc (by decide))
    refine mV_tabIn (dflt := 349) (lo := 0) (hi := 9) (offs := #[56, 66, 79, 92, 105, 149, 189, 202, 295, 333]) (len := 56) (off := 333) (tgt := 389) (by decide +kernel) (by rw [hc]; decide) (by rw [hc]; decide) (by rw [hc]; rfl) (by decide) ?_
    refine mV_aload_n (k := 0) (by decide +kernel) rfl ?_
    refine mV_gfr (r := some 261) (by decide +kernel) fk_13_121 sh_226 (mm_rrs st_226_57) rfl ?_
    refine mV_aload_n (k := 0) (by decide +kernel) rfl ?_
    refine mV_gfix (x := mg_i G 226 58) (by decide +kernel) fk_13_356 sh_226 rfl ?_
    refine mV_aload_n (k := 0) (by decide +kernel) rfl ?_
    refine mV_cV (as := []) (rest := [.int (mg_i G 226 58), .ref 261]) (mc1 := 0) (ms1 := 0) (mc := 0) (ms := 0) (by decide +kernel) md_X13_topLines lk_13_359 sh_226 rfl rfl rfl (Nat.le_of_ble_eq_true rfl) (mC.mono (mm_contI (fun r5 G6 hK => ?_)) h)
    replace h := hK
    refine mV_ias (by decide +kernel) sh_261 h.1 ?_
    replace h := h.2
    refine mV_goto (off := 3) (tgt := 405) (by decide +kernel) (by decide) ?_
    exact mV_vret (by decide +kernel) rfl h
set_option maxRecDepth 100000 in
set_option maxHeartbeats 4000000 in
theorem p_X13_acts_338 {l : Launch} {κ : mm_K} {d : Nat} {G : mm_G} {K : mm_G → Prop} (v1 : Int32) (v2 : Int32) (v3 : Int32) (v4 : Int32) (v5 : Int32) (h : vp_in v1 320 ∧ mC l κ true (d + 2) 0 0 m_X13_jumps [.ref 226, .long (mg_l G 247 v1.toNatClampNeg)] G (rV (fun G2 => K G2))) : mV l κ true (d + 3) 0 0 m_X13_acts 338 [some (.ref 226), some (.int v1), some (.int v2), some (.int v3), some (.int v4), some (.int v5)] [] G (rV K) := by
  refine mV_aload_n (k := 0) (by decide +kernel) rfl ?_
  refine mV_aload_n (k := 0) (by decide +kernel) rfl ?_
  refine mV_gfr (r := some 247) (by decide +kernel) fk_13_79 sh_226 (mm_rrs st_226_33) rfl ?_
  refine mV_iload_n (k := 1) (by decide +kernel) rfl ?_
  refine mV_lalx (x := mg_l G 247 v1.toNatClampNeg) (by decide +kernel) sh_247 h.1 rfl ?_
  replace h := h.2
  refine mV_cV (as := [.long (mg_l G 247 v1.toNatClampNeg)]) (rest := []) (mc1 := 0) (ms1 := 0) (mc := 0) (ms := 0) (by decide +kernel) md_X13_jumps lk_13_383 sh_226 rfl rfl rfl (Nat.le_of_ble_eq_true rfl) (mC.mono (mm_contV (fun G2 hK => ?_)) h)
  replace h := hK
  refine mV_goto (off := 57) (tgt := 405) (by decide +kernel) (by decide) ?_
  exact mV_vret (by decide +kernel) rfl h
set_option maxRecDepth 100000 in
set_option maxHeartbeats 4000000 in
theorem e_X13_fillBase {l : Launch} {κ : mm_K} {d : Nat} {G : mm_G} {K : mm_G → Prop} (a1 : Int32) (h : mC l κ true (d + 4) 0 0 m_X13_takesRow [.ref 226, .int a1, .int (nI 0)] G (rV (fun G2 => mV l κ true (d + 5) 0 0 m_X13_fillBase 8 [some (.ref 226), some (.int a1), some (.int (nI 0)), none] [] G2 (rV K)))) : mC l κ true (d + 5) 0 0 m_X13_fillBase [.ref 226, .int a1] G (rV K) := by
  refine mC.of (by decide) (Nat.le_of_ble_eq_true rfl) [some (.ref 226), some (.int a1), none, none] rfl ?_
  refine mV_aload_n (k := 0) (by decide +kernel) rfl ?_
  refine mV_iload_n (k := 1) (by decide +kernel) rfl ?_
  refine mV_iconst (n := 0) (v := nI 0) (by decide +kernel) (by decide) ?_
  refine mV_cV (as := [.int a1, .int (nI 0)]) (rest := []) (mc1 := 0) (ms1 := 0) (mc := 0) (ms := 0) (by decide +kernel) md_X13_takesRow lk_13_387 sh_226 rfl rfl rfl (Nat.le_of_ble_eq_true rfl) (mC.mono (mm_contV (fun G2 hK => ?_)) h)
  replace h := hK
  refine mV_iconst (n := 0) (v := nI 0) (by decide +kernel) (by decide) ?_
  refine mV_istore_n (k := 2) (ls' := [some (.ref 226), some (.int a1), some (.int (nI 0)), none]) (by decide +kernel) (Nat.le_of_ble_eq_true rfl) rfl rfl ?_
  exact h
set_option maxRecDepth 100000 in
set_option maxHeartbeats 4000000 in
theorem p_X13_fillBase_8 {l : Launch} {κ : mm_K} {d : Nat} {G : mm_G} {K : mm_G → Prop} (v1 : Int32) (v2 : Int32) (h : vp_in (mg_i G 226 18) 2 ∧ (((mg_i G 249 ((mg_i G 226 18).toNatClampNeg)) ≤ v2 → K G) ∧ (¬ (mg_i G 249 ((mg_i G 226 18).toNatClampNeg)) ≤ v2 → mC l κ true (d + 4) 0 0 m_X13_runs [.ref 226, .int v2] G (rV (fun G2 => vp_in v2 8 ∧ vp_in v2 8 ∧ mV l κ true (d + 5) 0 0 m_X13_fillBase 48 [some (.ref 226), some (.int v1), some (.int v2), some (.int (nI 0))] [] (ms_i (ms_i G2 262 v2.toNatClampNeg (mg_i G2 226 55)) 263 v2.toNatClampNeg (mg_i G2 226 51)) (rV K)))))) : mV l κ true (d + 5) 0 0 m_X13_fillBase 8 [some (.ref 226), some (.int v1), some (.int v2), none] [] G (rV K) := by
  refine mV_iload_n (k := 2) (by decide +kernel) rfl ?_
  refine mV_aload_n (k := 0) (by decide +kernel) rfl ?_
  refine mV_gfr (r := some 249) (by decide +kernel) fk_13_85 sh_226 (mm_rrs st_226_35) rfl ?_
  refine mV_aload_n (k := 0) (by decide +kernel) rfl ?_
  refine mV_gfix (x := mg_i G 226 18) (by decide +kernel) fk_13_266 sh_226 rfl ?_
  refine mV_ialx (x := mg_i G 249 ((mg_i G 226 18).toNatClampNeg)) (by decide +kernel) sh_249 h.1 rfl ?_
  replace h := h.2
  refine mV_icmp_ge (off := 67) (tgt := 85) (by decide +kernel) (by decide) (fun hc => ?_) (fun hc => ?_)
  · replace h := h.1 hc
    exact mV_vret (by decide +kernel) rfl h
  · replace h := h.2 hc
    refine mV_aload_n (k := 0) (by decide +kernel) rfl ?_
    refine mV_iload_n (k := 2) (by decide +kernel) rfl ?_
    refine mV_cV (as := [.int v2]) (rest := []) (mc1 := 0) (ms1 := 0) (mc := 0) (ms := 0) (by decide +kernel) md_X13_runs lk_13_390 sh_226 rfl rfl rfl (Nat.le_of_ble_eq_true rfl) (mC.mono (mm_contV (fun G2 hK => ?_)) h)
    replace h := hK
    refine mV_aload_n (k := 0) (by decide +kernel) rfl ?_
    refine mV_gfr (r := some 262) (by decide +kernel) fk_13_124 sh_226 (mm_rrs st_226_59) rfl ?_
    refine mV_iload_n (k := 2) (by decide +kernel) rfl ?_
    refine mV_aload_n (k := 0) (by decide +kernel) rfl ?_
    refine mV_gfix (x := mg_i G2 226 55) (by decide +kernel) fk_13_374 sh_226 rfl ?_
    refine mV_ias (by decide +kernel) sh_262 h.1 ?_
    replace h := h.2
    refine mV_aload_n (k := 0) (by decide +kernel) rfl ?_
    refine mV_gfr (r := some 263) (by decide +kernel) fk_13_127 sh_226 (mm_rrs st_226_60) rfl ?_
    refine mV_iload_n (k := 2) (by decide +kernel) rfl ?_
    refine mV_aload_n (k := 0) (by decide +kernel) rfl ?_
    refine mV_gfix (x := mg_i G2 226 51) (by decide +kernel) fk_13_368 sh_226 rfl ?_
    refine mV_ias (by decide +kernel) sh_263 h.1 ?_
    replace h := h.2
    refine mV_iconst (n := 0) (v := nI 0) (by decide +kernel) (by decide) ?_
    refine mV_istore_n (k := 3) (ls' := [some (.ref 226), some (.int v1), some (.int v2), some (.int (nI 0))]) (by decide +kernel) (Nat.le_of_ble_eq_true rfl) rfl rfl ?_
    exact h
set_option maxRecDepth 100000 in
set_option maxHeartbeats 4000000 in
theorem p_X13_fillBase_48 {l : Launch} {κ : mm_K} {d : Nat} {G : mm_G} {K : mm_G → Prop} (v1 : Int32) (v2 : Int32) (v3 : Int32) (h : (((mg_i G 226 51) ≤ v3 → mV l κ true (d + 5) 0 0 m_X13_fillBase 8 [some (.ref 226), some (.int v1), some (.int (v2 + (nI 1))), none] [] G (rV K)) ∧ (¬ (mg_i G 226 51) ≤ v3 → vp_in v3 8 ∧ vp_in (((nI 8) * v2) + v3) 64 ∧ mV l κ true (d + 5) 0 0 m_X13_fillBase 48 [some (.ref 226), some (.int v1), some (.int v2), some (.int (v3 + (nI 1)))] [] (ms_i G 264 ((((nI 8) * v2) + v3).toNatClampNeg) (mg_i G 258 v3.toNatClampNeg)) (rV K)))) : mV l κ true (d + 5) 0 0 m_X13_fillBase 48 [some (.ref 226), some (.int v1), some (.int v2), some (.int v3)] [] G (rV K) := by
  refine mV_iload_n (k := 3) (by decide +kernel) rfl ?_
  refine mV_aload_n (k := 0) (by decide +kernel) rfl ?_
  refine mV_gfix (x := mg_i G 226 51) (by decide +kernel) fk_13_368 sh_226 rfl ?_
  refine mV_icmp_ge (off := 26) (tgt := 79) (by decide +kernel) (by decide) (fun hc => ?_) (fun hc => ?_)
  · replace h := h.1 hc
    refine mV_iincc (i := 2) (n := 1) (c := nI 1) (ls' := [some (.ref 226), some (.int v1), some (.int (v2 + (nI 1))), some (.int v3)]) (by decide +kernel) (by decide) rfl (Nat.le_of_ble_eq_true rfl) rfl rfl ?_
    refine mV_goto (off := -74) (tgt := 8) (by decide +kernel) (by decide) ?_
    refine mV_fg [3] (ls' := [some (.ref 226), some (.int v1), some (.int (v2 + (nI 1))), none]) rfl ?_
    exact h
  · replace h := h.2 hc
    refine mV_aload_n (k := 0) (by decide +kernel) rfl ?_
    refine mV_gfr (r := some 264) (by decide +kernel) fk_13_130 sh_226 (mm_rrs st_226_61) rfl ?_
    refine mV_bipush (n := 8) (v := nI 8) (by decide +kernel) (by decide) ?_
    refine mV_iload_n (k := 2) (by decide +kernel) rfl ?_
    refine mV_imul (by decide +kernel) ?_
    refine mV_iload_n (k := 3) (by decide +kernel) rfl ?_
    refine mV_iadd (by decide +kernel) ?_
    refine mV_aload_n (k := 0) (by decide +kernel) rfl ?_
    refine mV_gfr (r := some 258) (by decide +kernel) fk_13_112 sh_226 (mm_rrs st_226_52) rfl ?_
    refine mV_iload_n (k := 3) (by decide +kernel) rfl ?_
    refine mV_ialx (x := mg_i G 258 v3.toNatClampNeg) (by decide +kernel) sh_258 h.1 rfl ?_
    replace h := h.2
    refine mV_ias (by decide +kernel) sh_264 h.1 ?_
    replace h := h.2
    refine mV_iincc (i := 3) (n := 1) (c := nI 1) (ls' := [some (.ref 226), some (.int v1), some (.int v2), some (.int (v3 + (nI 1)))]) (by decide +kernel) (by decide) rfl (Nat.le_of_ble_eq_true rfl) rfl rfl ?_
    refine mV_goto (off := -28) (tgt := 48) (by decide +kernel) (by decide) ?_
    exact h
set_option maxRecDepth 100000 in
set_option maxHeartbeats 4000000 in
theorem e_X13_isAsBase {l : Launch} {κ : mm_K} {d : Nat} {G : mm_G} {K : Int32 → mm_G → Prop} (a1 : Int32) (h : vp_in a1 8 ∧ ((¬ (mg_i G 226 55) = (mg_i G 262 a1.toNatClampNeg) → K (nI 0) G) ∧ ((mg_i G 226 55) = (mg_i G 262 a1.toNatClampNeg) → vp_in a1 8 ∧ (((mg_i G 226 51) = (mg_i G 263 a1.toNatClampNeg) → mV l κ true d 0 0 m_X13_isAsBase 30 [some (.ref 226), some (.int a1), some (.int (nI 0))] [] G (rI K)) ∧ (¬ (mg_i G 226 51) = (mg_i G 263 a1.toNatClampNeg) → K (nI 0) G))))) : mC l κ true d 0 0 m_X13_isAsBase [.ref 226, .int a1] G (rI K) := by
  refine mC.of (by decide) (Nat.le_of_ble_eq_true rfl) [some (.ref 226), some (.int a1), none] rfl ?_
  refine mV_aload_n (k := 0) (by decide +kernel) rfl ?_
  refine mV_gfix (x := mg_i G 226 55) (by decide +kernel) fk_13_374 sh_226 rfl ?_
  refine mV_aload_n (k := 0) (by decide +kernel) rfl ?_
  refine mV_gfr (r := some 262) (by decide +kernel) fk_13_124 sh_226 (mm_rrs st_226_59) rfl ?_
  refine mV_iload_n (k := 1) (by decide +kernel) rfl ?_
  refine mV_ialx (x := mg_i G 262 a1.toNatClampNeg) (by decide +kernel) sh_262 h.1 rfl ?_
  replace h := h.2
  refine mV_icmp_ne (off := 16) (tgt := 26) (by decide +kernel) (by decide) (fun hc => ?_) (fun hc => ?_)
  · replace h := h.1 hc
    refine mV_iconst (n := 0) (v := nI 0) (by decide +kernel) (by decide) ?_
    exact mV_zret (by decide +kernel) rfl (by decide) h
  · replace h := h.2 hc
    refine mV_aload_n (k := 0) (by decide +kernel) rfl ?_
    refine mV_gfix (x := mg_i G 226 51) (by decide +kernel) fk_13_368 sh_226 rfl ?_
    refine mV_aload_n (k := 0) (by decide +kernel) rfl ?_
    refine mV_gfr (r := some 263) (by decide +kernel) fk_13_127 sh_226 (mm_rrs st_226_60) rfl ?_
    refine mV_iload_n (k := 1) (by decide +kernel) rfl ?_
    refine mV_ialx (x := mg_i G 263 a1.toNatClampNeg) (by decide +kernel) sh_263 h.1 rfl ?_
    replace h := h.2
    refine mV_icmp_eq (off := 5) (tgt := 28) (by decide +kernel) (by decide) (fun hc => ?_) (fun hc => ?_)
    · replace h := h.1 hc
      refine mV_iconst (n := 0) (v := nI 0) (by decide +kernel) (by decide) ?_
      refine mV_istore_n (k := 2) (ls' := [some (.ref 226), some (.int a1), some (.int (nI 0))]) (by decide +kernel) (Nat.le_of_ble_eq_true rfl) rfl rfl ?_
      exact h
    · replace h := h.2 hc
      refine mV_iconst (n := 0) (v := nI 0) (by decide +kernel) (by decide) ?_
      exact mV_zret (by decide +kernel) rfl (by decide) h
set_option maxRecDepth 100000 in
set_option maxHeartbeats 4000000 in
theorem p_X13_isAsBase_30 {l : Launch} {κ : mm_K} {d : Nat} {G : mm_G} {K : Int32 → mm_G → Prop} (v1 : Int32) (v2 : Int32) (h : (((mg_i G 226 51) ≤ v2 → K (nI 1) G) ∧ (¬ (mg_i G 226 51) ≤ v2 → vp_in v2 8 ∧ vp_in (((nI 8) * v1) + v2) 64 ∧ (((mg_i G 258 v2.toNatClampNeg) = (mg_i G 264 ((((nI 8) * v1) + v2).toNatClampNeg)) → mV l κ true d 0 0 m_X13_isAsBase 30 [some (.ref 226), some (.int v1), some (.int (v2 + (nI 1)))] [] G (rI K)) ∧ (¬ (mg_i G 258 v2.toNatClampNeg) = (mg_i G 264 ((((nI 8) * v1) + v2).toNatClampNeg)) → K (nI 0) G))))) : mV l κ true d 0 0 m_X13_isAsBase 30 [some (.ref 226), some (.int v1), some (.int v2)] [] G (rI K) := by
  refine mV_iload_n (k := 2) (by decide +kernel) rfl ?_
  refine mV_aload_n (k := 0) (by decide +kernel) rfl ?_
  refine mV_gfix (x := mg_i G 226 51) (by decide +kernel) fk_13_368 sh_226 rfl ?_
  refine mV_icmp_ge (off := 31) (tgt := 66) (by decide +kernel) (by decide) (fun hc => ?_) (fun hc => ?_)
  · replace h := h.1 hc
    refine mV_iconst (n := 1) (v := nI 1) (by decide +kernel) (by decide) ?_
    exact mV_zret (by decide +kernel) rfl (by decide) h
  · replace h := h.2 hc
    refine mV_aload_n (k := 0) (by decide +kernel) rfl ?_
    refine mV_gfr (r := some 258) (by decide +kernel) fk_13_112 sh_226 (mm_rrs st_226_52) rfl ?_
    refine mV_iload_n (k := 2) (by decide +kernel) rfl ?_
    refine mV_ialx (x := mg_i G 258 v2.toNatClampNeg) (by decide +kernel) sh_258 h.1 rfl ?_
    replace h := h.2
    refine mV_aload_n (k := 0) (by decide +kernel) rfl ?_
    refine mV_gfr (r := some 264) (by decide +kernel) fk_13_130 sh_226 (mm_rrs st_226_61) rfl ?_
    refine mV_bipush (n := 8) (v := nI 8) (by decide +kernel) (by decide) ?_
    refine mV_iload_n (k := 1) (by decide +kernel) rfl ?_
    refine mV_imul (by decide +kernel) ?_
    refine mV_iload_n (k := 2) (by decide +kernel) rfl ?_
    refine mV_iadd (by decide +kernel) ?_
    refine mV_ialx (x := mg_i G 264 ((((nI 8) * v1) + v2).toNatClampNeg)) (by decide +kernel) sh_264 h.1 rfl ?_
    replace h := h.2
    refine mV_icmp_eq (off := 5) (tgt := 60) (by decide +kernel) (by decide) (fun hc => ?_) (fun hc => ?_)
    · replace h := h.1 hc
      refine mV_iincc (i := 2) (n := 1) (c := nI 1) (ls' := [some (.ref 226), some (.int v1), some (.int (v2 + (nI 1)))]) (by decide +kernel) (by decide) rfl (Nat.le_of_ble_eq_true rfl) rfl rfl ?_
      refine mV_goto (off := -33) (tgt := 30) (by decide +kernel) (by decide) ?_
      exact h
    · replace h := h.2 hc
      refine mV_iconst (n := 0) (v := nI 0) (by decide +kernel) (by decide) ?_
      exact mV_zret (by decide +kernel) rfl (by decide) h
set_option maxRecDepth 100000 in
set_option maxHeartbeats 4000000 in
theorem e_X13_unlike {l : Launch} {κ : mm_K} {d : Nat} {G : mm_G} {K : Int32 → mm_G → Prop}  (h : mV l κ true (d + 5) 0 0 m_X13_unlike 2 [some (.ref 226), some (.int (nI 0))] [] G (rI K)) : mC l κ true (d + 5) 0 0 m_X13_unlike [.ref 226] G (rI K) := by
  refine mC.of (by decide) (Nat.le_of_ble_eq_true rfl) [some (.ref 226), none] rfl ?_
  refine mV_iconst (n := 0) (v := nI 0) (by decide +kernel) (by decide) ?_
  refine mV_istore_n (k := 1) (ls' := [some (.ref 226), some (.int (nI 0))]) (by decide +kernel) (Nat.le_of_ble_eq_true rfl) rfl rfl ?_
  exact h
set_option maxRecDepth 100000 in
set_option maxHeartbeats 4000000 in
theorem p_X13_unlike_2 {l : Launch} {κ : mm_K} {d : Nat} {G : mm_G} {K : Int32 → mm_G → Prop} (v1 : Int32) (h : vp_in (mg_i G 226 18) 2 ∧ (((mg_i G 249 ((mg_i G 226 18).toNatClampNeg)) ≤ v1 → K (-2) G) ∧ (¬ (mg_i G 249 ((mg_i G 226 18).toNatClampNeg)) ≤ v1 → mC l κ true (d + 4) 0 0 m_X13_runs [.ref 226, .int v1] G (rV (fun G2 => mC l κ true (d + 4) 0 0 m_X13_isAsBase [.ref 226, .int v1] G2 (rI (fun r3 G4 => ((¬ r3 = 0 → mV l κ true (d + 5) 0 0 m_X13_unlike 2 [some (.ref 226), some (.int (v1 + (nI 1)))] [] G4 (rI K)) ∧ (r3 = 0 → K v1 G4))))))))) : mV l κ true (d + 5) 0 0 m_X13_unlike 2 [some (.ref 226), some (.int v1)] [] G (rI K) := by
  refine mV_iload_n (k := 1) (by decide +kernel) rfl ?_
  refine mV_aload_n (k := 0) (by decide +kernel) rfl ?_
  refine mV_gfr (r := some 249) (by decide +kernel) fk_13_85 sh_226 (mm_rrs st_226_35) rfl ?_
  refine mV_aload_n (k := 0) (by decide +kernel) rfl ?_
  refine mV_gfix (x := mg_i G 226 18) (by decide +kernel) fk_13_266 sh_226 rfl ?_
  refine mV_ialx (x := mg_i G 249 ((mg_i G 226 18).toNatClampNeg)) (by decide +kernel) sh_249 h.1 rfl ?_
  replace h := h.2
  refine mV_icmp_ge (off := 24) (tgt := 36) (by decide +kernel) (by decide) (fun hc => ?_) (fun hc => ?_)
  · replace h := h.1 hc
    refine mV_bipush (n := -2) (v := (-2)) (by decide +kernel) (by decide) ?_
    exact mV_iret (by decide +kernel) rfl h
  · replace h := h.2 hc
    refine mV_aload_n (k := 0) (by decide +kernel) rfl ?_
    refine mV_iload_n (k := 1) (by decide +kernel) rfl ?_
    refine mV_cV (as := [.int v1]) (rest := []) (mc1 := 0) (ms1 := 0) (mc := 0) (ms := 0) (by decide +kernel) md_X13_runs lk_13_390 sh_226 rfl rfl rfl (Nat.le_of_ble_eq_true rfl) (mC.mono (mm_contV (fun G2 hK => ?_)) h)
    replace h := hK
    refine mV_aload_n (k := 0) (by decide +kernel) rfl ?_
    refine mV_iload_n (k := 1) (by decide +kernel) rfl ?_
    refine mV_cV (as := [.int v1]) (rest := []) (mc1 := 0) (ms1 := 0) (mc := 0) (ms := 0) (by decide +kernel) md_X13_isAsBase lk_13_393 sh_226 rfl rfl rfl (Nat.le_of_ble_eq_true rfl) (mC.mono (mm_contI (fun r3 G4 hK => ?_)) h)
    replace h := hK
    refine mV_if_ne (off := 5) (tgt := 30) (by decide +kernel) (by decide) (fun hc => ?_) (fun hc => ?_)
    · replace h := h.1 hc
      refine mV_iincc (i := 1) (n := 1) (c := nI 1) (ls' := [some (.ref 226), some (.int (v1 + (nI 1)))]) (by decide +kernel) (by decide) rfl (Nat.le_of_ble_eq_true rfl) rfl rfl ?_
      refine mV_goto (off := -31) (tgt := 2) (by decide +kernel) (by decide) ?_
      exact h
    · replace h := h.2 hc
      refine mV_iload_n (k := 1) (by decide +kernel) rfl ?_
      exact mV_iret (by decide +kernel) rfl h
set_option maxRecDepth 100000 in
set_option maxHeartbeats 4000000 in
theorem e_X13_isSame {l : Launch} {κ : mm_K} {d : Nat} {G : mm_G} {K : Int32 → mm_G → Prop} (a1 : Int32) (a2 : Int32) (h : mC l κ true (d + 5) 0 0 m_X13_takesRow [.ref 226, .int a1, .int a2] G (rV (fun G2 => mC l κ true (d + 5) 0 0 m_X13_unlike [.ref 226] G2 (rI (fun r3 G4 => ((0 ≤ r3 → K (nI 0) G4) ∧ (¬ 0 ≤ r3 → K (nI 1) G4))))))) : mC l κ true (d + 6) 0 0 m_X13_isSame [.ref 226, .int a1, .int a2] G (rI K) := by
  refine mC.of (by decide) (Nat.le_of_ble_eq_true rfl) [some (.ref 226), some (.int a1), some (.int a2)] rfl ?_
  refine mV_aload_n (k := 0) (by decide +kernel) rfl ?_
  refine mV_iload_n (k := 1) (by decide +kernel) rfl ?_
  refine mV_iload_n (k := 2) (by decide +kernel) rfl ?_
  refine mV_cV (as := [.int a1, .int a2]) (rest := []) (mc1 := 0) (ms1 := 0) (mc := 0) (ms := 0) (by decide +kernel) md_X13_takesRow lk_13_387 sh_226 rfl rfl rfl (Nat.le_of_ble_eq_true rfl) (mC.mono (mm_contV (fun G2 hK => ?_)) h)
  replace h := hK
  refine mV_aload_n (k := 0) (by decide +kernel) rfl ?_
  refine mV_cV (as := []) (rest := []) (mc1 := 0) (ms1 := 0) (mc := 0) (ms := 0) (by decide +kernel) md_X13_unlike lk_13_396 sh_226 rfl rfl rfl (Nat.le_of_ble_eq_true rfl) (mC.mono (mm_contI (fun r3 G4 hK => ?_)) h)
  replace h := hK
  refine mV_if_ge (off := 7) (tgt := 17) (by decide +kernel) (by decide) (fun hc => ?_) (fun hc => ?_)
  · replace h := h.1 hc
    refine mV_iconst (n := 0) (v := nI 0) (by decide +kernel) (by decide) ?_
    exact mV_zret (by decide +kernel) rfl (by decide) h
  · replace h := h.2 hc
    refine mV_iconst (n := 1) (v := nI 1) (by decide +kernel) (by decide) ?_
    refine mV_goto (off := 4) (tgt := 18) (by decide +kernel) (by decide) ?_
    exact mV_zret (by decide +kernel) rfl (by decide) h
set_option maxRecDepth 100000 in
set_option maxHeartbeats 4000000 in
theorem e_X13_isRow {l : Launch} {κ : mm_K} {d : Nat} {G : mm_G} {K : Int32 → mm_G → Prop} (a1 : Int32) (h : vp_in (mg_i G 226 18) 5 ∧ mC l κ true d 0 0 m_X13_in [.int a1, .int (nI 0), .int ((mg_i G 234 ((mg_i G 226 18).toNatClampNeg)) - (nI 1))] G (rI (fun r1 G2 => (r1 = 0 ∨ r1 = 1) ∧ K r1 G2))) : mC l κ true (d + 1) 0 0 m_X13_isRow [.ref 226, .int a1] G (rI K) := by
  refine mC.of (by decide) (Nat.le_of_ble_eq_true rfl) [some (.ref 226), some (.int a1)] rfl ?_
  refine mV_iload_n (k := 1) (by decide +kernel) rfl ?_
  refine mV_iconst (n := 0) (v := nI 0) (by decide +kernel) (by decide) ?_
  refine mV_aload_n (k := 0) (by decide +kernel) rfl ?_
  refine mV_gfr (r := some 234) (by decide +kernel) fk_13_40 sh_226 (mm_rrs st_226_20) rfl ?_
  refine mV_aload_n (k := 0) (by decide +kernel) rfl ?_
  refine mV_gfix (x := mg_i G 226 18) (by decide +kernel) fk_13_266 sh_226 rfl ?_
  refine mV_ialx (x := mg_i G 234 ((mg_i G 226 18).toNatClampNeg)) (by decide +kernel) sh_234 h.1 rfl ?_
  replace h := h.2
  refine mV_iconst (n := 1) (v := nI 1) (by decide +kernel) (by decide) ?_
  refine mV_isub (by decide +kernel) ?_
  refine mV_cS (as := [.int a1, .int (nI 0), .int ((mg_i G 234 ((mg_i G 226 18).toNatClampNeg)) - (nI 1))]) (rest := []) (mc1 := 0) (ms1 := 0) (mc := 0) (ms := 0) (by decide +kernel) md_X13_in lk_13_399 rfl rfl (Nat.le_of_ble_eq_true rfl) (mC.mono (mm_contI (fun r1 G2 hK => ?_)) h)
  replace h := hK
  exact mV_zret (by decide +kernel) rfl h.1 h.2
set_option maxRecDepth 100000 in
set_option maxHeartbeats 4000000 in
theorem e_X13_isLine {l : Launch} {κ : mm_K} {d : Nat} {G : mm_G} {K : Int32 → mm_G → Prop} (a1 : Int32) (a2 : Int32) (h : mC l κ true (d + 1) 0 0 m_X13_isRow [.ref 226, .int a1] G (rI (fun r1 G2 => ((r1 = 0 → K (nI 0) G2) ∧ (¬ r1 = 0 → mC l κ true (d + 1) 0 0 m_X13_linesOf [.ref 226, .int a1] G2 (rI (fun r3 G4 => mC l κ true (d + 1) 0 0 m_X13_in [.int a2, .int (nI 0), .int (r3 - (nI 1))] G4 (rI (fun r5 G6 => ((r5 = 0 → K (nI 0) G6) ∧ (¬ r5 = 0 → K (nI 1) G6))))))))))) : mC l κ true (d + 2) 0 0 m_X13_isLine [.ref 226, .int a1, .int a2] G (rI K) := by
  refine mC.of (by decide) (Nat.le_of_ble_eq_true rfl) [some (.ref 226), some (.int a1), some (.int a2)] rfl ?_
  refine mV_aload_n (k := 0) (by decide +kernel) rfl ?_
  refine mV_iload_n (k := 1) (by decide +kernel) rfl ?_
  refine mV_cV (as := [.int a1]) (rest := []) (mc1 := 0) (ms1 := 0) (mc := 0) (ms := 0) (by decide +kernel) md_X13_isRow lk_13_403 sh_226 rfl rfl rfl (Nat.le_of_ble_eq_true rfl) (mC.mono (mm_contI (fun r1 G2 hK => ?_)) h)
  replace h := hK
  refine mV_if_eq (off := 22) (tgt := 27) (by decide +kernel) (by decide) (fun hc => ?_) (fun hc => ?_)
  · replace h := h.1 hc
    refine mV_iconst (n := 0) (v := nI 0) (by decide +kernel) (by decide) ?_
    exact mV_zret (by decide +kernel) rfl (by decide) h
  · replace h := h.2 hc
    refine mV_iload_n (k := 2) (by decide +kernel) rfl ?_
    refine mV_iconst (n := 0) (v := nI 0) (by decide +kernel) (by decide) ?_
    refine mV_aload_n (k := 0) (by decide +kernel) rfl ?_
    refine mV_iload_n (k := 1) (by decide +kernel) rfl ?_
    refine mV_cV (as := [.int a1]) (rest := [.int (nI 0), .int a2]) (mc1 := 0) (ms1 := 0) (mc := 0) (ms := 0) (by decide +kernel) md_X13_linesOf lk_13_337 sh_226 rfl rfl rfl (Nat.le_of_ble_eq_true rfl) (mC.mono (mm_contI (fun r3 G4 hK => ?_)) h)
    replace h := hK
    refine mV_iconst (n := 1) (v := nI 1) (by decide +kernel) (by decide) ?_
    refine mV_isub (by decide +kernel) ?_
    refine mV_cS (as := [.int a2, .int (nI 0), .int (r3 - (nI 1))]) (rest := []) (mc1 := 0) (ms1 := 0) (mc := 0) (ms := 0) (by decide +kernel) md_X13_in lk_13_399 rfl rfl (Nat.le_of_ble_eq_true rfl) (mC.mono (mm_contI (fun r5 G6 hK => ?_)) h)
    replace h := hK
    refine mV_if_eq (off := 7) (tgt := 27) (by decide +kernel) (by decide) (fun hc => ?_) (fun hc => ?_)
    · replace h := h.1 hc
      refine mV_iconst (n := 0) (v := nI 0) (by decide +kernel) (by decide) ?_
      exact mV_zret (by decide +kernel) rfl (by decide) h
    · replace h := h.2 hc
      refine mV_iconst (n := 1) (v := nI 1) (by decide +kernel) (by decide) ?_
      refine mV_goto (off := 4) (tgt := 28) (by decide +kernel) (by decide) ?_
      exact mV_zret (by decide +kernel) rfl (by decide) h
set_option maxRecDepth 100000 in
set_option maxHeartbeats 4000000 in
theorem e_X13_isLost {l : Launch} {κ : mm_K} {d : Nat} {G : mm_G} {K : Int32 → mm_G → Prop} (a1 : Int32) (a2 : Int32) (h : mC l κ true (d + 1) 0 0 m_X13_isRow [.ref 226, .int a1] G (rI (fun r1 G2 => ((r1 = 0 → K (nI 0) G2) ∧ (¬ r1 = 0 → mC l κ true (d + 1) 0 0 m_X13_linesOf [.ref 226, .int a1] G2 (rI (fun r3 G4 => mC l κ true (d + 1) 0 0 m_X13_in [.int a2, .int (nI 0), .int (((nI 1) <<< (r3 &&& 31)) - (nI 1))] G4 (rI (fun r5 G6 => ((r5 = 0 → K (nI 0) G6) ∧ (¬ r5 = 0 → K (nI 1) G6))))))))))) : mC l κ true (d + 2) 0 0 m_X13_isLost [.ref 226, .int a1, .int a2] G (rI K) := by
  refine mC.of (by decide) (Nat.le_of_ble_eq_true rfl) [some (.ref 226), some (.int a1), some (.int a2)] rfl ?_
  refine mV_aload_n (k := 0) (by decide +kernel) rfl ?_
  refine mV_iload_n (k := 1) (by decide +kernel) rfl ?_
  refine mV_cV (as := [.int a1]) (rest := []) (mc1 := 0) (ms1 := 0) (mc := 0) (ms := 0) (by decide +kernel) md_X13_isRow lk_13_403 sh_226 rfl rfl rfl (Nat.le_of_ble_eq_true rfl) (mC.mono (mm_contI (fun r1 G2 hK => ?_)) h)
  replace h := hK
  refine mV_if_eq (off := 24) (tgt := 29) (by decide +kernel) (by decide) (fun hc => ?_) (fun hc => ?_)
  · replace h := h.1 hc
    refine mV_iconst (n := 0) (v := nI 0) (by decide +kernel) (by decide) ?_
    exact mV_zret (by decide +kernel) rfl (by decide) h
  · replace h := h.2 hc
    refine mV_iload_n (k := 2) (by decide +kernel) rfl ?_
    refine mV_iconst (n := 0) (v := nI 0) (by decide +kernel) (by decide) ?_
    refine mV_iconst (n := 1) (v := nI 1) (by decide +kernel) (by decide) ?_
    refine mV_aload_n (k := 0) (by decide +kernel) rfl ?_
    refine mV_iload_n (k := 1) (by decide +kernel) rfl ?_
    refine mV_cV (as := [.int a1]) (rest := [.int (nI 1), .int (nI 0), .int a2]) (mc1 := 0) (ms1 := 0) (mc := 0) (ms := 0) (by decide +kernel) md_X13_linesOf lk_13_337 sh_226 rfl rfl rfl (Nat.le_of_ble_eq_true rfl) (mC.mono (mm_contI (fun r3 G4 hK => ?_)) h)
    replace h := hK
    refine mV_ishl (by decide +kernel) ?_
    refine mV_iconst (n := 1) (v := nI 1) (by decide +kernel) (by decide) ?_
    refine mV_isub (by decide +kernel) ?_
    refine mV_cS (as := [.int a2, .int (nI 0), .int (((nI 1) <<< (r3 &&& 31)) - (nI 1))]) (rest := []) (mc1 := 0) (ms1 := 0) (mc := 0) (ms := 0) (by decide +kernel) md_X13_in lk_13_399 rfl rfl (Nat.le_of_ble_eq_true rfl) (mC.mono (mm_contI (fun r5 G6 hK => ?_)) h)
    replace h := hK
    refine mV_if_eq (off := 7) (tgt := 29) (by decide +kernel) (by decide) (fun hc => ?_) (fun hc => ?_)
    · replace h := h.1 hc
      refine mV_iconst (n := 0) (v := nI 0) (by decide +kernel) (by decide) ?_
      exact mV_zret (by decide +kernel) rfl (by decide) h
    · replace h := h.2 hc
      refine mV_iconst (n := 1) (v := nI 1) (by decide +kernel) (by decide) ?_
      refine mV_goto (off := 4) (tgt := 30) (by decide +kernel) (by decide) ?_
      exact mV_zret (by decide +kernel) rfl (by decide) h
set_option maxRecDepth 100000 in
set_option maxHeartbeats 4000000 in
theorem e_X13_isTrial {l : Launch} {κ : mm_K} {d : Nat} {G : mm_G} {K : Int32 → mm_G → Prop} (a1 : Int32) (h : vp_in (mg_i G 226 18) 2 ∧ mC l κ true d 0 0 m_X13_in [.int a1, .int (nI 0), .int ((mg_i G 249 ((mg_i G 226 18).toNatClampNeg)) - (nI 1))] G (rI (fun r1 G2 => (r1 = 0 ∨ r1 = 1) ∧ K r1 G2))) : mC l κ true (d + 1) 0 0 m_X13_isTrial [.ref 226, .int a1] G (rI K) := by
  refine mC.of (by decide) (Nat.le_of_ble_eq_true rfl) [some (.ref 226), some (.int a1)] rfl ?_
  refine mV_iload_n (k := 1) (by decide +kernel) rfl ?_
  refine mV_iconst (n := 0) (v := nI 0) (by decide +kernel) (by decide) ?_
  refine mV_aload_n (k := 0) (by decide +kernel) rfl ?_
  refine mV_gfr (r := some 249) (by decide +kernel) fk_13_85 sh_226 (mm_rrs st_226_35) rfl ?_
  refine mV_aload_n (k := 0) (by decide +kernel) rfl ?_
  refine mV_gfix (x := mg_i G 226 18) (by decide +kernel) fk_13_266 sh_226 rfl ?_
  refine mV_ialx (x := mg_i G 249 ((mg_i G 226 18).toNatClampNeg)) (by decide +kernel) sh_249 h.1 rfl ?_
  replace h := h.2
  refine mV_iconst (n := 1) (v := nI 1) (by decide +kernel) (by decide) ?_
  refine mV_isub (by decide +kernel) ?_
  refine mV_cS (as := [.int a1, .int (nI 0), .int ((mg_i G 249 ((mg_i G 226 18).toNatClampNeg)) - (nI 1))]) (rest := []) (mc1 := 0) (ms1 := 0) (mc := 0) (ms := 0) (by decide +kernel) md_X13_in lk_13_399 rfl rfl (Nat.le_of_ble_eq_true rfl) (mC.mono (mm_contI (fun r1 G2 hK => ?_)) h)
  replace h := hK
  exact mV_zret (by decide +kernel) rfl h.1 h.2
set_option maxRecDepth 100000 in
set_option maxHeartbeats 4000000 in
theorem e_X13_lines {l : Launch} {κ : mm_K} {d : Nat} {G : mm_G} {K : Int32 → mm_G → Prop} (a1 : Int32) (h : mC l κ true (d + 1) 0 0 m_X13_isRow [.ref 226, .int a1] G (rI (fun r1 G2 => ((r1 = 0 → K (-1) G2) ∧ (¬ r1 = 0 → mC l κ true (d + 1) 0 0 m_X13_linesOf [.ref 226, .int a1] G2 (rI (fun r3 G4 => K r3 G4))))))) : mC l κ true (d + 2) 0 0 m_X13_lines [.ref 226, .int a1] G (rI K) := by
  refine mC.of (by decide) (Nat.le_of_ble_eq_true rfl) [some (.ref 226), some (.int a1)] rfl ?_
  refine mV_aload_n (k := 0) (by decide +kernel) rfl ?_
  refine mV_iload_n (k := 1) (by decide +kernel) rfl ?_
  refine mV_cV (as := [.int a1]) (rest := []) (mc1 := 0) (ms1 := 0) (mc := 0) (ms := 0) (by decide +kernel) md_X13_isRow lk_13_403 sh_226 rfl rfl rfl (Nat.le_of_ble_eq_true rfl) (mC.mono (mm_contI (fun r1 G2 hK => ?_)) h)
  replace h := hK
  refine mV_if_eq (off := 11) (tgt := 16) (by decide +kernel) (by decide) (fun hc => ?_) (fun hc => ?_)
  · replace h := h.1 hc
    refine mV_iconst (n := -1) (v := (-1)) (by decide +kernel) (by decide) ?_
    exact mV_iret (by decide +kernel) rfl h
  · replace h := h.2 hc
    refine mV_aload_n (k := 0) (by decide +kernel) rfl ?_
    refine mV_iload_n (k := 1) (by decide +kernel) rfl ?_
    refine mV_cV (as := [.int a1]) (rest := []) (mc1 := 0) (ms1 := 0) (mc := 0) (ms := 0) (by decide +kernel) md_X13_linesOf lk_13_337 sh_226 rfl rfl rfl (Nat.le_of_ble_eq_true rfl) (mC.mono (mm_contI (fun r3 G4 hK => ?_)) h)
    replace h := hK
    refine mV_goto (off := 4) (tgt := 17) (by decide +kernel) (by decide) ?_
    exact mV_iret (by decide +kernel) rfl h
set_option maxRecDepth 100000 in
set_option maxHeartbeats 4000000 in
theorem e_X13_line {l : Launch} {κ : mm_K} {d : Nat} {G : mm_G} {K : Int32 → mm_G → Prop} (a1 : Int32) (a2 : Int32) (a3 : Int32) (h : mC l κ true (d + 2) 0 0 m_X13_isLine [.ref 226, .int a1, .int a2] G (rI (fun r1 G2 => ((r1 = 0 → K (-1) G2) ∧ (¬ r1 = 0 → mC l κ true (d + 2) 0 0 m_X13_in [.int a3, .int (nI 0), .int (nI 2)] G2 (rI (fun r3 G4 => ((¬ r3 = 0 → mC l κ true (d + 2) 0 0 m_X13_lineAt [.ref 226, .int a1, .int a2] G4 (rI (fun r5 G6 => ((¬ a3 = 0 → ((¬ a3 = (nI 1) → vp_in r5 320 ∧ (((mg_i G6 237 r5.toNatClampNeg) = (nI 6) → vp_in r5 320 ∧ mC l κ true (d + 2) 0 0 m_X13_firstWith [.ref 226, .int (mg_i G6 226 18), .int a1, .long (mg_l G6 247 r5.toNatClampNeg)] G6 (rI (fun r7 G8 => ((¬ r7 = (-1) → K r7 G8) ∧ (r7 = (-1) → K (-2) G8))))) ∧ (¬ (mg_i G6 237 r5.toNatClampNeg) = (nI 6) → vp_in r5 320 ∧ (((mg_i G6 237 r5.toNatClampNeg) = (nI 7) → vp_in r5 320 ∧ mC l κ true (d + 2) 0 0 m_X13_firstWith [.ref 226, .int (mg_i G6 226 18), .int a1, .long (mg_l G6 247 r5.toNatClampNeg)] G6 (rI (fun r9 G10 => ((¬ r9 = (-1) → K r9 G10) ∧ (r9 = (-1) → K (-2) G10))))) ∧ (¬ (mg_i G6 237 r5.toNatClampNeg) = (nI 7) → K (-1) G6))))) ∧ (a3 = (nI 1) → vp_in r5 320 ∧ K (mg_i G6 245 r5.toNatClampNeg) G6))) ∧ (a3 = 0 → vp_in r5 320 ∧ K (mg_i G6 237 r5.toNatClampNeg) G6))))) ∧ (r3 = 0 → K (-1) G4))))))))) : mC l κ true (d + 3) 0 0 m_X13_line [.ref 226, .int a1, .int a2, .int a3] G (rI K) := by
  refine mC.of (by decide) (Nat.le_of_ble_eq_true rfl) [some (.ref 226), some (.int a1), some (.int a2), some (.int a3), none, none] rfl ?_
  refine mV_aload_n (k := 0) (by decide +kernel) rfl ?_
  refine mV_iload_n (k := 1) (by decide +kernel) rfl ?_
  refine mV_iload_n (k := 2) (by decide +kernel) rfl ?_
  refine mV_cV (as := [.int a1, .int a2]) (rest := []) (mc1 := 0) (ms1 := 0) (mc := 0) (ms := 0) (by decide +kernel) md_X13_isLine lk_13_406 sh_226 rfl rfl rfl (Nat.le_of_ble_eq_true rfl) (mC.mono (mm_contI (fun r1 G2 hK => ?_)) h)
  replace h := hK
  refine mV_if_eq (off := 12) (tgt := 18) (by decide +kernel) (by decide) (fun hc => ?_) (fun hc => ?_)
  · replace h := h.1 hc
    refine mV_iconst (n := -1) (v := (-1)) (by decide +kernel) (by decide) ?_
    exact mV_iret (by decide +kernel) rfl h
  · replace h := h.2 hc
    refine mV_iload_n (k := 3) (by decide +kernel) rfl ?_
    refine mV_iconst (n := 0) (v := nI 0) (by decide +kernel) (by decide) ?_
    refine mV_iconst (n := 2) (v := nI 2) (by decide +kernel) (by decide) ?_
    refine mV_cS (as := [.int a3, .int (nI 0), .int (nI 2)]) (rest := []) (mc1 := 0) (ms1 := 0) (mc := 0) (ms := 0) (by decide +kernel) md_X13_in lk_13_399 rfl rfl (Nat.le_of_ble_eq_true rfl) (mC.mono (mm_contI (fun r3 G4 hK => ?_)) h)
    replace h := hK
    refine mV_if_ne (off := 5) (tgt := 20) (by decide +kernel) (by decide) (fun hc => ?_) (fun hc => ?_)
    · replace h := h.1 hc
      refine mV_aload_n (k := 0) (by decide +kernel) rfl ?_
      refine mV_iload_n (k := 1) (by decide +kernel) rfl ?_
      refine mV_iload_n (k := 2) (by decide +kernel) rfl ?_
      refine mV_cV (as := [.int a1, .int a2]) (rest := []) (mc1 := 0) (ms1 := 0) (mc := 0) (ms := 0) (by decide +kernel) md_X13_lineAt lk_13_346 sh_226 rfl rfl rfl (Nat.le_of_ble_eq_true rfl) (mC.mono (mm_contI (fun r5 G6 hK => ?_)) h)
      replace h := hK
      refine mV_istore (i := 4) (ls' := [some (.ref 226), some (.int a1), some (.int a2), some (.int a3), some (.int r5), none]) (by decide +kernel) (Nat.le_of_ble_eq_true rfl) rfl rfl ?_
      refine mV_iload_n (k := 3) (by decide +kernel) rfl ?_
      refine mV_if_ne (off := 11) (tgt := 40) (by decide +kernel) (by decide) (fun hc => ?_) (fun hc => ?_)
      · replace h := h.1 hc
        refine mV_iload_n (k := 3) (by decide +kernel) rfl ?_
        refine mV_iconst (n := 1) (v := nI 1) (by decide +kernel) (by decide) ?_
        refine mV_icmp_ne (off := 11) (tgt := 53) (by decide +kernel) (by decide) (fun hc => ?_) (fun hc => ?_)
        · replace h := h.1 hc
          refine mV_aload_n (k := 0) (by decide +kernel) rfl ?_
          refine mV_gfr (r := some 237) (by decide +kernel) fk_13_49 sh_226 (mm_rrs st_226_23) rfl ?_
          refine mV_iload (i := 4) (by decide +kernel) rfl ?_
          refine mV_ialx (x := mg_i G6 237 r5.toNatClampNeg) (by decide +kernel) sh_237 h.1 rfl ?_
          replace h := h.2
          refine mV_bipush (n := 6) (v := nI 6) (by decide +kernel) (by decide) ?_
          refine mV_icmp_eq (off := 17) (tgt := 79) (by decide +kernel) (by decide) (fun hc => ?_) (fun hc => ?_)
          · replace h := h.1 hc
            refine mV_aload_n (k := 0) (by decide +kernel) rfl ?_
            refine mV_aload_n (k := 0) (by decide +kernel) rfl ?_
            refine mV_gfix (x := mg_i G6 226 18) (by decide +kernel) fk_13_266 sh_226 rfl ?_
            refine mV_iload_n (k := 1) (by decide +kernel) rfl ?_
            refine mV_aload_n (k := 0) (by decide +kernel) rfl ?_
            refine mV_gfr (r := some 247) (by decide +kernel) fk_13_79 sh_226 (mm_rrs st_226_33) rfl ?_
            refine mV_iload (i := 4) (by decide +kernel) rfl ?_
            refine mV_lalx (x := mg_l G6 247 r5.toNatClampNeg) (by decide +kernel) sh_247 h.1 rfl ?_
            replace h := h.2
            refine mV_cV (as := [.int (mg_i G6 226 18), .int a1, .long (mg_l G6 247 r5.toNatClampNeg)]) (rest := []) (mc1 := 0) (ms1 := 0) (mc := 0) (ms := 0) (by decide +kernel) md_X13_firstWith lk_13_300 sh_226 rfl rfl rfl (Nat.le_of_ble_eq_true rfl) (mC.mono (mm_contI (fun r7 G8 hK => ?_)) h)
            replace h := hK
            refine mV_istore (i := 5) (ls' := [some (.ref 226), some (.int a1), some (.int a2), some (.int a3), some (.int r5), some (.int r7)]) (by decide +kernel) (Nat.le_of_ble_eq_true rfl) rfl rfl ?_
            refine mV_iload (i := 5) (by decide +kernel) rfl ?_
            refine mV_iconst (n := -1) (v := (-1)) (by decide +kernel) (by decide) ?_
            refine mV_icmp_ne (off := 8) (tgt := 108) (by decide +kernel) (by decide) (fun hc => ?_) (fun hc => ?_)
            · replace h := h.1 hc
              refine mV_iload (i := 5) (by decide +kernel) rfl ?_
              exact mV_iret (by decide +kernel) rfl h
            · replace h := h.2 hc
              refine mV_bipush (n := -2) (v := (-2)) (by decide +kernel) (by decide) ?_
              refine mV_goto (off := 5) (tgt := 110) (by decide +kernel) (by decide) ?_
              exact mV_iret (by decide +kernel) rfl h
          · replace h := h.2 hc
            refine mV_aload_n (k := 0) (by decide +kernel) rfl ?_
            refine mV_gfr (r := some 237) (by decide +kernel) fk_13_49 sh_226 (mm_rrs st_226_23) rfl ?_
            refine mV_iload (i := 4) (by decide +kernel) rfl ?_
            refine mV_ialx (x := mg_i G6 237 r5.toNatClampNeg) (by decide +kernel) sh_237 h.1 rfl ?_
            replace h := h.2
            refine mV_bipush (n := 7) (v := nI 7) (by decide +kernel) (by decide) ?_
            refine mV_icmp_eq (off := 5) (tgt := 79) (by decide +kernel) (by decide) (fun hc => ?_) (fun hc => ?_)
            · replace h := h.1 hc
              refine mV_aload_n (k := 0) (by decide +kernel) rfl ?_
              refine mV_aload_n (k := 0) (by decide +kernel) rfl ?_
              refine mV_gfix (x := mg_i G6 226 18) (by decide +kernel) fk_13_266 sh_226 rfl ?_
              refine mV_iload_n (k := 1) (by decide +kernel) rfl ?_
              refine mV_aload_n (k := 0) (by decide +kernel) rfl ?_
              refine mV_gfr (r := some 247) (by decide +kernel) fk_13_79 sh_226 (mm_rrs st_226_33) rfl ?_
              refine mV_iload (i := 4) (by decide +kernel) rfl ?_
              refine mV_lalx (x := mg_l G6 247 r5.toNatClampNeg) (by decide +kernel) sh_247 h.1 rfl ?_
              replace h := h.2
              refine mV_cV (as := [.int (mg_i G6 226 18), .int a1, .long (mg_l G6 247 r5.toNatClampNeg)]) (rest := []) (mc1 := 0) (ms1 := 0) (mc := 0) (ms := 0) (by decide +kernel) md_X13_firstWith lk_13_300 sh_226 rfl rfl rfl (Nat.le_of_ble_eq_true rfl) (mC.mono (mm_contI (fun r9 G10 hK => ?_)) h)
              replace h := hK
              refine mV_istore (i := 5) (ls' := [some (.ref 226), some (.int a1), some (.int a2), some (.int a3), some (.int r5), some (.int r9)]) (by decide +kernel) (Nat.le_of_ble_eq_true rfl) rfl rfl ?_
              refine mV_iload (i := 5) (by decide +kernel) rfl ?_
              refine mV_iconst (n := -1) (v := (-1)) (by decide +kernel) (by decide) ?_
              refine mV_icmp_ne (off := 8) (tgt := 108) (by decide +kernel) (by decide) (fun hc => ?_) (fun hc => ?_)
              · replace h := h.1 hc
                refine mV_iload (i := 5) (by decide +kernel) rfl ?_
                exact mV_iret (by decide +kernel) rfl h
              · replace h := h.2 hc
                refine mV_bipush (n := -2) (v := (-2)) (by decide +kernel) (by decide) ?_
                refine mV_goto (off := 5) (tgt := 110) (by decide +kernel) (by decide) ?_
                exact mV_iret (by decide +kernel) rfl h
            · replace h := h.2 hc
              refine mV_iconst (n := -1) (v := (-1)) (by decide +kernel) (by decide) ?_
              exact mV_iret (by decide +kernel) rfl h
        · replace h := h.2 hc
          refine mV_aload_n (k := 0) (by decide +kernel) rfl ?_
          refine mV_gfr (r := some 245) (by decide +kernel) fk_13_73 sh_226 (mm_rrs st_226_31) rfl ?_
          refine mV_iload (i := 4) (by decide +kernel) rfl ?_
          refine mV_ialx (x := mg_i G6 245 r5.toNatClampNeg) (by decide +kernel) sh_245 h.1 rfl ?_
          replace h := h.2
          exact mV_iret (by decide +kernel) rfl h
      · replace h := h.2 hc
        refine mV_aload_n (k := 0) (by decide +kernel) rfl ?_
        refine mV_gfr (r := some 237) (by decide +kernel) fk_13_49 sh_226 (mm_rrs st_226_23) rfl ?_
        refine mV_iload (i := 4) (by decide +kernel) rfl ?_
        refine mV_ialx (x := mg_i G6 237 r5.toNatClampNeg) (by decide +kernel) sh_237 h.1 rfl ?_
        replace h := h.2
        exact mV_iret (by decide +kernel) rfl h
    · replace h := h.2 hc
      refine mV_iconst (n := -1) (v := (-1)) (by decide +kernel) (by decide) ?_
      exact mV_iret (by decide +kernel) rfl h
set_option maxRecDepth 100000 in
set_option maxHeartbeats 4000000 in
theorem e_X13_goes {l : Launch} {κ : mm_K} {d : Nat} {G : mm_G} {K : Int32 → mm_G → Prop} (a1 : Int32) (a2 : Int32) (a3 : Int32) (h : mC l κ true (d + 4) 0 0 m_X13_isLost [.ref 226, .int a1, .int a2] G (rI (fun r1 G2 => ((r1 = 0 → K (nI 0) G2) ∧ (¬ r1 = 0 → mC l κ true (d + 4) 0 0 m_X13_isTrial [.ref 226, .int a3] G2 (rI (fun r3 G4 => ((¬ r3 = 0 → mC l κ true (d + 4) 0 0 m_X13_takesRow [.ref 226, .int a1, .int a2] G4 (rV (fun G6 => mC l κ true (d + 4) 0 0 m_X13_runs [.ref 226, .int a3] G6 (rV (fun G8 => K (nI 1) G8))))) ∧ (r3 = 0 → K (nI 0) G4))))))))) : mC l κ true (d + 5) 0 0 m_X13_goes [.ref 226, .int a1, .int a2, .int a3] G (rI K) := by
  refine mC.of (by decide) (Nat.le_of_ble_eq_true rfl) [some (.ref 226), some (.int a1), some (.int a2), some (.int a3)] rfl ?_
  refine mV_aload_n (k := 0) (by decide +kernel) rfl ?_
  refine mV_iload_n (k := 1) (by decide +kernel) rfl ?_
  refine mV_iload_n (k := 2) (by decide +kernel) rfl ?_
  refine mV_cV (as := [.int a1, .int a2]) (rest := []) (mc1 := 0) (ms1 := 0) (mc := 0) (ms := 0) (by decide +kernel) md_X13_isLost lk_13_410 sh_226 rfl rfl rfl (Nat.le_of_ble_eq_true rfl) (mC.mono (mm_contI (fun r1 G2 hK => ?_)) h)
  replace h := hK
  refine mV_if_eq (off := 11) (tgt := 17) (by decide +kernel) (by decide) (fun hc => ?_) (fun hc => ?_)
  · replace h := h.1 hc
    refine mV_iconst (n := 0) (v := nI 0) (by decide +kernel) (by decide) ?_
    exact mV_zret (by decide +kernel) rfl (by decide) h
  · replace h := h.2 hc
    refine mV_aload_n (k := 0) (by decide +kernel) rfl ?_
    refine mV_iload_n (k := 3) (by decide +kernel) rfl ?_
    refine mV_cV (as := [.int a3]) (rest := []) (mc1 := 0) (ms1 := 0) (mc := 0) (ms := 0) (by decide +kernel) md_X13_isTrial lk_13_413 sh_226 rfl rfl rfl (Nat.le_of_ble_eq_true rfl) (mC.mono (mm_contI (fun r3 G4 hK => ?_)) h)
    replace h := hK
    refine mV_if_ne (off := 5) (tgt := 19) (by decide +kernel) (by decide) (fun hc => ?_) (fun hc => ?_)
    · replace h := h.1 hc
      refine mV_aload_n (k := 0) (by decide +kernel) rfl ?_
      refine mV_iload_n (k := 1) (by decide +kernel) rfl ?_
      refine mV_iload_n (k := 2) (by decide +kernel) rfl ?_
      refine mV_cV (as := [.int a1, .int a2]) (rest := []) (mc1 := 0) (ms1 := 0) (mc := 0) (ms := 0) (by decide +kernel) md_X13_takesRow lk_13_387 sh_226 rfl rfl rfl (Nat.le_of_ble_eq_true rfl) (mC.mono (mm_contV (fun G6 hK => ?_)) h)
      replace h := hK
      refine mV_aload_n (k := 0) (by decide +kernel) rfl ?_
      refine mV_iload_n (k := 3) (by decide +kernel) rfl ?_
      refine mV_cV (as := [.int a3]) (rest := []) (mc1 := 0) (ms1 := 0) (mc := 0) (ms := 0) (by decide +kernel) md_X13_runs lk_13_390 sh_226 rfl rfl rfl (Nat.le_of_ble_eq_true rfl) (mC.mono (mm_contV (fun G8 hK => ?_)) h)
      replace h := hK
      refine mV_iconst (n := 1) (v := nI 1) (by decide +kernel) (by decide) ?_
      exact mV_zret (by decide +kernel) rfl (by decide) h
    · replace h := h.2 hc
      refine mV_iconst (n := 0) (v := nI 0) (by decide +kernel) (by decide) ?_
      exact mV_zret (by decide +kernel) rfl (by decide) h
set_option maxRecDepth 100000 in
set_option maxHeartbeats 4000000 in
theorem e_X13_run {l : Launch} {κ : mm_K} {d : Nat} {G : mm_G} {K : Int32 → mm_G → Prop} (a1 : Int32) (a2 : Int32) (a3 : Int32) (h : mC l κ true (d + 5) 0 0 m_X13_goes [.ref 226, .int a1, .int a2, .int a3] G (rI (fun r1 G2 => ((r1 = 0 → K (-1) G2) ∧ (¬ r1 = 0 → K (mg_i G2 226 55) G2))))) : mC l κ true (d + 6) 0 0 m_X13_run [.ref 226, .int a1, .int a2, .int a3] G (rI K) := by
  refine mC.of (by decide) (Nat.le_of_ble_eq_true rfl) [some (.ref 226), some (.int a1), some (.int a2), some (.int a3)] rfl ?_
  refine mV_aload_n (k := 0) (by decide +kernel) rfl ?_
  refine mV_iload_n (k := 1) (by decide +kernel) rfl ?_
  refine mV_iload_n (k := 2) (by decide +kernel) rfl ?_
  refine mV_iload_n (k := 3) (by decide +kernel) rfl ?_
  refine mV_cV (as := [.int a1, .int a2, .int a3]) (rest := []) (mc1 := 0) (ms1 := 0) (mc := 0) (ms := 0) (by decide +kernel) md_X13_goes lk_13_416 sh_226 rfl rfl rfl (Nat.le_of_ble_eq_true rfl) (mC.mono (mm_contI (fun r1 G2 hK => ?_)) h)
  replace h := hK
  refine mV_if_eq (off := 10) (tgt := 17) (by decide +kernel) (by decide) (fun hc => ?_) (fun hc => ?_)
  · replace h := h.1 hc
    refine mV_iconst (n := -1) (v := (-1)) (by decide +kernel) (by decide) ?_
    exact mV_iret (by decide +kernel) rfl h
  · replace h := h.2 hc
    refine mV_aload_n (k := 0) (by decide +kernel) rfl ?_
    refine mV_gfix (x := mg_i G2 226 55) (by decide +kernel) fk_13_374 sh_226 rfl ?_
    refine mV_goto (off := 4) (tgt := 18) (by decide +kernel) (by decide) ?_
    exact mV_iret (by decide +kernel) rfl h
set_option maxRecDepth 100000 in
set_option maxHeartbeats 4000000 in
theorem e_X13_after {l : Launch} {κ : mm_K} {d : Nat} {G : mm_G} {K : Int32 → mm_G → Prop} (a1 : Int32) (a2 : Int32) (a3 : Int32) (a4 : Int32) (h : mC l κ true (d + 5) 0 0 m_X13_in [.int a4, .int (nI 0), .int (nI 5)] G (rI (fun r1 G2 => ((r1 = 0 → K (-1) G2) ∧ (¬ r1 = 0 → mC l κ true (d + 5) 0 0 m_X13_goes [.ref 226, .int a1, .int a2, .int a3] G2 (rI (fun r3 G4 => ((¬ r3 = 0 → ((¬ a4 = 0 → ((¬ a4 = (nI 1) → vp_in (a4 - (nI 2)) 4 ∧ K (mg_i G4 257 ((a4 - (nI 2)).toNatClampNeg)) G4) ∧ (a4 = (nI 1) → K (mg_i G4 226 53) G4))) ∧ (a4 = 0 → K (mg_i G4 226 51) G4))) ∧ (r3 = 0 → K (-1) G4))))))))) : mC l κ true (d + 6) 0 0 m_X13_after [.ref 226, .int a1, .int a2, .int a3, .int a4] G (rI K) := by
  refine mC.of (by decide) (Nat.le_of_ble_eq_true rfl) [some (.ref 226), some (.int a1), some (.int a2), some (.int a3), some (.int a4)] rfl ?_
  refine mV_iload (i := 4) (by decide +kernel) rfl ?_
  refine mV_iconst (n := 0) (v := nI 0) (by decide +kernel) (by decide) ?_
  refine mV_iconst (n := 5) (v := nI 5) (by decide +kernel) (by decide) ?_
  refine mV_cS (as := [.int a4, .int (nI 0), .int (nI 5)]) (rest := []) (mc1 := 0) (ms1 := 0) (mc := 0) (ms := 0) (by decide +kernel) md_X13_in lk_13_399 rfl rfl (Nat.le_of_ble_eq_true rfl) (mC.mono (mm_contI (fun r1 G2 hK => ?_)) h)
  replace h := hK
  refine mV_if_eq (off := 13) (tgt := 20) (by decide +kernel) (by decide) (fun hc => ?_) (fun hc => ?_)
  · replace h := h.1 hc
    refine mV_iconst (n := -1) (v := (-1)) (by decide +kernel) (by decide) ?_
    exact mV_iret (by decide +kernel) rfl h
  · replace h := h.2 hc
    refine mV_aload_n (k := 0) (by decide +kernel) rfl ?_
    refine mV_iload_n (k := 1) (by decide +kernel) rfl ?_
    refine mV_iload_n (k := 2) (by decide +kernel) rfl ?_
    refine mV_iload_n (k := 3) (by decide +kernel) rfl ?_
    refine mV_cV (as := [.int a1, .int a2, .int a3]) (rest := []) (mc1 := 0) (ms1 := 0) (mc := 0) (ms := 0) (by decide +kernel) md_X13_goes lk_13_416 sh_226 rfl rfl rfl (Nat.le_of_ble_eq_true rfl) (mC.mono (mm_contI (fun r3 G4 hK => ?_)) h)
    replace h := hK
    refine mV_if_ne (off := 5) (tgt := 22) (by decide +kernel) (by decide) (fun hc => ?_) (fun hc => ?_)
    · replace h := h.1 hc
      refine mV_iload (i := 4) (by decide +kernel) rfl ?_
      refine mV_if_ne (off := 10) (tgt := 34) (by decide +kernel) (by decide) (fun hc => ?_) (fun hc => ?_)
      · replace h := h.1 hc
        refine mV_iload (i := 4) (by decide +kernel) rfl ?_
        refine mV_iconst (n := 1) (v := nI 1) (by decide +kernel) (by decide) ?_
        refine mV_icmp_ne (off := 10) (tgt := 47) (by decide +kernel) (by decide) (fun hc => ?_) (fun hc => ?_)
        · replace h := h.1 hc
          refine mV_aload_n (k := 0) (by decide +kernel) rfl ?_
          refine mV_gfr (r := some 257) (by decide +kernel) fk_13_109 sh_226 (mm_rrs st_226_48) rfl ?_
          refine mV_iload (i := 4) (by decide +kernel) rfl ?_
          refine mV_iconst (n := 2) (v := nI 2) (by decide +kernel) (by decide) ?_
          refine mV_isub (by decide +kernel) ?_
          refine mV_ialx (x := mg_i G4 257 ((a4 - (nI 2)).toNatClampNeg)) (by decide +kernel) sh_257 h.1 rfl ?_
          replace h := h.2
          exact mV_iret (by decide +kernel) rfl h
        · replace h := h.2 hc
          refine mV_aload_n (k := 0) (by decide +kernel) rfl ?_
          refine mV_gfix (x := mg_i G4 226 53) (by decide +kernel) fk_13_371 sh_226 rfl ?_
          refine mV_goto (off := 12) (tgt := 56) (by decide +kernel) (by decide) ?_
          exact mV_iret (by decide +kernel) rfl h
      · replace h := h.2 hc
        refine mV_aload_n (k := 0) (by decide +kernel) rfl ?_
        refine mV_gfix (x := mg_i G4 226 51) (by decide +kernel) fk_13_368 sh_226 rfl ?_
        refine mV_goto (off := 25) (tgt := 56) (by decide +kernel) (by decide) ?_
        exact mV_iret (by decide +kernel) rfl h
    · replace h := h.2 hc
      refine mV_iconst (n := -1) (v := (-1)) (by decide +kernel) (by decide) ?_
      exact mV_iret (by decide +kernel) rfl h
set_option maxRecDepth 100000 in
set_option maxHeartbeats 4000000 in
theorem e_X13_out {l : Launch} {κ : mm_K} {d : Nat} {G : mm_G} {K : Int32 → mm_G → Prop} (a1 : Int32) (a2 : Int32) (a3 : Int32) (a4 : Int32) (h : mC l κ true (d + 5) 0 0 m_X13_goes [.ref 226, .int a1, .int a2, .int a3] G (rI (fun r1 G2 => ((r1 = 0 → K (-2147483648) G2) ∧ (¬ r1 = 0 → mC l κ true (d + 5) 0 0 m_X13_in [.int a4, .int (nI 0), .int ((mg_i G2 226 51) - (nI 1))] G2 (rI (fun r3 G4 => ((r3 = 0 → K (-2147483648) G4) ∧ (¬ r3 = 0 → vp_in a4 8 ∧ K (mg_i G4 258 a4.toNatClampNeg) G4))))))))) : mC l κ true (d + 6) 0 0 m_X13_out [.ref 226, .int a1, .int a2, .int a3, .int a4] G (rI K) := by
  refine mC.of (by decide) (Nat.le_of_ble_eq_true rfl) [some (.ref 226), some (.int a1), some (.int a2), some (.int a3), some (.int a4)] rfl ?_
  refine mV_aload_n (k := 0) (by decide +kernel) rfl ?_
  refine mV_iload_n (k := 1) (by decide +kernel) rfl ?_
  refine mV_iload_n (k := 2) (by decide +kernel) rfl ?_
  refine mV_iload_n (k := 3) (by decide +kernel) rfl ?_
  refine mV_cV (as := [.int a1, .int a2, .int a3]) (rest := []) (mc1 := 0) (ms1 := 0) (mc := 0) (ms := 0) (by decide +kernel) md_X13_goes lk_13_416 sh_226 rfl rfl rfl (Nat.le_of_ble_eq_true rfl) (mC.mono (mm_contI (fun r1 G2 hK => ?_)) h)
  replace h := hK
  refine mV_if_eq (off := 28) (tgt := 35) (by decide +kernel) (by decide) (fun hc => ?_) (fun hc => ?_)
  · replace h := h.1 hc
    refine mV_ldcw (idx := 419) (v := (-2147483648)) (by decide +kernel) (mm_t8 54 (by decide +kernel)) ?_
    exact mV_iret (by decide +kernel) rfl h
  · replace h := h.2 hc
    refine mV_iload (i := 4) (by decide +kernel) rfl ?_
    refine mV_iconst (n := 0) (v := nI 0) (by decide +kernel) (by decide) ?_
    refine mV_aload_n (k := 0) (by decide +kernel) rfl ?_
    refine mV_gfix (x := mg_i G2 226 51) (by decide +kernel) fk_13_368 sh_226 rfl ?_
    refine mV_iconst (n := 1) (v := nI 1) (by decide +kernel) (by decide) ?_
    refine mV_isub (by decide +kernel) ?_
    refine mV_cS (as := [.int a4, .int (nI 0), .int ((mg_i G2 226 51) - (nI 1))]) (rest := []) (mc1 := 0) (ms1 := 0) (mc := 0) (ms := 0) (by decide +kernel) md_X13_in lk_13_399 rfl rfl (Nat.le_of_ble_eq_true rfl) (mC.mono (mm_contI (fun r3 G4 hK => ?_)) h)
    replace h := hK
    refine mV_if_eq (off := 13) (tgt := 35) (by decide +kernel) (by decide) (fun hc => ?_) (fun hc => ?_)
    · replace h := h.1 hc
      refine mV_ldcw (idx := 419) (v := (-2147483648)) (by decide +kernel) (mm_t8 54 (by decide +kernel)) ?_
      exact mV_iret (by decide +kernel) rfl h
    · replace h := h.2 hc
      refine mV_aload_n (k := 0) (by decide +kernel) rfl ?_
      refine mV_gfr (r := some 258) (by decide +kernel) fk_13_112 sh_226 (mm_rrs st_226_52) rfl ?_
      refine mV_iload (i := 4) (by decide +kernel) rfl ?_
      refine mV_ialx (x := mg_i G4 258 a4.toNatClampNeg) (by decide +kernel) sh_258 h.1 rfl ?_
      replace h := h.2
      refine mV_goto (off := 6) (tgt := 38) (by decide +kernel) (by decide) ?_
      exact mV_iret (by decide +kernel) rfl h
set_option maxRecDepth 100000 in
set_option maxHeartbeats 4000000 in
theorem e_X13_step {l : Launch} {κ : mm_K} {d : Nat} {G : mm_G} {K : Int32 → mm_G → Prop} (a1 : Int32) (a2 : Int32) (a3 : Int32) (a4 : Int32) (h : mC l κ true (d + 5) 0 0 m_X13_goes [.ref 226, .int a1, .int a2, .int a3] G (rI (fun r1 G2 => ((r1 = 0 → K (-1) G2) ∧ (¬ r1 = 0 → mC l κ true (d + 5) 0 0 m_X13_in [.int a4, .int (nI 0), .int ((mg_i G2 226 53) - (nI 1))] G2 (rI (fun r3 G4 => ((r3 = 0 → K (-1) G4) ∧ (¬ r3 = 0 → vp_in a4 301 ∧ K (mg_i G4 259 a4.toNatClampNeg) G4))))))))) : mC l κ true (d + 6) 0 0 m_X13_step [.ref 226, .int a1, .int a2, .int a3, .int a4] G (rI K) := by
  refine mC.of (by decide) (Nat.le_of_ble_eq_true rfl) [some (.ref 226), some (.int a1), some (.int a2), some (.int a3), some (.int a4)] rfl ?_
  refine mV_aload_n (k := 0) (by decide +kernel) rfl ?_
  refine mV_iload_n (k := 1) (by decide +kernel) rfl ?_
  refine mV_iload_n (k := 2) (by decide +kernel) rfl ?_
  refine mV_iload_n (k := 3) (by decide +kernel) rfl ?_
  refine mV_cV (as := [.int a1, .int a2, .int a3]) (rest := []) (mc1 := 0) (ms1 := 0) (mc := 0) (ms := 0) (by decide +kernel) md_X13_goes lk_13_416 sh_226 rfl rfl rfl (Nat.le_of_ble_eq_true rfl) (mC.mono (mm_contI (fun r1 G2 hK => ?_)) h)
  replace h := hK
  refine mV_if_eq (off := 28) (tgt := 35) (by decide +kernel) (by decide) (fun hc => ?_) (fun hc => ?_)
  · replace h := h.1 hc
    refine mV_iconst (n := -1) (v := (-1)) (by decide +kernel) (by decide) ?_
    exact mV_iret (by decide +kernel) rfl h
  · replace h := h.2 hc
    refine mV_iload (i := 4) (by decide +kernel) rfl ?_
    refine mV_iconst (n := 0) (v := nI 0) (by decide +kernel) (by decide) ?_
    refine mV_aload_n (k := 0) (by decide +kernel) rfl ?_
    refine mV_gfix (x := mg_i G2 226 53) (by decide +kernel) fk_13_371 sh_226 rfl ?_
    refine mV_iconst (n := 1) (v := nI 1) (by decide +kernel) (by decide) ?_
    refine mV_isub (by decide +kernel) ?_
    refine mV_cS (as := [.int a4, .int (nI 0), .int ((mg_i G2 226 53) - (nI 1))]) (rest := []) (mc1 := 0) (ms1 := 0) (mc := 0) (ms := 0) (by decide +kernel) md_X13_in lk_13_399 rfl rfl (Nat.le_of_ble_eq_true rfl) (mC.mono (mm_contI (fun r3 G4 hK => ?_)) h)
    replace h := hK
    refine mV_if_eq (off := 13) (tgt := 35) (by decide +kernel) (by decide) (fun hc => ?_) (fun hc => ?_)
    · replace h := h.1 hc
      refine mV_iconst (n := -1) (v := (-1)) (by decide +kernel) (by decide) ?_
      exact mV_iret (by decide +kernel) rfl h
    · replace h := h.2 hc
      refine mV_aload_n (k := 0) (by decide +kernel) rfl ?_
      refine mV_gfr (r := some 259) (by decide +kernel) fk_13_115 sh_226 (mm_rrs st_226_54) rfl ?_
      refine mV_iload (i := 4) (by decide +kernel) rfl ?_
      refine mV_ialx (x := mg_i G4 259 a4.toNatClampNeg) (by decide +kernel) sh_259 h.1 rfl ?_
      replace h := h.2
      refine mV_goto (off := 4) (tgt := 36) (by decide +kernel) (by decide) ?_
      exact mV_iret (by decide +kernel) rfl h
set_option maxRecDepth 100000 in
set_option maxHeartbeats 4000000 in
theorem e_X13_differs {l : Launch} {κ : mm_K} {d : Nat} {G : mm_G} {K : Int32 → mm_G → Prop} (a1 : Int32) (a2 : Int32) (h : mC l κ true (d + 5) 0 0 m_X13_isLost [.ref 226, .int a1, .int a2] G (rI (fun r1 G2 => ((¬ r1 = 0 → mC l κ true (d + 5) 0 0 m_X13_fillBase [.ref 226, .int a1] G2 (rV (fun G4 => mC l κ true (d + 5) 0 0 m_X13_takesRow [.ref 226, .int a1, .int a2] G4 (rV (fun G6 => mC l κ true (d + 5) 0 0 m_X13_unlike [.ref 226] G6 (rI (fun r7 G8 => K r7 G8))))))) ∧ (r1 = 0 → K (-1) G2))))) : mC l κ true (d + 6) 0 0 m_X13_differs [.ref 226, .int a1, .int a2] G (rI K) := by
  refine mC.of (by decide) (Nat.le_of_ble_eq_true rfl) [some (.ref 226), some (.int a1), some (.int a2)] rfl ?_
  refine mV_aload_n (k := 0) (by decide +kernel) rfl ?_
  refine mV_iload_n (k := 1) (by decide +kernel) rfl ?_
  refine mV_iload_n (k := 2) (by decide +kernel) rfl ?_
  refine mV_cV (as := [.int a1, .int a2]) (rest := []) (mc1 := 0) (ms1 := 0) (mc := 0) (ms := 0) (by decide +kernel) md_X13_isLost lk_13_410 sh_226 rfl rfl rfl (Nat.le_of_ble_eq_true rfl) (mC.mono (mm_contI (fun r1 G2 hK => ?_)) h)
  replace h := hK
  refine mV_if_ne (off := 5) (tgt := 11) (by decide +kernel) (by decide) (fun hc => ?_) (fun hc => ?_)
  · replace h := h.1 hc
    refine mV_aload_n (k := 0) (by decide +kernel) rfl ?_
    refine mV_iload_n (k := 1) (by decide +kernel) rfl ?_
    refine mV_cV (as := [.int a1]) (rest := []) (mc1 := 0) (ms1 := 0) (mc := 0) (ms := 0) (by decide +kernel) md_X13_fillBase lk_13_420 sh_226 rfl rfl rfl (Nat.le_of_ble_eq_true rfl) (mC.mono (mm_contV (fun G4 hK => ?_)) h)
    replace h := hK
    refine mV_aload_n (k := 0) (by decide +kernel) rfl ?_
    refine mV_iload_n (k := 1) (by decide +kernel) rfl ?_
    refine mV_iload_n (k := 2) (by decide +kernel) rfl ?_
    refine mV_cV (as := [.int a1, .int a2]) (rest := []) (mc1 := 0) (ms1 := 0) (mc := 0) (ms := 0) (by decide +kernel) md_X13_takesRow lk_13_387 sh_226 rfl rfl rfl (Nat.le_of_ble_eq_true rfl) (mC.mono (mm_contV (fun G6 hK => ?_)) h)
    replace h := hK
    refine mV_aload_n (k := 0) (by decide +kernel) rfl ?_
    refine mV_cV (as := []) (rest := []) (mc1 := 0) (ms1 := 0) (mc := 0) (ms := 0) (by decide +kernel) md_X13_unlike lk_13_396 sh_226 rfl rfl rfl (Nat.le_of_ble_eq_true rfl) (mC.mono (mm_contI (fun r7 G8 hK => ?_)) h)
    replace h := hK
    exact mV_iret (by decide +kernel) rfl h
  · replace h := h.2 hc
    refine mV_iconst (n := -1) (v := (-1)) (by decide +kernel) (by decide) ?_
    exact mV_iret (by decide +kernel) rfl h
set_option maxRecDepth 100000 in
set_option maxHeartbeats 4000000 in
theorem e_X13_same {l : Launch} {κ : mm_K} {d : Nat} {G : mm_G} {K : Int32 → mm_G → Prop} (a1 : Int32) (a2 : Int32) (h : mC l κ true (d + 6) 0 0 m_X13_isLost [.ref 226, .int a1, .int a2] G (rI (fun r1 G2 => ((¬ r1 = 0 → mC l κ true (d + 6) 0 0 m_X13_fillBase [.ref 226, .int a1] G2 (rV (fun G4 => mC l κ true (d + 6) 0 0 m_X13_isSame [.ref 226, .int a1, .int a2] G4 (rI (fun r5 G6 => ((r5 = 0 → K (nI 0) G6) ∧ (¬ r5 = 0 → K (nI 1) G6))))))) ∧ (r1 = 0 → K (-1) G2))))) : mC l κ true (d + 7) 0 0 m_X13_same [.ref 226, .int a1, .int a2] G (rI K) := by
  refine mC.of (by decide) (Nat.le_of_ble_eq_true rfl) [some (.ref 226), some (.int a1), some (.int a2)] rfl ?_
  refine mV_aload_n (k := 0) (by decide +kernel) rfl ?_
  refine mV_iload_n (k := 1) (by decide +kernel) rfl ?_
  refine mV_iload_n (k := 2) (by decide +kernel) rfl ?_
  refine mV_cV (as := [.int a1, .int a2]) (rest := []) (mc1 := 0) (ms1 := 0) (mc := 0) (ms := 0) (by decide +kernel) md_X13_isLost lk_13_410 sh_226 rfl rfl rfl (Nat.le_of_ble_eq_true rfl) (mC.mono (mm_contI (fun r1 G2 hK => ?_)) h)
  replace h := hK
  refine mV_if_ne (off := 5) (tgt := 11) (by decide +kernel) (by decide) (fun hc => ?_) (fun hc => ?_)
  · replace h := h.1 hc
    refine mV_aload_n (k := 0) (by decide +kernel) rfl ?_
    refine mV_iload_n (k := 1) (by decide +kernel) rfl ?_
    refine mV_cV (as := [.int a1]) (rest := []) (mc1 := 0) (ms1 := 0) (mc := 0) (ms := 0) (by decide +kernel) md_X13_fillBase lk_13_420 sh_226 rfl rfl rfl (Nat.le_of_ble_eq_true rfl) (mC.mono (mm_contV (fun G4 hK => ?_)) h)
    replace h := hK
    refine mV_aload_n (k := 0) (by decide +kernel) rfl ?_
    refine mV_iload_n (k := 1) (by decide +kernel) rfl ?_
    refine mV_iload_n (k := 2) (by decide +kernel) rfl ?_
    refine mV_cV (as := [.int a1, .int a2]) (rest := []) (mc1 := 0) (ms1 := 0) (mc := 0) (ms := 0) (by decide +kernel) md_X13_isSame lk_13_423 sh_226 rfl rfl rfl (Nat.le_of_ble_eq_true rfl) (mC.mono (mm_contI (fun r5 G6 hK => ?_)) h)
    replace h := hK
    refine mV_if_eq (off := 7) (tgt := 29) (by decide +kernel) (by decide) (fun hc => ?_) (fun hc => ?_)
    · replace h := h.1 hc
      refine mV_iconst (n := 0) (v := nI 0) (by decide +kernel) (by decide) ?_
      exact mV_iret (by decide +kernel) rfl h
    · replace h := h.2 hc
      refine mV_iconst (n := 1) (v := nI 1) (by decide +kernel) (by decide) ?_
      refine mV_goto (off := 4) (tgt := 30) (by decide +kernel) (by decide) ?_
      exact mV_iret (by decide +kernel) rfl h
  · replace h := h.2 hc
    refine mV_iconst (n := -1) (v := (-1)) (by decide +kernel) (by decide) ?_
    exact mV_iret (by decide +kernel) rfl h
set_option maxRecDepth 100000 in
set_option maxHeartbeats 4000000 in
theorem e_X13_breaksOf {l : Launch} {κ : mm_K} {d : Nat} {G : mm_G} {K : Int32 → mm_G → Prop} (a1 : Int32) (a2 : Int32) (h : mC l κ true (d + 6) 0 0 m_X13_fillBase [.ref 226, .int a1] G (rV (fun G2 => mV l κ true (d + 7) 0 0 m_X13_breaksOf 7 [some (.ref 226), some (.int a1), some (.int a2), some (.int (nI 0))] [] G2 (rI K)))) : mC l κ true (d + 7) 0 0 m_X13_breaksOf [.ref 226, .int a1, .int a2] G (rI K) := by
  refine mC.of (by decide) (Nat.le_of_ble_eq_true rfl) [some (.ref 226), some (.int a1), some (.int a2), none] rfl ?_
  refine mV_aload_n (k := 0) (by decide +kernel) rfl ?_
  refine mV_iload_n (k := 1) (by decide +kernel) rfl ?_
  refine mV_cV (as := [.int a1]) (rest := []) (mc1 := 0) (ms1 := 0) (mc := 0) (ms := 0) (by decide +kernel) md_X13_fillBase lk_13_420 sh_226 rfl rfl rfl (Nat.le_of_ble_eq_true rfl) (mC.mono (mm_contV (fun G2 hK => ?_)) h)
  replace h := hK
  refine mV_iconst (n := 0) (v := nI 0) (by decide +kernel) (by decide) ?_
  refine mV_istore_n (k := 3) (ls' := [some (.ref 226), some (.int a1), some (.int a2), some (.int (nI 0))]) (by decide +kernel) (Nat.le_of_ble_eq_true rfl) rfl rfl ?_
  exact h
set_option maxRecDepth 100000 in
set_option maxHeartbeats 4000000 in
theorem p_X13_breaksOf_7 {l : Launch} {κ : mm_K} {d : Nat} {G : mm_G} {K : Int32 → mm_G → Prop} (v1 : Int32) (v2 : Int32) (v3 : Int32) (h : mC l κ true (d + 6) 0 0 m_X13_linesOf [.ref 226, .int v1] G (rI (fun r1 G2 => ((((nI 1) <<< (r1 &&& 31)) ≤ v3 → K (-2) G2) ∧ (¬ ((nI 1) <<< (r1 &&& 31)) ≤ v3 → mC l κ true (d + 6) 0 0 m_X13_bits [.int v3] G2 (rI (fun r3 G4 => ((¬ r3 = v2 → mV l κ true (d + 7) 0 0 m_X13_breaksOf 7 [some (.ref 226), some (.int v1), some (.int v2), some (.int (v3 + (nI 1)))] [] G4 (rI K)) ∧ (r3 = v2 → mC l κ true (d + 6) 0 0 m_X13_isSame [.ref 226, .int v1, .int v3] G4 (rI (fun r5 G6 => ((¬ r5 = 0 → mV l κ true (d + 7) 0 0 m_X13_breaksOf 7 [some (.ref 226), some (.int v1), some (.int v2), some (.int (v3 + (nI 1)))] [] G6 (rI K)) ∧ (r5 = 0 → K v3 G6))))))))))))) : mV l κ true (d + 7) 0 0 m_X13_breaksOf 7 [some (.ref 226), some (.int v1), some (.int v2), some (.int v3)] [] G (rI K) := by
  refine mV_iload_n (k := 3) (by decide +kernel) rfl ?_
  refine mV_iconst (n := 1) (v := nI 1) (by decide +kernel) (by decide) ?_
  refine mV_aload_n (k := 0) (by decide +kernel) rfl ?_
  refine mV_iload_n (k := 1) (by decide +kernel) rfl ?_
  refine mV_cV (as := [.int v1]) (rest := [.int (nI 1), .int v3]) (mc1 := 0) (ms1 := 0) (mc := 0) (ms := 0) (by decide +kernel) md_X13_linesOf lk_13_337 sh_226 rfl rfl rfl (Nat.le_of_ble_eq_true rfl) (mC.mono (mm_contI (fun r1 G2 hK => ?_)) h)
  replace h := hK
  refine mV_ishl (by decide +kernel) ?_
  refine mV_icmp_ge (off := 28) (tgt := 43) (by decide +kernel) (by decide) (fun hc => ?_) (fun hc => ?_)
  · replace h := h.1 hc
    refine mV_bipush (n := -2) (v := (-2)) (by decide +kernel) (by decide) ?_
    exact mV_iret (by decide +kernel) rfl h
  · replace h := h.2 hc
    refine mV_iload_n (k := 3) (by decide +kernel) rfl ?_
    refine mV_cS (as := [.int v3]) (rest := []) (mc1 := 0) (ms1 := 0) (mc := 0) (ms := 0) (by decide +kernel) md_X13_bits lk_13_426 rfl rfl (Nat.le_of_ble_eq_true rfl) (mC.mono (mm_contI (fun r3 G4 hK => ?_)) h)
    replace h := hK
    refine mV_iload_n (k := 2) (by decide +kernel) rfl ?_
    refine mV_icmp_ne (off := 14) (tgt := 37) (by decide +kernel) (by decide) (fun hc => ?_) (fun hc => ?_)
    · replace h := h.1 hc
      refine mV_iincc (i := 3) (n := 1) (c := nI 1) (ls' := [some (.ref 226), some (.int v1), some (.int v2), some (.int (v3 + (nI 1)))]) (by decide +kernel) (by decide) rfl (Nat.le_of_ble_eq_true rfl) rfl rfl ?_
      refine mV_goto (off := -33) (tgt := 7) (by decide +kernel) (by decide) ?_
      exact h
    · replace h := h.2 hc
      refine mV_aload_n (k := 0) (by decide +kernel) rfl ?_
      refine mV_iload_n (k := 1) (by decide +kernel) rfl ?_
      refine mV_iload_n (k := 3) (by decide +kernel) rfl ?_
      refine mV_cV (as := [.int v1, .int v3]) (rest := []) (mc1 := 0) (ms1 := 0) (mc := 0) (ms := 0) (by decide +kernel) md_X13_isSame lk_13_423 sh_226 rfl rfl rfl (Nat.le_of_ble_eq_true rfl) (mC.mono (mm_contI (fun r5 G6 hK => ?_)) h)
      replace h := hK
      refine mV_if_ne (off := 5) (tgt := 37) (by decide +kernel) (by decide) (fun hc => ?_) (fun hc => ?_)
      · replace h := h.1 hc
        refine mV_iincc (i := 3) (n := 1) (c := nI 1) (ls' := [some (.ref 226), some (.int v1), some (.int v2), some (.int (v3 + (nI 1)))]) (by decide +kernel) (by decide) rfl (Nat.le_of_ble_eq_true rfl) rfl rfl ?_
        refine mV_goto (off := -33) (tgt := 7) (by decide +kernel) (by decide) ?_
        exact h
      · replace h := h.2 hc
        refine mV_iload_n (k := 3) (by decide +kernel) rfl ?_
        exact mV_iret (by decide +kernel) rfl h
set_option maxRecDepth 100000 in
set_option maxHeartbeats 4000000 in
theorem e_X13_bears {l : Launch} {κ : mm_K} {d : Nat} {G : mm_G} {K : Int32 → mm_G → Prop} (a1 : Int32) (a2 : Int32) (h : mC l κ true (d + 7) 0 0 m_X13_isRow [.ref 226, .int a1] G (rI (fun r1 G2 => ((r1 = 0 → K (-1) G2) ∧ (¬ r1 = 0 → mC l κ true (d + 7) 0 0 m_X13_in [.int a2, .int (nI 0), .int (nI 3)] G2 (rI (fun r3 G4 => ((r3 = 0 → K (-1) G4) ∧ (¬ r3 = 0 → mC l κ true (d + 7) 0 0 m_X13_breaksOf [.ref 226, .int a1, .int a2] G4 (rI (fun r5 G6 => ((0 ≤ r5 → K (nI 0) G6) ∧ (¬ 0 ≤ r5 → K (nI 1) G6))))))))))))) : mC l κ true (d + 8) 0 0 m_X13_bears [.ref 226, .int a1, .int a2] G (rI K) := by
  refine mC.of (by decide) (Nat.le_of_ble_eq_true rfl) [some (.ref 226), some (.int a1), some (.int a2)] rfl ?_
  refine mV_aload_n (k := 0) (by decide +kernel) rfl ?_
  refine mV_iload_n (k := 1) (by decide +kernel) rfl ?_
  refine mV_cV (as := [.int a1]) (rest := []) (mc1 := 0) (ms1 := 0) (mc := 0) (ms := 0) (by decide +kernel) md_X13_isRow lk_13_403 sh_226 rfl rfl rfl (Nat.le_of_ble_eq_true rfl) (mC.mono (mm_contI (fun r1 G2 hK => ?_)) h)
  replace h := hK
  refine mV_if_eq (off := 29) (tgt := 34) (by decide +kernel) (by decide) (fun hc => ?_) (fun hc => ?_)
  · replace h := h.1 hc
    refine mV_iconst (n := -1) (v := (-1)) (by decide +kernel) (by decide) ?_
    exact mV_iret (by decide +kernel) rfl h
  · replace h := h.2 hc
    refine mV_iload_n (k := 2) (by decide +kernel) rfl ?_
    refine mV_iconst (n := 0) (v := nI 0) (by decide +kernel) (by decide) ?_
    refine mV_iconst (n := 3) (v := nI 3) (by decide +kernel) (by decide) ?_
    refine mV_cS (as := [.int a2, .int (nI 0), .int (nI 3)]) (rest := []) (mc1 := 0) (ms1 := 0) (mc := 0) (ms := 0) (by decide +kernel) md_X13_in lk_13_399 rfl rfl (Nat.le_of_ble_eq_true rfl) (mC.mono (mm_contI (fun r3 G4 hK => ?_)) h)
    replace h := hK
    refine mV_if_eq (off := 20) (tgt := 34) (by decide +kernel) (by decide) (fun hc => ?_) (fun hc => ?_)
    · replace h := h.1 hc
      refine mV_iconst (n := -1) (v := (-1)) (by decide +kernel) (by decide) ?_
      exact mV_iret (by decide +kernel) rfl h
    · replace h := h.2 hc
      refine mV_aload_n (k := 0) (by decide +kernel) rfl ?_
      refine mV_iload_n (k := 1) (by decide +kernel) rfl ?_
      refine mV_iload_n (k := 2) (by decide +kernel) rfl ?_
      refine mV_cV (as := [.int a1, .int a2]) (rest := []) (mc1 := 0) (ms1 := 0) (mc := 0) (ms := 0) (by decide +kernel) md_X13_breaksOf lk_13_429 sh_226 rfl rfl rfl (Nat.le_of_ble_eq_true rfl) (mC.mono (mm_contI (fun r5 G6 hK => ?_)) h)
      replace h := hK
      refine mV_if_ge (off := 7) (tgt := 30) (by decide +kernel) (by decide) (fun hc => ?_) (fun hc => ?_)
      · replace h := h.1 hc
        refine mV_iconst (n := 0) (v := nI 0) (by decide +kernel) (by decide) ?_
        refine mV_goto (off := 4) (tgt := 35) (by decide +kernel) (by decide) ?_
        exact mV_iret (by decide +kernel) rfl h
      · replace h := h.2 hc
        refine mV_iconst (n := 1) (v := nI 1) (by decide +kernel) (by decide) ?_
        refine mV_goto (off := 8) (tgt := 35) (by decide +kernel) (by decide) ?_
        exact mV_iret (by decide +kernel) rfl h
set_option maxRecDepth 100000 in
set_option maxHeartbeats 4000000 in
theorem e_X13_breaks {l : Launch} {κ : mm_K} {d : Nat} {G : mm_G} {K : Int32 → mm_G → Prop} (a1 : Int32) (a2 : Int32) (h : mC l κ true (d + 7) 0 0 m_X13_isRow [.ref 226, .int a1] G (rI (fun r1 G2 => ((r1 = 0 → K (-1) G2) ∧ (¬ r1 = 0 → mC l κ true (d + 7) 0 0 m_X13_in [.int a2, .int (nI 0), .int (nI 3)] G2 (rI (fun r3 G4 => ((r3 = 0 → K (-1) G4) ∧ (¬ r3 = 0 → mC l κ true (d + 7) 0 0 m_X13_breaksOf [.ref 226, .int a1, .int a2] G4 (rI (fun r5 G6 => K r5 G6))))))))))) : mC l κ true (d + 8) 0 0 m_X13_breaks [.ref 226, .int a1, .int a2] G (rI K) := by
  refine mC.of (by decide) (Nat.le_of_ble_eq_true rfl) [some (.ref 226), some (.int a1), some (.int a2)] rfl ?_
  refine mV_aload_n (k := 0) (by decide +kernel) rfl ?_
  refine mV_iload_n (k := 1) (by decide +kernel) rfl ?_
  refine mV_cV (as := [.int a1]) (rest := []) (mc1 := 0) (ms1 := 0) (mc := 0) (ms := 0) (by decide +kernel) md_X13_isRow lk_13_403 sh_226 rfl rfl rfl (Nat.le_of_ble_eq_true rfl) (mC.mono (mm_contI (fun r1 G2 hK => ?_)) h)
  replace h := hK
  refine mV_if_eq (off := 21) (tgt := 26) (by decide +kernel) (by decide) (fun hc => ?_) (fun hc => ?_)
  · replace h := h.1 hc
    refine mV_iconst (n := -1) (v := (-1)) (by decide +kernel) (by decide) ?_
    exact mV_iret (by decide +kernel) rfl h
  · replace h := h.2 hc
    refine mV_iload_n (k := 2) (by decide +kernel) rfl ?_
    refine mV_iconst (n := 0) (v := nI 0) (by decide +kernel) (by decide) ?_
    refine mV_iconst (n := 3) (v := nI 3) (by decide +kernel) (by decide) ?_
    refine mV_cS (as := [.int a2, .int (nI 0), .int (nI 3)]) (rest := []) (mc1 := 0) (ms1 := 0) (mc := 0) (ms := 0) (by decide +kernel) md_X13_in lk_13_399 rfl rfl (Nat.le_of_ble_eq_true rfl) (mC.mono (mm_contI (fun r3 G4 hK => ?_)) h)
    replace h := hK
    refine mV_if_eq (off := 12) (tgt := 26) (by decide +kernel) (by decide) (fun hc => ?_) (fun hc => ?_)
    · replace h := h.1 hc
      refine mV_iconst (n := -1) (v := (-1)) (by decide +kernel) (by decide) ?_
      exact mV_iret (by decide +kernel) rfl h
    · replace h := h.2 hc
      refine mV_aload_n (k := 0) (by decide +kernel) rfl ?_
      refine mV_iload_n (k := 1) (by decide +kernel) rfl ?_
      refine mV_iload_n (k := 2) (by decide +kernel) rfl ?_
      refine mV_cV (as := [.int a1, .int a2]) (rest := []) (mc1 := 0) (ms1 := 0) (mc := 0) (ms := 0) (by decide +kernel) md_X13_breaksOf lk_13_429 sh_226 rfl rfl rfl (Nat.le_of_ble_eq_true rfl) (mC.mono (mm_contI (fun r5 G6 hK => ?_)) h)
      replace h := hK
      refine mV_goto (off := 4) (tgt := 27) (by decide +kernel) (by decide) ?_
      exact mV_iret (by decide +kernel) rfl h
set_option maxRecDepth 100000 in
set_option maxHeartbeats 4000000 in
theorem e_X13_idleOf {l : Launch} {κ : mm_K} {d : Nat} {G : mm_G} {K : Int32 → mm_G → Prop} (a1 : Int32) (h : mC l κ true (d + 6) 0 0 m_X13_fillBase [.ref 226, .int a1] G (rV (fun G2 => mV l κ true (d + 7) 0 0 m_X13_idleOf 9 [some (.ref 226), some (.int a1), some (.int (nI 0)), some (.int (nI 0))] [] G2 (rI K)))) : mC l κ true (d + 7) 0 0 m_X13_idleOf [.ref 226, .int a1] G (rI K) := by
  refine mC.of (by decide) (Nat.le_of_ble_eq_true rfl) [some (.ref 226), some (.int a1), none, none] rfl ?_
  refine mV_aload_n (k := 0) (by decide +kernel) rfl ?_
  refine mV_iload_n (k := 1) (by decide +kernel) rfl ?_
  refine mV_cV (as := [.int a1]) (rest := []) (mc1 := 0) (ms1 := 0) (mc := 0) (ms := 0) (by decide +kernel) md_X13_fillBase lk_13_420 sh_226 rfl rfl rfl (Nat.le_of_ble_eq_true rfl) (mC.mono (mm_contV (fun G2 hK => ?_)) h)
  replace h := hK
  refine mV_iconst (n := 0) (v := nI 0) (by decide +kernel) (by decide) ?_
  refine mV_istore_n (k := 2) (ls' := [some (.ref 226), some (.int a1), some (.int (nI 0)), none]) (by decide +kernel) (Nat.le_of_ble_eq_true rfl) rfl rfl ?_
  refine mV_iconst (n := 0) (v := nI 0) (by decide +kernel) (by decide) ?_
  refine mV_istore_n (k := 3) (ls' := [some (.ref 226), some (.int a1), some (.int (nI 0)), some (.int (nI 0))]) (by decide +kernel) (Nat.le_of_ble_eq_true rfl) rfl rfl ?_
  exact h
set_option maxRecDepth 100000 in
set_option maxHeartbeats 4000000 in
theorem p_X13_idleOf_9 {l : Launch} {κ : mm_K} {d : Nat} {G : mm_G} {K : Int32 → mm_G → Prop} (v1 : Int32) (v2 : Int32) (v3 : Int32) (h : mC l κ true (d + 6) 0 0 m_X13_linesOf [.ref 226, .int v1] G (rI (fun r1 G2 => ((r1 ≤ v3 → K v2 G2) ∧ (¬ r1 ≤ v3 → mC l κ true (d + 6) 0 0 m_X13_isSame [.ref 226, .int v1, .int ((nI 1) <<< (v3 &&& 31))] G2 (rI (fun r3 G4 => ((r3 = 0 → mV l κ true (d + 7) 0 0 m_X13_idleOf 9 [some (.ref 226), some (.int v1), some (.int v2), some (.int (v3 + (nI 1)))] [] G4 (rI K)) ∧ (¬ r3 = 0 → mV l κ true (d + 7) 0 0 m_X13_idleOf 9 [some (.ref 226), some (.int v1), some (.int (v2 ||| ((nI 1) <<< (v3 &&& 31)))), some (.int (v3 + (nI 1)))] [] G4 (rI K)))))))))) : mV l κ true (d + 7) 0 0 m_X13_idleOf 9 [some (.ref 226), some (.int v1), some (.int v2), some (.int v3)] [] G (rI K) := by
  refine mV_iload_n (k := 3) (by decide +kernel) rfl ?_
  refine mV_aload_n (k := 0) (by decide +kernel) rfl ?_
  refine mV_iload_n (k := 1) (by decide +kernel) rfl ?_
  refine mV_cV (as := [.int v1]) (rest := [.int v3]) (mc1 := 0) (ms1 := 0) (mc := 0) (ms := 0) (by decide +kernel) md_X13_linesOf lk_13_337 sh_226 rfl rfl rfl (Nat.le_of_ble_eq_true rfl) (mC.mono (mm_contI (fun r1 G2 hK => ?_)) h)
  replace h := hK
  refine mV_icmp_ge (off := 26) (tgt := 41) (by decide +kernel) (by decide) (fun hc => ?_) (fun hc => ?_)
  · replace h := h.1 hc
    refine mV_iload_n (k := 2) (by decide +kernel) rfl ?_
    exact mV_iret (by decide +kernel) rfl h
  · replace h := h.2 hc
    refine mV_aload_n (k := 0) (by decide +kernel) rfl ?_
    refine mV_iload_n (k := 1) (by decide +kernel) rfl ?_
    refine mV_iconst (n := 1) (v := nI 1) (by decide +kernel) (by decide) ?_
    refine mV_iload_n (k := 3) (by decide +kernel) rfl ?_
    refine mV_ishl (by decide +kernel) ?_
    refine mV_cV (as := [.int v1, .int ((nI 1) <<< (v3 &&& 31))]) (rest := []) (mc1 := 0) (ms1 := 0) (mc := 0) (ms := 0) (by decide +kernel) md_X13_isSame lk_13_423 sh_226 rfl rfl rfl (Nat.le_of_ble_eq_true rfl) (mC.mono (mm_contI (fun r3 G4 hK => ?_)) h)
    replace h := hK
    refine mV_if_eq (off := 9) (tgt := 35) (by decide +kernel) (by decide) (fun hc => ?_) (fun hc => ?_)
    · replace h := h.1 hc
      refine mV_iincc (i := 3) (n := 1) (c := nI 1) (ls' := [some (.ref 226), some (.int v1), some (.int v2), some (.int (v3 + (nI 1)))]) (by decide +kernel) (by decide) rfl (Nat.le_of_ble_eq_true rfl) rfl rfl ?_
      refine mV_goto (off := -29) (tgt := 9) (by decide +kernel) (by decide) ?_
      exact h
    · replace h := h.2 hc
      refine mV_iload_n (k := 2) (by decide +kernel) rfl ?_
      refine mV_iconst (n := 1) (v := nI 1) (by decide +kernel) (by decide) ?_
      refine mV_iload_n (k := 3) (by decide +kernel) rfl ?_
      refine mV_ishl (by decide +kernel) ?_
      refine mV_ior (by decide +kernel) ?_
      refine mV_istore_n (k := 2) (ls' := [some (.ref 226), some (.int v1), some (.int (v2 ||| ((nI 1) <<< (v3 &&& 31)))), some (.int v3)]) (by decide +kernel) (Nat.le_of_ble_eq_true rfl) rfl rfl ?_
      refine mV_iincc (i := 3) (n := 1) (c := nI 1) (ls' := [some (.ref 226), some (.int v1), some (.int (v2 ||| ((nI 1) <<< (v3 &&& 31)))), some (.int (v3 + (nI 1)))]) (by decide +kernel) (by decide) rfl (Nat.le_of_ble_eq_true rfl) rfl rfl ?_
      refine mV_goto (off := -29) (tgt := 9) (by decide +kernel) (by decide) ?_
      exact h
set_option maxRecDepth 100000 in
set_option maxHeartbeats 4000000 in
theorem e_X13_idle {l : Launch} {κ : mm_K} {d : Nat} {G : mm_G} {K : Int32 → mm_G → Prop} (a1 : Int32) (h : mC l κ true (d + 7) 0 0 m_X13_isRow [.ref 226, .int a1] G (rI (fun r1 G2 => ((r1 = 0 → K (-1) G2) ∧ (¬ r1 = 0 → mC l κ true (d + 7) 0 0 m_X13_idleOf [.ref 226, .int a1] G2 (rI (fun r3 G4 => K r3 G4))))))) : mC l κ true (d + 8) 0 0 m_X13_idle [.ref 226, .int a1] G (rI K) := by
  refine mC.of (by decide) (Nat.le_of_ble_eq_true rfl) [some (.ref 226), some (.int a1)] rfl ?_
  refine mV_aload_n (k := 0) (by decide +kernel) rfl ?_
  refine mV_iload_n (k := 1) (by decide +kernel) rfl ?_
  refine mV_cV (as := [.int a1]) (rest := []) (mc1 := 0) (ms1 := 0) (mc := 0) (ms := 0) (by decide +kernel) md_X13_isRow lk_13_403 sh_226 rfl rfl rfl (Nat.le_of_ble_eq_true rfl) (mC.mono (mm_contI (fun r1 G2 hK => ?_)) h)
  replace h := hK
  refine mV_if_eq (off := 11) (tgt := 16) (by decide +kernel) (by decide) (fun hc => ?_) (fun hc => ?_)
  · replace h := h.1 hc
    refine mV_iconst (n := -1) (v := (-1)) (by decide +kernel) (by decide) ?_
    exact mV_iret (by decide +kernel) rfl h
  · replace h := h.2 hc
    refine mV_aload_n (k := 0) (by decide +kernel) rfl ?_
    refine mV_iload_n (k := 1) (by decide +kernel) rfl ?_
    refine mV_cV (as := [.int a1]) (rest := []) (mc1 := 0) (ms1 := 0) (mc := 0) (ms := 0) (by decide +kernel) md_X13_idleOf lk_13_432 sh_226 rfl rfl rfl (Nat.le_of_ble_eq_true rfl) (mC.mono (mm_contI (fun r3 G4 hK => ?_)) h)
    replace h := hK
    refine mV_goto (off := 4) (tgt := 17) (by decide +kernel) (by decide) ?_
    exact mV_iret (by decide +kernel) rfl h
set_option maxRecDepth 100000 in
set_option maxHeartbeats 4000000 in
theorem e_X13_harmOf {l : Launch} {κ : mm_K} {d : Nat} {G : mm_G} {K : Int32 → mm_G → Prop} (a1 : Int32) (a2 : Int32) (h : mC l κ true (d + 4) 0 0 m_X13_takesRow [.ref 226, .int a1, .int ((nI 1) <<< (a2 &&& 31))] G (rV (fun G2 => mV l κ true (d + 5) 0 0 m_X13_harmOf 13 [some (.ref 226), some (.int a1), some (.int a2), some (.int (nI 0)), some (.int (nI 0))] [] G2 (rI K)))) : mC l κ true (d + 5) 0 0 m_X13_harmOf [.ref 226, .int a1, .int a2] G (rI K) := by
  refine mC.of (by decide) (Nat.le_of_ble_eq_true rfl) [some (.ref 226), some (.int a1), some (.int a2), none, none] rfl ?_
  refine mV_aload_n (k := 0) (by decide +kernel) rfl ?_
  refine mV_iload_n (k := 1) (by decide +kernel) rfl ?_
  refine mV_iconst (n := 1) (v := nI 1) (by decide +kernel) (by decide) ?_
  refine mV_iload_n (k := 2) (by decide +kernel) rfl ?_
  refine mV_ishl (by decide +kernel) ?_
  refine mV_cV (as := [.int a1, .int ((nI 1) <<< (a2 &&& 31))]) (rest := []) (mc1 := 0) (ms1 := 0) (mc := 0) (ms := 0) (by decide +kernel) md_X13_takesRow lk_13_387 sh_226 rfl rfl rfl (Nat.le_of_ble_eq_true rfl) (mC.mono (mm_contV (fun G2 hK => ?_)) h)
  replace h := hK
  refine mV_iconst (n := 0) (v := nI 0) (by decide +kernel) (by decide) ?_
  refine mV_istore_n (k := 3) (ls' := [some (.ref 226), some (.int a1), some (.int a2), some (.int (nI 0)), none]) (by decide +kernel) (Nat.le_of_ble_eq_true rfl) rfl rfl ?_
  refine mV_iconst (n := 0) (v := nI 0) (by decide +kernel) (by decide) ?_
  refine mV_istore (i := 4) (ls' := [some (.ref 226), some (.int a1), some (.int a2), some (.int (nI 0)), some (.int (nI 0))]) (by decide +kernel) (Nat.le_of_ble_eq_true rfl) rfl rfl ?_
  exact h
set_option maxRecDepth 100000 in
set_option maxHeartbeats 4000000 in
theorem p_X13_harmOf_13 {l : Launch} {κ : mm_K} {d : Nat} {G : mm_G} {K : Int32 → mm_G → Prop} (v1 : Int32) (v2 : Int32) (v3 : Int32) (v4 : Int32) (h : vp_in (mg_i G 226 18) 2 ∧ (((mg_i G 249 ((mg_i G 226 18).toNatClampNeg)) ≤ v4 → K v3 G) ∧ (¬ (mg_i G 249 ((mg_i G 226 18).toNatClampNeg)) ≤ v4 → mC l κ true (d + 4) 0 0 m_X13_runs [.ref 226, .int v4] G (rV (fun G2 => mC l κ true (d + 4) 0 0 m_X13_isAsBase [.ref 226, .int v4] G2 (rI (fun r3 G4 => ((¬ r3 = 0 → mV l κ true (d + 5) 0 0 m_X13_harmOf 13 [some (.ref 226), some (.int v1), some (.int v2), some (.int v3), some (.int (v4 + (nI 1)))] [] G4 (rI K)) ∧ (r3 = 0 → mV l κ true (d + 5) 0 0 m_X13_harmOf 13 [some (.ref 226), some (.int v1), some (.int v2), some (.int (v3 + (nI 1))), some (.int (v4 + (nI 1)))] [] G4 (rI K)))))))))) : mV l κ true (d + 5) 0 0 m_X13_harmOf 13 [some (.ref 226), some (.int v1), some (.int v2), some (.int v3), some (.int v4)] [] G (rI K) := by
  refine mV_iload (i := 4) (by decide +kernel) rfl ?_
  refine mV_aload_n (k := 0) (by decide +kernel) rfl ?_
  refine mV_gfr (r := some 249) (by decide +kernel) fk_13_85 sh_226 (mm_rrs st_226_35) rfl ?_
  refine mV_aload_n (k := 0) (by decide +kernel) rfl ?_
  refine mV_gfix (x := mg_i G 226 18) (by decide +kernel) fk_13_266 sh_226 rfl ?_
  refine mV_ialx (x := mg_i G 249 ((mg_i G 226 18).toNatClampNeg)) (by decide +kernel) sh_249 h.1 rfl ?_
  replace h := h.2
  refine mV_icmp_ge (off := 27) (tgt := 51) (by decide +kernel) (by decide) (fun hc => ?_) (fun hc => ?_)
  · replace h := h.1 hc
    refine mV_iload_n (k := 3) (by decide +kernel) rfl ?_
    exact mV_iret (by decide +kernel) rfl h
  · replace h := h.2 hc
    refine mV_aload_n (k := 0) (by decide +kernel) rfl ?_
    refine mV_iload (i := 4) (by decide +kernel) rfl ?_
    refine mV_cV (as := [.int v4]) (rest := []) (mc1 := 0) (ms1 := 0) (mc := 0) (ms := 0) (by decide +kernel) md_X13_runs lk_13_390 sh_226 rfl rfl rfl (Nat.le_of_ble_eq_true rfl) (mC.mono (mm_contV (fun G2 hK => ?_)) h)
    replace h := hK
    refine mV_aload_n (k := 0) (by decide +kernel) rfl ?_
    refine mV_iload (i := 4) (by decide +kernel) rfl ?_
    refine mV_cV (as := [.int v4]) (rest := []) (mc1 := 0) (ms1 := 0) (mc := 0) (ms := 0) (by decide +kernel) md_X13_isAsBase lk_13_393 sh_226 rfl rfl rfl (Nat.le_of_ble_eq_true rfl) (mC.mono (mm_contI (fun r3 G4 hK => ?_)) h)
    replace h := hK
    refine mV_if_ne (off := 6) (tgt := 45) (by decide +kernel) (by decide) (fun hc => ?_) (fun hc => ?_)
    · replace h := h.1 hc
      refine mV_iincc (i := 4) (n := 1) (c := nI 1) (ls' := [some (.ref 226), some (.int v1), some (.int v2), some (.int v3), some (.int (v4 + (nI 1)))]) (by decide +kernel) (by decide) rfl (Nat.le_of_ble_eq_true rfl) rfl rfl ?_
      refine mV_goto (off := -35) (tgt := 13) (by decide +kernel) (by decide) ?_
      exact h
    · replace h := h.2 hc
      refine mV_iincc (i := 3) (n := 1) (c := nI 1) (ls' := [some (.ref 226), some (.int v1), some (.int v2), some (.int (v3 + (nI 1))), some (.int v4)]) (by decide +kernel) (by decide) rfl (Nat.le_of_ble_eq_true rfl) rfl rfl ?_
      refine mV_iincc (i := 4) (n := 1) (c := nI 1) (ls' := [some (.ref 226), some (.int v1), some (.int v2), some (.int (v3 + (nI 1))), some (.int (v4 + (nI 1)))]) (by decide +kernel) (by decide) rfl (Nat.le_of_ble_eq_true rfl) rfl rfl ?_
      refine mV_goto (off := -35) (tgt := 13) (by decide +kernel) (by decide) ?_
      exact h
set_option maxRecDepth 100000 in
set_option maxHeartbeats 4000000 in
theorem e_X13_harm {l : Launch} {κ : mm_K} {d : Nat} {G : mm_G} {K : Int32 → mm_G → Prop} (a1 : Int32) (a2 : Int32) (h : mC l κ true (d + 5) 0 0 m_X13_isLine [.ref 226, .int a1, .int a2] G (rI (fun r1 G2 => ((¬ r1 = 0 → mC l κ true (d + 5) 0 0 m_X13_fillBase [.ref 226, .int a1] G2 (rV (fun G4 => mC l κ true (d + 5) 0 0 m_X13_harmOf [.ref 226, .int a1, .int a2] G4 (rI (fun r5 G6 => K r5 G6))))) ∧ (r1 = 0 → K (-1) G2))))) : mC l κ true (d + 6) 0 0 m_X13_harm [.ref 226, .int a1, .int a2] G (rI K) := by
  refine mC.of (by decide) (Nat.le_of_ble_eq_true rfl) [some (.ref 226), some (.int a1), some (.int a2)] rfl ?_
  refine mV_aload_n (k := 0) (by decide +kernel) rfl ?_
  refine mV_iload_n (k := 1) (by decide +kernel) rfl ?_
  refine mV_iload_n (k := 2) (by decide +kernel) rfl ?_
  refine mV_cV (as := [.int a1, .int a2]) (rest := []) (mc1 := 0) (ms1 := 0) (mc := 0) (ms := 0) (by decide +kernel) md_X13_isLine lk_13_406 sh_226 rfl rfl rfl (Nat.le_of_ble_eq_true rfl) (mC.mono (mm_contI (fun r1 G2 hK => ?_)) h)
  replace h := hK
  refine mV_if_ne (off := 5) (tgt := 11) (by decide +kernel) (by decide) (fun hc => ?_) (fun hc => ?_)
  · replace h := h.1 hc
    refine mV_aload_n (k := 0) (by decide +kernel) rfl ?_
    refine mV_iload_n (k := 1) (by decide +kernel) rfl ?_
    refine mV_cV (as := [.int a1]) (rest := []) (mc1 := 0) (ms1 := 0) (mc := 0) (ms := 0) (by decide +kernel) md_X13_fillBase lk_13_420 sh_226 rfl rfl rfl (Nat.le_of_ble_eq_true rfl) (mC.mono (mm_contV (fun G4 hK => ?_)) h)
    replace h := hK
    refine mV_aload_n (k := 0) (by decide +kernel) rfl ?_
    refine mV_iload_n (k := 1) (by decide +kernel) rfl ?_
    refine mV_iload_n (k := 2) (by decide +kernel) rfl ?_
    refine mV_cV (as := [.int a1, .int a2]) (rest := []) (mc1 := 0) (ms1 := 0) (mc := 0) (ms := 0) (by decide +kernel) md_X13_harmOf lk_13_435 sh_226 rfl rfl rfl (Nat.le_of_ble_eq_true rfl) (mC.mono (mm_contI (fun r5 G6 hK => ?_)) h)
    replace h := hK
    exact mV_iret (by decide +kernel) rfl h
  · replace h := h.2 hc
    refine mV_iconst (n := -1) (v := (-1)) (by decide +kernel) (by decide) ?_
    exact mV_iret (by decide +kernel) rfl h
set_option maxRecDepth 100000 in
set_option maxHeartbeats 4000000 in
theorem e_X13_worst {l : Launch} {κ : mm_K} {d : Nat} {G : mm_G} {K : Int32 → mm_G → Prop} (a1 : Int32) (h : mC l κ true (d + 5) 0 0 m_X13_isRow [.ref 226, .int a1] G (rI (fun r1 G2 => ((¬ r1 = 0 → mC l κ true (d + 5) 0 0 m_X13_fillBase [.ref 226, .int a1] G2 (rV (fun G4 => mV l κ true (d + 6) 0 0 m_X13_worst 23 [some (.ref 226), some (.int a1), some (.int (-2)), some (.int (-1)), some (.int (nI 0)), none] [] G4 (rI K)))) ∧ (r1 = 0 → K (-1) G2))))) : mC l κ true (d + 6) 0 0 m_X13_worst [.ref 226, .int a1] G (rI K) := by
  refine mC.of (by decide) (Nat.le_of_ble_eq_true rfl) [some (.ref 226), some (.int a1), none, none, none, none] rfl ?_
  refine mV_aload_n (k := 0) (by decide +kernel) rfl ?_
  refine mV_iload_n (k := 1) (by decide +kernel) rfl ?_
  refine mV_cV (as := [.int a1]) (rest := []) (mc1 := 0) (ms1 := 0) (mc := 0) (ms := 0) (by decide +kernel) md_X13_isRow lk_13_403 sh_226 rfl rfl rfl (Nat.le_of_ble_eq_true rfl) (mC.mono (mm_contI (fun r1 G2 hK => ?_)) h)
  replace h := hK
  refine mV_if_ne (off := 5) (tgt := 10) (by decide +kernel) (by decide) (fun hc => ?_) (fun hc => ?_)
  · replace h := h.1 hc
    refine mV_aload_n (k := 0) (by decide +kernel) rfl ?_
    refine mV_iload_n (k := 1) (by decide +kernel) rfl ?_
    refine mV_cV (as := [.int a1]) (rest := []) (mc1 := 0) (ms1 := 0) (mc := 0) (ms := 0) (by decide +kernel) md_X13_fillBase lk_13_420 sh_226 rfl rfl rfl (Nat.le_of_ble_eq_true rfl) (mC.mono (mm_contV (fun G4 hK => ?_)) h)
    replace h := hK
    refine mV_bipush (n := -2) (v := (-2)) (by decide +kernel) (by decide) ?_
    refine mV_istore_n (k := 2) (ls' := [some (.ref 226), some (.int a1), some (.int (-2)), none, none, none]) (by decide +kernel) (Nat.le_of_ble_eq_true rfl) rfl rfl ?_
    refine mV_iconst (n := -1) (v := (-1)) (by decide +kernel) (by decide) ?_
    refine mV_istore_n (k := 3) (ls' := [some (.ref 226), some (.int a1), some (.int (-2)), some (.int (-1)), none, none]) (by decide +kernel) (Nat.le_of_ble_eq_true rfl) rfl rfl ?_
    refine mV_iconst (n := 0) (v := nI 0) (by decide +kernel) (by decide) ?_
    refine mV_istore (i := 4) (ls' := [some (.ref 226), some (.int a1), some (.int (-2)), some (.int (-1)), some (.int (nI 0)), none]) (by decide +kernel) (Nat.le_of_ble_eq_true rfl) rfl rfl ?_
    exact h
  · replace h := h.2 hc
    refine mV_iconst (n := -1) (v := (-1)) (by decide +kernel) (by decide) ?_
    exact mV_iret (by decide +kernel) rfl h
set_option maxRecDepth 100000 in
set_option maxHeartbeats 4000000 in
theorem p_X13_worst_23 {l : Launch} {κ : mm_K} {d : Nat} {G : mm_G} {K : Int32 → mm_G → Prop} (v1 : Int32) (v2 : Int32) (v3 : Int32) (v4 : Int32) (h : mC l κ true (d + 5) 0 0 m_X13_linesOf [.ref 226, .int v1] G (rI (fun r1 G2 => ((r1 ≤ v4 → K v2 G2) ∧ (¬ r1 ≤ v4 → mC l κ true (d + 5) 0 0 m_X13_harmOf [.ref 226, .int v1, .int v4] G2 (rI (fun r3 G4 => ((v3 < r3 → mV l κ true (d + 6) 0 0 m_X13_worst 23 [some (.ref 226), some (.int v1), some (.int v4), some (.int r3), some (.int (v4 + (nI 1))), none] [] G4 (rI K)) ∧ (¬ v3 < r3 → mV l κ true (d + 6) 0 0 m_X13_worst 23 [some (.ref 226), some (.int v1), some (.int v2), some (.int v3), some (.int (v4 + (nI 1))), none] [] G4 (rI K)))))))))) : mV l κ true (d + 6) 0 0 m_X13_worst 23 [some (.ref 226), some (.int v1), some (.int v2), some (.int v3), some (.int v4), none] [] G (rI K) := by
  refine mV_iload (i := 4) (by decide +kernel) rfl ?_
  refine mV_aload_n (k := 0) (by decide +kernel) rfl ?_
  refine mV_iload_n (k := 1) (by decide +kernel) rfl ?_
  refine mV_cV (as := [.int v1]) (rest := [.int v4]) (mc1 := 0) (ms1 := 0) (mc := 0) (ms := 0) (by decide +kernel) md_X13_linesOf lk_13_337 sh_226 rfl rfl rfl (Nat.le_of_ble_eq_true rfl) (mC.mono (mm_contI (fun r1 G2 hK => ?_)) h)
  replace h := hK
  refine mV_icmp_ge (off := 33) (tgt := 63) (by decide +kernel) (by decide) (fun hc => ?_) (fun hc => ?_)
  · replace h := h.1 hc
    refine mV_iload_n (k := 2) (by decide +kernel) rfl ?_
    exact mV_iret (by decide +kernel) rfl h
  · replace h := h.2 hc
    refine mV_aload_n (k := 0) (by decide +kernel) rfl ?_
    refine mV_iload_n (k := 1) (by decide +kernel) rfl ?_
    refine mV_iload (i := 4) (by decide +kernel) rfl ?_
    refine mV_cV (as := [.int v1, .int v4]) (rest := []) (mc1 := 0) (ms1 := 0) (mc := 0) (ms := 0) (by decide +kernel) md_X13_harmOf lk_13_435 sh_226 rfl rfl rfl (Nat.le_of_ble_eq_true rfl) (mC.mono (mm_contI (fun r3 G4 hK => ?_)) h)
    replace h := hK
    refine mV_istore (i := 5) (ls' := [some (.ref 226), some (.int v1), some (.int v2), some (.int v3), some (.int v4), some (.int r3)]) (by decide +kernel) (Nat.le_of_ble_eq_true rfl) rfl rfl ?_
    refine mV_iload (i := 5) (by decide +kernel) rfl ?_
    refine mV_iload_n (k := 3) (by decide +kernel) rfl ?_
    refine mV_icmp_gt (off := 6) (tgt := 51) (by decide +kernel) (by decide) (fun hc => ?_) (fun hc => ?_)
    · replace h := h.1 hc
      refine mV_iload (i := 4) (by decide +kernel) rfl ?_
      refine mV_istore_n (k := 2) (ls' := [some (.ref 226), some (.int v1), some (.int v4), some (.int v3), some (.int v4), some (.int r3)]) (by decide +kernel) (Nat.le_of_ble_eq_true rfl) rfl rfl ?_
      refine mV_iload (i := 5) (by decide +kernel) rfl ?_
      refine mV_istore_n (k := 3) (ls' := [some (.ref 226), some (.int v1), some (.int v4), some (.int r3), some (.int v4), some (.int r3)]) (by decide +kernel) (Nat.le_of_ble_eq_true rfl) rfl rfl ?_
      refine mV_iincc (i := 4) (n := 1) (c := nI 1) (ls' := [some (.ref 226), some (.int v1), some (.int v4), some (.int r3), some (.int (v4 + (nI 1))), some (.int r3)]) (by decide +kernel) (by decide) rfl (Nat.le_of_ble_eq_true rfl) rfl rfl ?_
      refine mV_goto (off := -37) (tgt := 23) (by decide +kernel) (by decide) ?_
      refine mV_fg [5] (ls' := [some (.ref 226), some (.int v1), some (.int v4), some (.int r3), some (.int (v4 + (nI 1))), none]) rfl ?_
      exact h
    · replace h := h.2 hc
      refine mV_goto (off := 9) (tgt := 57) (by decide +kernel) (by decide) ?_
      refine mV_iincc (i := 4) (n := 1) (c := nI 1) (ls' := [some (.ref 226), some (.int v1), some (.int v2), some (.int v3), some (.int (v4 + (nI 1))), some (.int r3)]) (by decide +kernel) (by decide) rfl (Nat.le_of_ble_eq_true rfl) rfl rfl ?_
      refine mV_goto (off := -37) (tgt := 23) (by decide +kernel) (by decide) ?_
      refine mV_fg [5] (ls' := [some (.ref 226), some (.int v1), some (.int v2), some (.int v3), some (.int (v4 + (nI 1))), none]) rfl ?_
      exact h
set_option maxRecDepth 100000 in
set_option maxHeartbeats 4000000 in
theorem e_X13_pair {l : Launch} {κ : mm_K} {d : Nat} {G : mm_G} {K : Int32 → mm_G → Prop} (a1 : Int32) (h : mC l κ true (d + 7) 0 0 m_X13_isRow [.ref 226, .int a1] G (rI (fun r1 G2 => ((¬ r1 = 0 → mC l κ true (d + 7) 0 0 m_X13_idleOf [.ref 226, .int a1] G2 (rI (fun r3 G4 => mV l κ true (d + 8) 0 0 m_X13_pair 18 [some (.ref 226), some (.int a1), some (.int r3), some (.int (nI 0)), none] [] G4 (rI K)))) ∧ (r1 = 0 → K (-1) G2))))) : mC l κ true (d + 8) 0 0 m_X13_pair [.ref 226, .int a1] G (rI K) := by
  refine mC.of (by decide) (Nat.le_of_ble_eq_true rfl) [some (.ref 226), some (.int a1), none, none, none] rfl ?_
  refine mV_aload_n (k := 0) (by decide +kernel) rfl ?_
  refine mV_iload_n (k := 1) (by decide +kernel) rfl ?_
  refine mV_cV (as := [.int a1]) (rest := []) (mc1 := 0) (ms1 := 0) (mc := 0) (ms := 0) (by decide +kernel) md_X13_isRow lk_13_403 sh_226 rfl rfl rfl (Nat.le_of_ble_eq_true rfl) (mC.mono (mm_contI (fun r1 G2 hK => ?_)) h)
  replace h := hK
  refine mV_if_ne (off := 5) (tgt := 10) (by decide +kernel) (by decide) (fun hc => ?_) (fun hc => ?_)
  · replace h := h.1 hc
    refine mV_aload_n (k := 0) (by decide +kernel) rfl ?_
    refine mV_iload_n (k := 1) (by decide +kernel) rfl ?_
    refine mV_cV (as := [.int a1]) (rest := []) (mc1 := 0) (ms1 := 0) (mc := 0) (ms := 0) (by decide +kernel) md_X13_idleOf lk_13_432 sh_226 rfl rfl rfl (Nat.le_of_ble_eq_true rfl) (mC.mono (mm_contI (fun r3 G4 hK => ?_)) h)
    replace h := hK
    refine mV_istore_n (k := 2) (ls' := [some (.ref 226), some (.int a1), some (.int r3), none, none]) (by decide +kernel) (Nat.le_of_ble_eq_true rfl) rfl rfl ?_
    refine mV_iconst (n := 0) (v := nI 0) (by decide +kernel) (by decide) ?_
    refine mV_istore_n (k := 3) (ls' := [some (.ref 226), some (.int a1), some (.int r3), some (.int (nI 0)), none]) (by decide +kernel) (Nat.le_of_ble_eq_true rfl) rfl rfl ?_
    exact h
  · replace h := h.2 hc
    refine mV_iconst (n := -1) (v := (-1)) (by decide +kernel) (by decide) ?_
    exact mV_iret (by decide +kernel) rfl h
set_option maxRecDepth 100000 in
set_option maxHeartbeats 4000000 in
theorem p_X13_pair_18 {l : Launch} {κ : mm_K} {d : Nat} {G : mm_G} {K : Int32 → mm_G → Prop} (v1 : Int32) (v2 : Int32) (v3 : Int32) (h : mC l κ true (d + 7) 0 0 m_X13_linesOf [.ref 226, .int v1] G (rI (fun r1 G2 => ((r1 ≤ v3 → K (-2) G2) ∧ (¬ r1 ≤ v3 → mV l κ true (d + 8) 0 0 m_X13_pair 32 [some (.ref 226), some (.int v1), some (.int v2), some (.int v3), some (.int (v3 + (nI 1)))] [] G2 (rI K)))))) : mV l κ true (d + 8) 0 0 m_X13_pair 18 [some (.ref 226), some (.int v1), some (.int v2), some (.int v3), none] [] G (rI K) := by
  refine mV_iload_n (k := 3) (by decide +kernel) rfl ?_
  refine mV_aload_n (k := 0) (by decide +kernel) rfl ?_
  refine mV_iload_n (k := 1) (by decide +kernel) rfl ?_
  refine mV_cV (as := [.int v1]) (rest := [.int v3]) (mc1 := 0) (ms1 := 0) (mc := 0) (ms := 0) (by decide +kernel) md_X13_linesOf lk_13_337 sh_226 rfl rfl rfl (Nat.le_of_ble_eq_true rfl) (mC.mono (mm_contI (fun r1 G2 hK => ?_)) h)
  replace h := hK
  refine mV_icmp_ge (off := 73) (tgt := 97) (by decide +kernel) (by decide) (fun hc => ?_) (fun hc => ?_)
  · replace h := h.1 hc
    refine mV_bipush (n := -2) (v := (-2)) (by decide +kernel) (by decide) ?_
    exact mV_iret (by decide +kernel) rfl h
  · replace h := h.2 hc
    refine mV_iload_n (k := 3) (by decide +kernel) rfl ?_
    refine mV_iconst (n := 1) (v := nI 1) (by decide +kernel) (by decide) ?_
    refine mV_iadd (by decide +kernel) ?_
    refine mV_istore (i := 4) (ls' := [some (.ref 226), some (.int v1), some (.int v2), some (.int v3), some (.int (v3 + (nI 1)))]) (by decide +kernel) (Nat.le_of_ble_eq_true rfl) rfl rfl ?_
    exact h
set_option maxRecDepth 100000 in
set_option maxHeartbeats 4000000 in
theorem p_X13_pair_32 {l : Launch} {κ : mm_K} {d : Nat} {G : mm_G} {K : Int32 → mm_G → Prop} (v1 : Int32) (v2 : Int32) (v3 : Int32) (v4 : Int32) (h : mC l κ true (d + 7) 0 0 m_X13_linesOf [.ref 226, .int v1] G (rI (fun r1 G2 => ((r1 ≤ v4 → mV l κ true (d + 8) 0 0 m_X13_pair 18 [some (.ref 226), some (.int v1), some (.int v2), some (.int (v3 + (nI 1))), none] [] G2 (rI K)) ∧ (¬ r1 ≤ v4 → ((¬ ((v2 >>> (v3 &&& 31)) &&& (nI 1)) = (nI 1) → mV l κ true (d + 8) 0 0 m_X13_pair 32 [some (.ref 226), some (.int v1), some (.int v2), some (.int v3), some (.int (v4 + (nI 1)))] [] G2 (rI K)) ∧ (((v2 >>> (v3 &&& 31)) &&& (nI 1)) = (nI 1) → ((¬ ((v2 >>> (v4 &&& 31)) &&& (nI 1)) = (nI 1) → mV l κ true (d + 8) 0 0 m_X13_pair 32 [some (.ref 226), some (.int v1), some (.int v2), some (.int v3), some (.int (v4 + (nI 1)))] [] G2 (rI K)) ∧ (((v2 >>> (v4 &&& 31)) &&& (nI 1)) = (nI 1) → mC l κ true (d + 7) 0 0 m_X13_isSame [.ref 226, .int v1, .int (((nI 1) <<< (v3 &&& 31)) ||| ((nI 1) <<< (v4 &&& 31)))] G2 (rI (fun r3 G4 => ((¬ r3 = 0 → mV l κ true (d + 8) 0 0 m_X13_pair 32 [some (.ref 226), some (.int v1), some (.int v2), some (.int v3), some (.int (v4 + (nI 1)))] [] G4 (rI K)) ∧ (r3 = 0 → K (((nI 100) * v3) + v4) G4))))))))))))) : mV l κ true (d + 8) 0 0 m_X13_pair 32 [some (.ref 226), some (.int v1), some (.int v2), some (.int v3), some (.int v4)] [] G (rI K) := by
  refine mV_iload (i := 4) (by decide +kernel) rfl ?_
  refine mV_aload_n (k := 0) (by decide +kernel) rfl ?_
  refine mV_iload_n (k := 1) (by decide +kernel) rfl ?_
  refine mV_cV (as := [.int v1]) (rest := [.int v4]) (mc1 := 0) (ms1 := 0) (mc := 0) (ms := 0) (by decide +kernel) md_X13_linesOf lk_13_337 sh_226 rfl rfl rfl (Nat.le_of_ble_eq_true rfl) (mC.mono (mm_contI (fun r1 G2 hK => ?_)) h)
  replace h := hK
  refine mV_icmp_ge (off := 52) (tgt := 91) (by decide +kernel) (by decide) (fun hc => ?_) (fun hc => ?_)
  · replace h := h.1 hc
    refine mV_iincc (i := 3) (n := 1) (c := nI 1) (ls' := [some (.ref 226), some (.int v1), some (.int v2), some (.int (v3 + (nI 1))), some (.int v4)]) (by decide +kernel) (by decide) rfl (Nat.le_of_ble_eq_true rfl) rfl rfl ?_
    refine mV_goto (off := -76) (tgt := 18) (by decide +kernel) (by decide) ?_
    refine mV_fg [4] (ls' := [some (.ref 226), some (.int v1), some (.int v2), some (.int (v3 + (nI 1))), none]) rfl ?_
    exact h
  · replace h := h.2 hc
    refine mV_iload_n (k := 2) (by decide +kernel) rfl ?_
    refine mV_iload_n (k := 3) (by decide +kernel) rfl ?_
    refine mV_ishr (by decide +kernel) ?_
    refine mV_iconst (n := 1) (v := nI 1) (by decide +kernel) (by decide) ?_
    refine mV_iand (by decide +kernel) ?_
    refine mV_iconst (n := 1) (v := nI 1) (by decide +kernel) (by decide) ?_
    refine mV_icmp_ne (off := 37) (tgt := 85) (by decide +kernel) (by decide) (fun hc => ?_) (fun hc => ?_)
    · replace h := h.1 hc
      refine mV_iincc (i := 4) (n := 1) (c := nI 1) (ls' := [some (.ref 226), some (.int v1), some (.int v2), some (.int v3), some (.int (v4 + (nI 1)))]) (by decide +kernel) (by decide) rfl (Nat.le_of_ble_eq_true rfl) rfl rfl ?_
      refine mV_goto (off := -56) (tgt := 32) (by decide +kernel) (by decide) ?_
      exact h
    · replace h := h.2 hc
      refine mV_iload_n (k := 2) (by decide +kernel) rfl ?_
      refine mV_iload (i := 4) (by decide +kernel) rfl ?_
      refine mV_ishr (by decide +kernel) ?_
      refine mV_iconst (n := 1) (v := nI 1) (by decide +kernel) (by decide) ?_
      refine mV_iand (by decide +kernel) ?_
      refine mV_iconst (n := 1) (v := nI 1) (by decide +kernel) (by decide) ?_
      refine mV_icmp_ne (off := 27) (tgt := 85) (by decide +kernel) (by decide) (fun hc => ?_) (fun hc => ?_)
      · replace h := h.1 hc
        refine mV_iincc (i := 4) (n := 1) (c := nI 1) (ls' := [some (.ref 226), some (.int v1), some (.int v2), some (.int v3), some (.int (v4 + (nI 1)))]) (by decide +kernel) (by decide) rfl (Nat.le_of_ble_eq_true rfl) rfl rfl ?_
        refine mV_goto (off := -56) (tgt := 32) (by decide +kernel) (by decide) ?_
        exact h
      · replace h := h.2 hc
        refine mV_aload_n (k := 0) (by decide +kernel) rfl ?_
        refine mV_iload_n (k := 1) (by decide +kernel) rfl ?_
        refine mV_iconst (n := 1) (v := nI 1) (by decide +kernel) (by decide) ?_
        refine mV_iload_n (k := 3) (by decide +kernel) rfl ?_
        refine mV_ishl (by decide +kernel) ?_
        refine mV_iconst (n := 1) (v := nI 1) (by decide +kernel) (by decide) ?_
        refine mV_iload (i := 4) (by decide +kernel) rfl ?_
        refine mV_ishl (by decide +kernel) ?_
        refine mV_ior (by decide +kernel) ?_
        refine mV_cV (as := [.int v1, .int (((nI 1) <<< (v3 &&& 31)) ||| ((nI 1) <<< (v4 &&& 31)))]) (rest := []) (mc1 := 0) (ms1 := 0) (mc := 0) (ms := 0) (by decide +kernel) md_X13_isSame lk_13_423 sh_226 rfl rfl rfl (Nat.le_of_ble_eq_true rfl) (mC.mono (mm_contI (fun r3 G4 hK => ?_)) h)
        replace h := hK
        refine mV_if_ne (off := 11) (tgt := 85) (by decide +kernel) (by decide) (fun hc => ?_) (fun hc => ?_)
        · replace h := h.1 hc
          refine mV_iincc (i := 4) (n := 1) (c := nI 1) (ls' := [some (.ref 226), some (.int v1), some (.int v2), some (.int v3), some (.int (v4 + (nI 1)))]) (by decide +kernel) (by decide) rfl (Nat.le_of_ble_eq_true rfl) rfl rfl ?_
          refine mV_goto (off := -56) (tgt := 32) (by decide +kernel) (by decide) ?_
          exact h
        · replace h := h.2 hc
          refine mV_bipush (n := 100) (v := nI 100) (by decide +kernel) (by decide) ?_
          refine mV_iload_n (k := 3) (by decide +kernel) rfl ?_
          refine mV_imul (by decide +kernel) ?_
          refine mV_iload (i := 4) (by decide +kernel) rfl ?_
          refine mV_iadd (by decide +kernel) ?_
          exact mV_iret (by decide +kernel) rfl h
set_option maxRecDepth 100000 in
set_option maxHeartbeats 4000000 in
theorem e_X13_takesTwice {l : Launch} {κ : mm_K} {d : Nat} {G : mm_G} {K : mm_G → Prop} (a1 : Int32) (a2 : Int32) (a3 : Int32) (h : mC l κ true (d + 1) 0 0 m_X13_takesRow [.ref 226, .int a1, .int a3] G (rV (fun G2 => mV l κ true (d + 2) 0 0 m_X13_takesTwice 12 [some (.ref 226), some (.int a1), some (.int a2), some (.int a3), some (.int (mg_i G2 226 45))] [] G2 (rV K)))) : mC l κ true (d + 2) 0 0 m_X13_takesTwice [.ref 226, .int a1, .int a2, .int a3] G (rV K) := by
  refine mC.of (by decide) (Nat.le_of_ble_eq_true rfl) [some (.ref 226), some (.int a1), some (.int a2), some (.int a3), none] rfl ?_
  refine mV_aload_n (k := 0) (by decide +kernel) rfl ?_
  refine mV_iload_n (k := 1) (by decide +kernel) rfl ?_
  refine mV_iload_n (k := 3) (by decide +kernel) rfl ?_
  refine mV_cV (as := [.int a1, .int a3]) (rest := []) (mc1 := 0) (ms1 := 0) (mc := 0) (ms := 0) (by decide +kernel) md_X13_takesRow lk_13_387 sh_226 rfl rfl rfl (Nat.le_of_ble_eq_true rfl) (mC.mono (mm_contV (fun G2 hK => ?_)) h)
  replace h := hK
  refine mV_aload_n (k := 0) (by decide +kernel) rfl ?_
  refine mV_gfix (x := mg_i G2 226 45) (by decide +kernel) fk_13_340 sh_226 rfl ?_
  refine mV_istore (i := 4) (ls' := [some (.ref 226), some (.int a1), some (.int a2), some (.int a3), some (.int (mg_i G2 226 45))]) (by decide +kernel) (Nat.le_of_ble_eq_true rfl) rfl rfl ?_
  exact h
set_option maxRecDepth 100000 in
set_option maxHeartbeats 4000000 in
theorem p_X13_takesTwice_12 {l : Launch} {κ : mm_K} {d : Nat} {G : mm_G} {K : mm_G → Prop} (v1 : Int32) (v2 : Int32) (v3 : Int32) (v4 : Int32) (h : ((v4 ≤ v2 → K (ms_i G 226 45 ((mg_i G 226 45) + (nI 1)))) ∧ (¬ v4 ≤ v2 → vp_in (v4 - (nI 1)) 20 ∧ vp_in v4 20 ∧ vp_in (v4 - (nI 1)) 20 ∧ vp_in v4 20 ∧ mV l κ true (d + 2) 0 0 m_X13_takesTwice 12 [some (.ref 226), some (.int v1), some (.int v2), some (.int v3), some (.int (v4 + (-1)))] [] (ms_i (ms_i G 255 v4.toNatClampNeg (mg_i G 255 ((v4 - (nI 1)).toNatClampNeg))) 256 v4.toNatClampNeg (mg_i G 256 ((v4 - (nI 1)).toNatClampNeg))) (rV K)))) : mV l κ true (d + 2) 0 0 m_X13_takesTwice 12 [some (.ref 226), some (.int v1), some (.int v2), some (.int v3), some (.int v4)] [] G (rV K) := by
  refine mV_iload (i := 4) (by decide +kernel) rfl ?_
  refine mV_iload_n (k := 2) (by decide +kernel) rfl ?_
  refine mV_icmp_le (off := 41) (tgt := 56) (by decide +kernel) (by decide) (fun hc => ?_) (fun hc => ?_)
  · replace h := h.1 hc
    refine mV_aload_n (k := 0) (by decide +kernel) rfl ?_
    refine mV_dup (by decide +kernel) rfl ?_
    refine mV_gfix (x := mg_i G 226 45) (by decide +kernel) fk_13_340 sh_226 rfl ?_
    refine mV_iconst (n := 1) (v := nI 1) (by decide +kernel) (by decide) ?_
    refine mV_iadd (by decide +kernel) ?_
    refine mV_pfi (by decide +kernel) fk_13_340 sh_226 ?_
    exact mV_vret (by decide +kernel) rfl h
  · replace h := h.2 hc
    refine mV_aload_n (k := 0) (by decide +kernel) rfl ?_
    refine mV_gfr (r := some 255) (by decide +kernel) fk_13_103 sh_226 (mm_rrs st_226_43) rfl ?_
    refine mV_iload (i := 4) (by decide +kernel) rfl ?_
    refine mV_aload_n (k := 0) (by decide +kernel) rfl ?_
    refine mV_gfr (r := some 255) (by decide +kernel) fk_13_103 sh_226 (mm_rrs st_226_43) rfl ?_
    refine mV_iload (i := 4) (by decide +kernel) rfl ?_
    refine mV_iconst (n := 1) (v := nI 1) (by decide +kernel) (by decide) ?_
    refine mV_isub (by decide +kernel) ?_
    refine mV_ialx (x := mg_i G 255 ((v4 - (nI 1)).toNatClampNeg)) (by decide +kernel) sh_255 h.1 rfl ?_
    replace h := h.2
    refine mV_ias (by decide +kernel) sh_255 h.1 ?_
    replace h := h.2
    refine mV_aload_n (k := 0) (by decide +kernel) rfl ?_
    refine mV_gfr (r := some 256) (by decide +kernel) fk_13_106 sh_226 (mm_rrs st_226_44) rfl ?_
    refine mV_iload (i := 4) (by decide +kernel) rfl ?_
    refine mV_aload_n (k := 0) (by decide +kernel) rfl ?_
    refine mV_gfr (r := some 256) (by decide +kernel) fk_13_106 sh_226 (mm_rrs st_226_44) rfl ?_
    refine mV_iload (i := 4) (by decide +kernel) rfl ?_
    refine mV_iconst (n := 1) (v := nI 1) (by decide +kernel) (by decide) ?_
    refine mV_isub (by decide +kernel) ?_
    refine mV_ialx (x := mg_i G 256 ((v4 - (nI 1)).toNatClampNeg)) (by decide +kernel) sh_256 h.1 rfl ?_
    replace h := h.2
    refine mV_ias (by decide +kernel) sh_256 h.1 ?_
    replace h := h.2
    refine mV_iincc (i := 4) (n := -1) (c := (-1)) (ls' := [some (.ref 226), some (.int v1), some (.int v2), some (.int v3), some (.int (v4 + (-1)))]) (by decide +kernel) (by decide) rfl (Nat.le_of_ble_eq_true rfl) rfl rfl ?_
    refine mV_goto (off := -41) (tgt := 12) (by decide +kernel) (by decide) ?_
    exact h
set_option maxRecDepth 100000 in
set_option maxHeartbeats 4000000 in
theorem e_X13_mends {l : Launch} {κ : mm_K} {d : Nat} {G : mm_G} {K : Int32 → mm_G → Prop} (a1 : Int32) (h : mC l κ true (d + 5) 0 0 m_X13_isRow [.ref 226, .int a1] G (rI (fun r1 G2 => ((¬ r1 = 0 → mC l κ true (d + 5) 0 0 m_X13_linesOf [.ref 226, .int a1] G2 (rI (fun r3 G4 => ((¬ r3 = (nI 16) → mC l κ true (d + 5) 0 0 m_X13_fillBase [.ref 226, .int a1] G4 (rV (fun G6 => mV l κ true (d + 6) 0 0 m_X13_mends 32 [some (.ref 226), some (.int a1), some (.int (nI 0)), some (.int (nI 0)), none, none] [] G6 (rI K)))) ∧ (r3 = (nI 16) → K (-2) G4))))) ∧ (r1 = 0 → K (-1) G2))))) : mC l κ true (d + 6) 0 0 m_X13_mends [.ref 226, .int a1] G (rI K) := by
  refine mC.of (by decide) (Nat.le_of_ble_eq_true rfl) [some (.ref 226), some (.int a1), none, none, none, none] rfl ?_
  refine mV_aload_n (k := 0) (by decide +kernel) rfl ?_
  refine mV_iload_n (k := 1) (by decide +kernel) rfl ?_
  refine mV_cV (as := [.int a1]) (rest := []) (mc1 := 0) (ms1 := 0) (mc := 0) (ms := 0) (by decide +kernel) md_X13_isRow lk_13_403 sh_226 rfl rfl rfl (Nat.le_of_ble_eq_true rfl) (mC.mono (mm_contI (fun r1 G2 hK => ?_)) h)
  replace h := hK
  refine mV_if_ne (off := 5) (tgt := 10) (by decide +kernel) (by decide) (fun hc => ?_) (fun hc => ?_)
  · replace h := h.1 hc
    refine mV_aload_n (k := 0) (by decide +kernel) rfl ?_
    refine mV_iload_n (k := 1) (by decide +kernel) rfl ?_
    refine mV_cV (as := [.int a1]) (rest := []) (mc1 := 0) (ms1 := 0) (mc := 0) (ms := 0) (by decide +kernel) md_X13_linesOf lk_13_337 sh_226 rfl rfl rfl (Nat.le_of_ble_eq_true rfl) (mC.mono (mm_contI (fun r3 G4 hK => ?_)) h)
    replace h := hK
    refine mV_bipush (n := 16) (v := nI 16) (by decide +kernel) (by decide) ?_
    refine mV_icmp_ne (off := 6) (tgt := 23) (by decide +kernel) (by decide) (fun hc => ?_) (fun hc => ?_)
    · replace h := h.1 hc
      refine mV_aload_n (k := 0) (by decide +kernel) rfl ?_
      refine mV_iload_n (k := 1) (by decide +kernel) rfl ?_
      refine mV_cV (as := [.int a1]) (rest := []) (mc1 := 0) (ms1 := 0) (mc := 0) (ms := 0) (by decide +kernel) md_X13_fillBase lk_13_420 sh_226 rfl rfl rfl (Nat.le_of_ble_eq_true rfl) (mC.mono (mm_contV (fun G6 hK => ?_)) h)
      replace h := hK
      refine mV_iconst (n := 0) (v := nI 0) (by decide +kernel) (by decide) ?_
      refine mV_istore_n (k := 2) (ls' := [some (.ref 226), some (.int a1), some (.int (nI 0)), none, none, none]) (by decide +kernel) (Nat.le_of_ble_eq_true rfl) rfl rfl ?_
      refine mV_iconst (n := 0) (v := nI 0) (by decide +kernel) (by decide) ?_
      refine mV_istore_n (k := 3) (ls' := [some (.ref 226), some (.int a1), some (.int (nI 0)), some (.int (nI 0)), none, none]) (by decide +kernel) (Nat.le_of_ble_eq_true rfl) rfl rfl ?_
      exact h
    · replace h := h.2 hc
      refine mV_bipush (n := -2) (v := (-2)) (by decide +kernel) (by decide) ?_
      exact mV_iret (by decide +kernel) rfl h
  · replace h := h.2 hc
    refine mV_iconst (n := -1) (v := (-1)) (by decide +kernel) (by decide) ?_
    exact mV_iret (by decide +kernel) rfl h
set_option maxRecDepth 100000 in
set_option maxHeartbeats 4000000 in
theorem p_X13_mends_32 {l : Launch} {κ : mm_K} {d : Nat} {G : mm_G} {K : Int32 → mm_G → Prop} (v1 : Int32) (v2 : Int32) (v3 : Int32) (h : mC l κ true (d + 5) 0 0 m_X13_linesOf [.ref 226, .int v1] G (rI (fun r1 G2 => ((r1 ≤ v3 → K v2 G2) ∧ (¬ r1 ≤ v3 → mV l κ true (d + 6) 0 0 m_X13_mends 47 [some (.ref 226), some (.int v1), some (.int v2), some (.int v3), some (.int (nI 1)), some (.int (nI 0))] [] G2 (rI K)))))) : mV l κ true (d + 6) 0 0 m_X13_mends 32 [some (.ref 226), some (.int v1), some (.int v2), some (.int v3), none, none] [] G (rI K) := by
  refine mV_iload_n (k := 3) (by decide +kernel) rfl ?_
  refine mV_aload_n (k := 0) (by decide +kernel) rfl ?_
  refine mV_iload_n (k := 1) (by decide +kernel) rfl ?_
  refine mV_cV (as := [.int v1]) (rest := [.int v3]) (mc1 := 0) (ms1 := 0) (mc := 0) (ms := 0) (by decide +kernel) md_X13_linesOf lk_13_337 sh_226 rfl rfl rfl (Nat.le_of_ble_eq_true rfl) (mC.mono (mm_contI (fun r1 G2 hK => ?_)) h)
  replace h := hK
  refine mV_icmp_ge (off := 67) (tgt := 105) (by decide +kernel) (by decide) (fun hc => ?_) (fun hc => ?_)
  · replace h := h.1 hc
    refine mV_iload_n (k := 2) (by decide +kernel) rfl ?_
    exact mV_iret (by decide +kernel) rfl h
  · replace h := h.2 hc
    refine mV_iconst (n := 1) (v := nI 1) (by decide +kernel) (by decide) ?_
    refine mV_istore (i := 4) (ls' := [some (.ref 226), some (.int v1), some (.int v2), some (.int v3), some (.int (nI 1)), none]) (by decide +kernel) (Nat.le_of_ble_eq_true rfl) rfl rfl ?_
    refine mV_iconst (n := 0) (v := nI 0) (by decide +kernel) (by decide) ?_
    refine mV_istore (i := 5) (ls' := [some (.ref 226), some (.int v1), some (.int v2), some (.int v3), some (.int (nI 1)), some (.int (nI 0))]) (by decide +kernel) (Nat.le_of_ble_eq_true rfl) rfl rfl ?_
    exact h
set_option maxRecDepth 100000 in
set_option maxHeartbeats 4000000 in
theorem p_X13_mends_47 {l : Launch} {κ : mm_K} {d : Nat} {G : mm_G} {K : Int32 → mm_G → Prop} (v1 : Int32) (v2 : Int32) (v3 : Int32) (v4 : Int32) (v5 : Int32) (h : (((nI 3) ≤ v5 → ((v4 = 0 → mV l κ true (d + 6) 0 0 m_X13_mends 32 [some (.ref 226), some (.int v1), some (.int v2), some (.int (v3 + (nI 1))), none, none] [] G (rI K)) ∧ (¬ v4 = 0 → mV l κ true (d + 6) 0 0 m_X13_mends 32 [some (.ref 226), some (.int v1), some (.int (v2 ||| ((nI 1) <<< (v3 &&& 31)))), some (.int (v3 + (nI 1))), none, none] [] G (rI K)))) ∧ (¬ (nI 3) ≤ v5 → ((v4 = 0 → ((v4 = 0 → mV l κ true (d + 6) 0 0 m_X13_mends 32 [some (.ref 226), some (.int v1), some (.int v2), some (.int (v3 + (nI 1))), none, none] [] G (rI K)) ∧ (¬ v4 = 0 → mV l κ true (d + 6) 0 0 m_X13_mends 32 [some (.ref 226), some (.int v1), some (.int (v2 ||| ((nI 1) <<< (v3 &&& 31)))), some (.int (v3 + (nI 1))), none, none] [] G (rI K)))) ∧ (¬ v4 = 0 → mC l κ true (d + 5) 0 0 m_X13_takesTwice [.ref 226, .int v1, .int v3, .int (v5 <<< (v3 &&& 31))] G (rV (fun G2 => mC l κ true (d + 5) 0 0 m_X13_unlike [.ref 226] G2 (rI (fun r3 G4 => ((0 ≤ r3 → mV l κ true (d + 6) 0 0 m_X13_mends 47 [some (.ref 226), some (.int v1), some (.int v2), some (.int v3), some (.int (nI 0)), some (.int (v5 + (nI 1)))] [] G4 (rI K)) ∧ (¬ 0 ≤ r3 → mV l κ true (d + 6) 0 0 m_X13_mends 47 [some (.ref 226), some (.int v1), some (.int v2), some (.int v3), some (.int (nI 1)), some (.int (v5 + (nI 1)))] [] G4 (rI K)))))))))))) : mV l κ true (d + 6) 0 0 m_X13_mends 47 [some (.ref 226), some (.int v1), some (.int v2), some (.int v3), some (.int v4), some (.int v5)] [] G (rI K) := by
  refine mV_iload (i := 5) (by decide +kernel) rfl ?_
  refine mV_iconst (n := 3) (v := nI 3) (by decide +kernel) (by decide) ?_
  refine mV_icmp_ge (off := 38) (tgt := 88) (by decide +kernel) (by decide) (fun hc => ?_) (fun hc => ?_)
  · replace h := h.1 hc
    refine mV_iload (i := 4) (by decide +kernel) rfl ?_
    refine mV_if_eq (off := 9) (tgt := 99) (by decide +kernel) (by decide) (fun hc => ?_) (fun hc => ?_)
    · replace h := h.1 hc
      refine mV_iincc (i := 3) (n := 1) (c := nI 1) (ls' := [some (.ref 226), some (.int v1), some (.int v2), some (.int (v3 + (nI 1))), some (.int v4), some (.int v5)]) (by decide +kernel) (by decide) rfl (Nat.le_of_ble_eq_true rfl) rfl rfl ?_
      refine mV_goto (off := -70) (tgt := 32) (by decide +kernel) (by decide) ?_
      refine mV_fg [4, 5] (ls' := [some (.ref 226), some (.int v1), some (.int v2), some (.int (v3 + (nI 1))), none, none]) rfl ?_
      exact h
    · replace h := h.2 hc
      refine mV_iload_n (k := 2) (by decide +kernel) rfl ?_
      refine mV_iconst (n := 1) (v := nI 1) (by decide +kernel) (by decide) ?_
      refine mV_iload_n (k := 3) (by decide +kernel) rfl ?_
      refine mV_ishl (by decide +kernel) ?_
      refine mV_ior (by decide +kernel) ?_
      refine mV_istore_n (k := 2) (ls' := [some (.ref 226), some (.int v1), some (.int (v2 ||| ((nI 1) <<< (v3 &&& 31)))), some (.int v3), some (.int v4), some (.int v5)]) (by decide +kernel) (Nat.le_of_ble_eq_true rfl) rfl rfl ?_
      refine mV_iincc (i := 3) (n := 1) (c := nI 1) (ls' := [some (.ref 226), some (.int v1), some (.int (v2 ||| ((nI 1) <<< (v3 &&& 31)))), some (.int (v3 + (nI 1))), some (.int v4), some (.int v5)]) (by decide +kernel) (by decide) rfl (Nat.le_of_ble_eq_true rfl) rfl rfl ?_
      refine mV_goto (off := -70) (tgt := 32) (by decide +kernel) (by decide) ?_
      refine mV_fg [4, 5] (ls' := [some (.ref 226), some (.int v1), some (.int (v2 ||| ((nI 1) <<< (v3 &&& 31)))), some (.int (v3 + (nI 1))), none, none]) rfl ?_
      exact h
  · replace h := h.2 hc
    refine mV_iload (i := 4) (by decide +kernel) rfl ?_
    refine mV_if_eq (off := 33) (tgt := 88) (by decide +kernel) (by decide) (fun hc => ?_) (fun hc => ?_)
    · replace h := h.1 hc
      refine mV_iload (i := 4) (by decide +kernel) rfl ?_
      refine mV_if_eq (off := 9) (tgt := 99) (by decide +kernel) (by decide) (fun hc => ?_) (fun hc => ?_)
      · replace h := h.1 hc
        refine mV_iincc (i := 3) (n := 1) (c := nI 1) (ls' := [some (.ref 226), some (.int v1), some (.int v2), some (.int (v3 + (nI 1))), some (.int v4), some (.int v5)]) (by decide +kernel) (by decide) rfl (Nat.le_of_ble_eq_true rfl) rfl rfl ?_
        refine mV_goto (off := -70) (tgt := 32) (by decide +kernel) (by decide) ?_
        refine mV_fg [4, 5] (ls' := [some (.ref 226), some (.int v1), some (.int v2), some (.int (v3 + (nI 1))), none, none]) rfl ?_
        exact h
      · replace h := h.2 hc
        refine mV_iload_n (k := 2) (by decide +kernel) rfl ?_
        refine mV_iconst (n := 1) (v := nI 1) (by decide +kernel) (by decide) ?_
        refine mV_iload_n (k := 3) (by decide +kernel) rfl ?_
        refine mV_ishl (by decide +kernel) ?_
        refine mV_ior (by decide +kernel) ?_
        refine mV_istore_n (k := 2) (ls' := [some (.ref 226), some (.int v1), some (.int (v2 ||| ((nI 1) <<< (v3 &&& 31)))), some (.int v3), some (.int v4), some (.int v5)]) (by decide +kernel) (Nat.le_of_ble_eq_true rfl) rfl rfl ?_
        refine mV_iincc (i := 3) (n := 1) (c := nI 1) (ls' := [some (.ref 226), some (.int v1), some (.int (v2 ||| ((nI 1) <<< (v3 &&& 31)))), some (.int (v3 + (nI 1))), some (.int v4), some (.int v5)]) (by decide +kernel) (by decide) rfl (Nat.le_of_ble_eq_true rfl) rfl rfl ?_
        refine mV_goto (off := -70) (tgt := 32) (by decide +kernel) (by decide) ?_
        refine mV_fg [4, 5] (ls' := [some (.ref 226), some (.int v1), some (.int (v2 ||| ((nI 1) <<< (v3 &&& 31)))), some (.int (v3 + (nI 1))), none, none]) rfl ?_
        exact h
    · replace h := h.2 hc
      refine mV_aload_n (k := 0) (by decide +kernel) rfl ?_
      refine mV_iload_n (k := 1) (by decide +kernel) rfl ?_
      refine mV_iload_n (k := 3) (by decide +kernel) rfl ?_
      refine mV_iload (i := 5) (by decide +kernel) rfl ?_
      refine mV_iload_n (k := 3) (by decide +kernel) rfl ?_
      refine mV_ishl (by decide +kernel) ?_
      refine mV_cV (as := [.int v1, .int v3, .int (v5 <<< (v3 &&& 31))]) (rest := []) (mc1 := 0) (ms1 := 0) (mc := 0) (ms := 0) (by decide +kernel) md_X13_takesTwice lk_13_438 sh_226 rfl rfl rfl (Nat.le_of_ble_eq_true rfl) (mC.mono (mm_contV (fun G2 hK => ?_)) h)
      replace h := hK
      refine mV_aload_n (k := 0) (by decide +kernel) rfl ?_
      refine mV_cV (as := []) (rest := []) (mc1 := 0) (ms1 := 0) (mc := 0) (ms := 0) (by decide +kernel) md_X13_unlike lk_13_396 sh_226 rfl rfl rfl (Nat.le_of_ble_eq_true rfl) (mC.mono (mm_contI (fun r3 G4 hK => ?_)) h)
      replace h := hK
      refine mV_if_ge (off := 7) (tgt := 79) (by decide +kernel) (by decide) (fun hc => ?_) (fun hc => ?_)
      · replace h := h.1 hc
        refine mV_iconst (n := 0) (v := nI 0) (by decide +kernel) (by decide) ?_
        refine mV_istore (i := 4) (ls' := [some (.ref 226), some (.int v1), some (.int v2), some (.int v3), some (.int (nI 0)), some (.int v5)]) (by decide +kernel) (Nat.le_of_ble_eq_true rfl) rfl rfl ?_
        refine mV_iincc (i := 5) (n := 1) (c := nI 1) (ls' := [some (.ref 226), some (.int v1), some (.int v2), some (.int v3), some (.int (nI 0)), some (.int (v5 + (nI 1)))]) (by decide +kernel) (by decide) rfl (Nat.le_of_ble_eq_true rfl) rfl rfl ?_
        refine mV_goto (off := -38) (tgt := 47) (by decide +kernel) (by decide) ?_
        exact h
      · replace h := h.2 hc
        refine mV_iconst (n := 1) (v := nI 1) (by decide +kernel) (by decide) ?_
        refine mV_goto (off := 4) (tgt := 80) (by decide +kernel) (by decide) ?_
        refine mV_istore (i := 4) (ls' := [some (.ref 226), some (.int v1), some (.int v2), some (.int v3), some (.int (nI 1)), some (.int v5)]) (by decide +kernel) (Nat.le_of_ble_eq_true rfl) rfl rfl ?_
        refine mV_iincc (i := 5) (n := 1) (c := nI 1) (ls' := [some (.ref 226), some (.int v1), some (.int v2), some (.int v3), some (.int (nI 1)), some (.int (v5 + (nI 1)))]) (by decide +kernel) (by decide) rfl (Nat.le_of_ble_eq_true rfl) rfl rfl ?_
        refine mV_goto (off := -38) (tgt := 47) (by decide +kernel) (by decide) ?_
        exact h
set_option maxRecDepth 100000 in
set_option maxHeartbeats 4000000 in
theorem e_X13_reached {l : Launch} {κ : mm_K} {d : Nat} {G : mm_G} {K : Int32 → mm_G → Prop} (a1 : Int32) (h : mC l κ true (d + 4) 0 0 m_X13_isRow [.ref 226, .int a1] G (rI (fun r1 G2 => ((¬ r1 = 0 → mC l κ true (d + 4) 0 0 m_X13_takesRow [.ref 226, .int a1, .int (nI 0)] G2 (rV (fun G4 => mV l κ true (d + 5) 0 0 m_X13_reached 20 [some (.ref 226), some (.int a1), some (.int (nI 0)), some (.int (nI 0)), none] [] G4 (rI K)))) ∧ (r1 = 0 → K (-1) G2))))) : mC l κ true (d + 5) 0 0 m_X13_reached [.ref 226, .int a1] G (rI K) := by
  refine mC.of (by decide) (Nat.le_of_ble_eq_true rfl) [some (.ref 226), some (.int a1), none, none, none] rfl ?_
  refine mV_aload_n (k := 0) (by decide +kernel) rfl ?_
  refine mV_iload_n (k := 1) (by decide +kernel) rfl ?_
  refine mV_cV (as := [.int a1]) (rest := []) (mc1 := 0) (ms1 := 0) (mc := 0) (ms := 0) (by decide +kernel) md_X13_isRow lk_13_403 sh_226 rfl rfl rfl (Nat.le_of_ble_eq_true rfl) (mC.mono (mm_contI (fun r1 G2 hK => ?_)) h)
  replace h := hK
  refine mV_if_ne (off := 5) (tgt := 10) (by decide +kernel) (by decide) (fun hc => ?_) (fun hc => ?_)
  · replace h := h.1 hc
    refine mV_iconst (n := 0) (v := nI 0) (by decide +kernel) (by decide) ?_
    refine mV_istore_n (k := 2) (ls' := [some (.ref 226), some (.int a1), some (.int (nI 0)), none, none]) (by decide +kernel) (Nat.le_of_ble_eq_true rfl) rfl rfl ?_
    refine mV_aload_n (k := 0) (by decide +kernel) rfl ?_
    refine mV_iload_n (k := 1) (by decide +kernel) rfl ?_
    refine mV_iconst (n := 0) (v := nI 0) (by decide +kernel) (by decide) ?_
    refine mV_cV (as := [.int a1, .int (nI 0)]) (rest := []) (mc1 := 0) (ms1 := 0) (mc := 0) (ms := 0) (by decide +kernel) md_X13_takesRow lk_13_387 sh_226 rfl rfl rfl (Nat.le_of_ble_eq_true rfl) (mC.mono (mm_contV (fun G4 hK => ?_)) h)
    replace h := hK
    refine mV_iconst (n := 0) (v := nI 0) (by decide +kernel) (by decide) ?_
    refine mV_istore_n (k := 3) (ls' := [some (.ref 226), some (.int a1), some (.int (nI 0)), some (.int (nI 0)), none]) (by decide +kernel) (Nat.le_of_ble_eq_true rfl) rfl rfl ?_
    exact h
  · replace h := h.2 hc
    refine mV_iconst (n := -1) (v := (-1)) (by decide +kernel) (by decide) ?_
    exact mV_iret (by decide +kernel) rfl h
set_option maxRecDepth 100000 in
set_option maxHeartbeats 4000000 in
theorem p_X13_reached_20 {l : Launch} {κ : mm_K} {d : Nat} {G : mm_G} {K : Int32 → mm_G → Prop} (v1 : Int32) (v2 : Int32) (v3 : Int32) (h : vp_in (mg_i G 226 18) 2 ∧ (((mg_i G 249 ((mg_i G 226 18).toNatClampNeg)) ≤ v3 → K v2 G) ∧ (¬ (mg_i G 249 ((mg_i G 226 18).toNatClampNeg)) ≤ v3 → mC l κ true (d + 4) 0 0 m_X13_runs [.ref 226, .int v3] G (rV (fun G2 => mV l κ true (d + 5) 0 0 m_X13_reached 41 [some (.ref 226), some (.int v1), some (.int v2), some (.int v3), some (.int (nI 0))] [] G2 (rI K)))))) : mV l κ true (d + 5) 0 0 m_X13_reached 20 [some (.ref 226), some (.int v1), some (.int v2), some (.int v3), none] [] G (rI K) := by
  refine mV_iload_n (k := 3) (by decide +kernel) rfl ?_
  refine mV_aload_n (k := 0) (by decide +kernel) rfl ?_
  refine mV_gfr (r := some 249) (by decide +kernel) fk_13_85 sh_226 (mm_rrs st_226_35) rfl ?_
  refine mV_aload_n (k := 0) (by decide +kernel) rfl ?_
  refine mV_gfix (x := mg_i G 226 18) (by decide +kernel) fk_13_266 sh_226 rfl ?_
  refine mV_ialx (x := mg_i G 249 ((mg_i G 226 18).toNatClampNeg)) (by decide +kernel) sh_249 h.1 rfl ?_
  replace h := h.2
  refine mV_icmp_ge (off := 61) (tgt := 91) (by decide +kernel) (by decide) (fun hc => ?_) (fun hc => ?_)
  · replace h := h.1 hc
    refine mV_iload_n (k := 2) (by decide +kernel) rfl ?_
    exact mV_iret (by decide +kernel) rfl h
  · replace h := h.2 hc
    refine mV_aload_n (k := 0) (by decide +kernel) rfl ?_
    refine mV_iload_n (k := 3) (by decide +kernel) rfl ?_
    refine mV_cV (as := [.int v3]) (rest := []) (mc1 := 0) (ms1 := 0) (mc := 0) (ms := 0) (by decide +kernel) md_X13_runs lk_13_390 sh_226 rfl rfl rfl (Nat.le_of_ble_eq_true rfl) (mC.mono (mm_contV (fun G2 hK => ?_)) h)
    replace h := hK
    refine mV_iconst (n := 0) (v := nI 0) (by decide +kernel) (by decide) ?_
    refine mV_istore (i := 4) (ls' := [some (.ref 226), some (.int v1), some (.int v2), some (.int v3), some (.int (nI 0))]) (by decide +kernel) (Nat.le_of_ble_eq_true rfl) rfl rfl ?_
    exact h
set_option maxRecDepth 100000 in
set_option maxHeartbeats 4000000 in
theorem p_X13_reached_41 {l : Launch} {κ : mm_K} {d : Nat} {G : mm_G} {K : Int32 → mm_G → Prop} (v1 : Int32) (v2 : Int32) (v3 : Int32) (v4 : Int32) (h : (((mg_i G 226 53) ≤ v4 → mV l κ true (d + 5) 0 0 m_X13_reached 20 [some (.ref 226), some (.int v1), some (.int v2), some (.int (v3 + (nI 1))), none] [] G (rI K)) ∧ (¬ (mg_i G 226 53) ≤ v4 → vp_in v4 301 ∧ (¬ (nI 20) = 0) ∧ ((¬ ((mg_i G 259 v4.toNatClampNeg) / (nI 20)) = v1 → mV l κ true (d + 5) 0 0 m_X13_reached 41 [some (.ref 226), some (.int v1), some (.int v2), some (.int v3), some (.int (v4 + (nI 1)))] [] G (rI K)) ∧ (((mg_i G 259 v4.toNatClampNeg) / (nI 20)) = v1 → vp_in v4 301 ∧ (¬ (nI 20) = 0) ∧ mV l κ true (d + 5) 0 0 m_X13_reached 41 [some (.ref 226), some (.int v1), some (.int (v2 ||| ((nI 1) <<< (((mg_i G 259 v4.toNatClampNeg) - (mg_i G 259 v4.toNatClampNeg) / (nI 20) * (nI 20)) &&& 31)))), some (.int v3), some (.int (v4 + (nI 1)))] [] G (rI K)))))) : mV l κ true (d + 5) 0 0 m_X13_reached 41 [some (.ref 226), some (.int v1), some (.int v2), some (.int v3), some (.int v4)] [] G (rI K) := by
  refine mV_iload (i := 4) (by decide +kernel) rfl ?_
  refine mV_aload_n (k := 0) (by decide +kernel) rfl ?_
  refine mV_gfix (x := mg_i G 226 53) (by decide +kernel) fk_13_371 sh_226 rfl ?_
  refine mV_icmp_ge (off := 38) (tgt := 85) (by decide +kernel) (by decide) (fun hc => ?_) (fun hc => ?_)
  · replace h := h.1 hc
    refine mV_iincc (i := 3) (n := 1) (c := nI 1) (ls' := [some (.ref 226), some (.int v1), some (.int v2), some (.int (v3 + (nI 1))), some (.int v4)]) (by decide +kernel) (by decide) rfl (Nat.le_of_ble_eq_true rfl) rfl rfl ?_
    refine mV_goto (off := -68) (tgt := 20) (by decide +kernel) (by decide) ?_
    refine mV_fg [4] (ls' := [some (.ref 226), some (.int v1), some (.int v2), some (.int (v3 + (nI 1))), none]) rfl ?_
    exact h
  · replace h := h.2 hc
    refine mV_aload_n (k := 0) (by decide +kernel) rfl ?_
    refine mV_gfr (r := some 259) (by decide +kernel) fk_13_115 sh_226 (mm_rrs st_226_54) rfl ?_
    refine mV_iload (i := 4) (by decide +kernel) rfl ?_
    refine mV_ialx (x := mg_i G 259 v4.toNatClampNeg) (by decide +kernel) sh_259 h.1 rfl ?_
    replace h := h.2
    refine mV_bipush (n := 20) (v := nI 20) (by decide +kernel) (by decide) ?_
    refine mV_idiv (by decide +kernel) h.1 ?_
    replace h := h.2
    refine mV_iload_n (k := 1) (by decide +kernel) rfl ?_
    refine mV_icmp_ne (off := 18) (tgt := 79) (by decide +kernel) (by decide) (fun hc => ?_) (fun hc => ?_)
    · replace h := h.1 hc
      refine mV_iincc (i := 4) (n := 1) (c := nI 1) (ls' := [some (.ref 226), some (.int v1), some (.int v2), some (.int v3), some (.int (v4 + (nI 1)))]) (by decide +kernel) (by decide) rfl (Nat.le_of_ble_eq_true rfl) rfl rfl ?_
      refine mV_goto (off := -41) (tgt := 41) (by decide +kernel) (by decide) ?_
      exact h
    · replace h := h.2 hc
      refine mV_iload_n (k := 2) (by decide +kernel) rfl ?_
      refine mV_iconst (n := 1) (v := nI 1) (by decide +kernel) (by decide) ?_
      refine mV_aload_n (k := 0) (by decide +kernel) rfl ?_
      refine mV_gfr (r := some 259) (by decide +kernel) fk_13_115 sh_226 (mm_rrs st_226_54) rfl ?_
      refine mV_iload (i := 4) (by decide +kernel) rfl ?_
      refine mV_ialx (x := mg_i G 259 v4.toNatClampNeg) (by decide +kernel) sh_259 h.1 rfl ?_
      replace h := h.2
      refine mV_bipush (n := 20) (v := nI 20) (by decide +kernel) (by decide) ?_
      refine mV_irem (by decide +kernel) h.1 ?_
      replace h := h.2
      refine mV_ishl (by decide +kernel) ?_
      refine mV_ior (by decide +kernel) ?_
      refine mV_istore_n (k := 2) (ls' := [some (.ref 226), some (.int v1), some (.int (v2 ||| ((nI 1) <<< (((mg_i G 259 v4.toNatClampNeg) - (mg_i G 259 v4.toNatClampNeg) / (nI 20) * (nI 20)) &&& 31)))), some (.int v3), some (.int v4)]) (by decide +kernel) (Nat.le_of_ble_eq_true rfl) rfl rfl ?_
      refine mV_iincc (i := 4) (n := 1) (c := nI 1) (ls' := [some (.ref 226), some (.int v1), some (.int (v2 ||| ((nI 1) <<< (((mg_i G 259 v4.toNatClampNeg) - (mg_i G 259 v4.toNatClampNeg) / (nI 20) * (nI 20)) &&& 31)))), some (.int v3), some (.int (v4 + (nI 1)))]) (by decide +kernel) (by decide) rfl (Nat.le_of_ble_eq_true rfl) rfl rfl ?_
      refine mV_goto (off := -41) (tgt := 41) (by decide +kernel) (by decide) ?_
      exact h
set_option maxRecDepth 100000 in
set_option maxHeartbeats 4000000 in
theorem e_X13_mixed {l : Launch} {κ : mm_K} {d : Nat} {G : mm_G} {K : Int32 → mm_G → Prop} (a1 : Int32) (a2 : Int32) (h : K ((((a1 ^^^ a2) * (nI 1103515245)) + (nI 12345)) ^^^ (((((a1 ^^^ a2) * (nI 1103515245)) + (nI 12345)).toUInt32 >>> ((nI 15).toUInt32 &&& Int32.toUInt32 31)).toInt32)) G) : mC l κ true d 0 0 m_X13_mixed [.int a1, .int a2] G (rI K) := by
  refine mC.of (by decide) (Nat.le_of_ble_eq_true rfl) [some (.int a1), some (.int a2), none] rfl ?_
  refine mV_iload_n (k := 0) (by decide +kernel) rfl ?_
  refine mV_iload_n (k := 1) (by decide +kernel) rfl ?_
  refine mV_ixor (by decide +kernel) ?_
  refine mV_ldcw (idx := 441) (v := nI 1103515245) (by decide +kernel) (mm_t8 148 (by decide +kernel)) ?_
  refine mV_imul (by decide +kernel) ?_
  refine mV_sipush (n := 12345) (v := nI 12345) (by decide +kernel) (by decide) ?_
  refine mV_iadd (by decide +kernel) ?_
  refine mV_istore_n (k := 2) (ls' := [some (.int a1), some (.int a2), some (.int (((a1 ^^^ a2) * (nI 1103515245)) + (nI 12345)))]) (by decide +kernel) (Nat.le_of_ble_eq_true rfl) rfl rfl ?_
  refine mV_iload_n (k := 2) (by decide +kernel) rfl ?_
  refine mV_iload_n (k := 2) (by decide +kernel) rfl ?_
  refine mV_bipush (n := 15) (v := nI 15) (by decide +kernel) (by decide) ?_
  refine mV_iushr (by decide +kernel) ?_
  refine mV_ixor (by decide +kernel) ?_
  exact mV_iret (by decide +kernel) rfl h
set_option maxRecDepth 100000 in
set_option maxHeartbeats 4000000 in
theorem e_X13_lot {l : Launch} {κ : mm_K} {d : Nat} {G : mm_G} {K : Int32 → mm_G → Prop} (a1 : Int32) (a2 : Int32) (a3 : Int32) (h : mC l κ true d 0 0 m_X13_mixed [.int a1, .int (nI 22)] G (rI (fun r1 G2 => mC l κ true d 0 0 m_X13_mixed [.int r1, .int a2] G2 (rI (fun r3 G4 => (¬ a3 = 0) ∧ K (((r3.toUInt32 >>> ((nI 1).toUInt32 &&& Int32.toUInt32 31)).toInt32) - ((r3.toUInt32 >>> ((nI 1).toUInt32 &&& Int32.toUInt32 31)).toInt32) / a3 * a3) G4))))) : mC l κ true (d + 1) 0 0 m_X13_lot [.int a1, .int a2, .int a3] G (rI K) := by
  refine mC.of (by decide) (Nat.le_of_ble_eq_true rfl) [some (.int a1), some (.int a2), some (.int a3)] rfl ?_
  refine mV_iload_n (k := 0) (by decide +kernel) rfl ?_
  refine mV_bipush (n := 22) (v := nI 22) (by decide +kernel) (by decide) ?_
  refine mV_cS (as := [.int a1, .int (nI 22)]) (rest := []) (mc1 := 0) (ms1 := 0) (mc := 0) (ms := 0) (by decide +kernel) md_X13_mixed lk_13_442 rfl rfl (Nat.le_of_ble_eq_true rfl) (mC.mono (mm_contI (fun r1 G2 hK => ?_)) h)
  replace h := hK
  refine mV_iload_n (k := 1) (by decide +kernel) rfl ?_
  refine mV_cS (as := [.int r1, .int a2]) (rest := []) (mc1 := 0) (ms1 := 0) (mc := 0) (ms := 0) (by decide +kernel) md_X13_mixed lk_13_442 rfl rfl (Nat.le_of_ble_eq_true rfl) (mC.mono (mm_contI (fun r3 G4 hK => ?_)) h)
  replace h := hK
  refine mV_iconst (n := 1) (v := nI 1) (by decide +kernel) (by decide) ?_
  refine mV_iushr (by decide +kernel) ?_
  refine mV_iload_n (k := 2) (by decide +kernel) rfl ?_
  refine mV_irem (by decide +kernel) h.1 ?_
  replace h := h.2
  exact mV_iret (by decide +kernel) rfl h
set_option maxRecDepth 100000 in
set_option maxHeartbeats 4000000 in
theorem e_X13_nextLost {l : Launch} {κ : mm_K} {d : Nat} {G : mm_G} {K : Int32 → mm_G → Prop} (a1 : Int32) (a2 : Int32) (a3 : Int32) (a4 : Int32) (h : mC l κ true (d + 1) 0 0 m_X13_linesOf [.ref 226, .int a1] G (rI (fun r1 G2 => mC l κ true (d + 1) 0 0 m_X13_bits [.int a2] G2 (rI (fun r3 G4 => ((¬ a3 = (nI 3) → mV l κ true (d + 2) 0 0 m_X13_nextLost 40 [some (.ref 226), some (.int a1), some (.int a2), some (.int a3), some (.int a4), some (.int (r1 - r3)), some (.int (nI 0)), some (.int (-1)), some (.int (nI 0))] [] G4 (rI K)) ∧ (a3 = (nI 3) → mC l κ true (d + 1) 0 0 m_X13_bits [.int a2] G4 (rI (fun r5 G6 => mC l κ true (d + 1) 0 0 m_X13_lot [.int a4, .int r5, .int (r1 - r3)] G6 (rI (fun r7 G8 => mV l κ true (d + 2) 0 0 m_X13_nextLost 40 [some (.ref 226), some (.int a1), some (.int a2), some (.int a3), some (.int a4), some (.int (r1 - r3)), some (.int r7), some (.int (-1)), some (.int (nI 0))] [] G8 (rI K)))))))))))) : mC l κ true (d + 2) 0 0 m_X13_nextLost [.ref 226, .int a1, .int a2, .int a3, .int a4] G (rI K) := by
  refine mC.of (by decide) (Nat.le_of_ble_eq_true rfl) [some (.ref 226), some (.int a1), some (.int a2), some (.int a3), some (.int a4), none, none, none, none] rfl ?_
  refine mV_aload_n (k := 0) (by decide +kernel) rfl ?_
  refine mV_iload_n (k := 1) (by decide +kernel) rfl ?_
  refine mV_cV (as := [.int a1]) (rest := []) (mc1 := 0) (ms1 := 0) (mc := 0) (ms := 0) (by decide +kernel) md_X13_linesOf lk_13_337 sh_226 rfl rfl rfl (Nat.le_of_ble_eq_true rfl) (mC.mono (mm_contI (fun r1 G2 hK => ?_)) h)
  replace h := hK
  refine mV_iload_n (k := 2) (by decide +kernel) rfl ?_
  refine mV_cS (as := [.int a2]) (rest := [.int r1]) (mc1 := 0) (ms1 := 0) (mc := 0) (ms := 0) (by decide +kernel) md_X13_bits lk_13_426 rfl rfl (Nat.le_of_ble_eq_true rfl) (mC.mono (mm_contI (fun r3 G4 hK => ?_)) h)
  replace h := hK
  refine mV_isub (by decide +kernel) ?_
  refine mV_istore (i := 5) (ls' := [some (.ref 226), some (.int a1), some (.int a2), some (.int a3), some (.int a4), some (.int (r1 - r3)), none, none, none]) (by decide +kernel) (Nat.le_of_ble_eq_true rfl) rfl rfl ?_
  refine mV_iload_n (k := 3) (by decide +kernel) rfl ?_
  refine mV_iconst (n := 3) (v := nI 3) (by decide +kernel) (by decide) ?_
  refine mV_icmp_ne (off := 17) (tgt := 31) (by decide +kernel) (by decide) (fun hc => ?_) (fun hc => ?_)
  · replace h := h.1 hc
    refine mV_iconst (n := 0) (v := nI 0) (by decide +kernel) (by decide) ?_
    refine mV_istore (i := 6) (ls' := [some (.ref 226), some (.int a1), some (.int a2), some (.int a3), some (.int a4), some (.int (r1 - r3)), some (.int (nI 0)), none, none]) (by decide +kernel) (Nat.le_of_ble_eq_true rfl) rfl rfl ?_
    refine mV_iconst (n := -1) (v := (-1)) (by decide +kernel) (by decide) ?_
    refine mV_istore (i := 7) (ls' := [some (.ref 226), some (.int a1), some (.int a2), some (.int a3), some (.int a4), some (.int (r1 - r3)), some (.int (nI 0)), some (.int (-1)), none]) (by decide +kernel) (Nat.le_of_ble_eq_true rfl) rfl rfl ?_
    refine mV_iconst (n := 0) (v := nI 0) (by decide +kernel) (by decide) ?_
    refine mV_istore (i := 8) (ls' := [some (.ref 226), some (.int a1), some (.int a2), some (.int a3), some (.int a4), some (.int (r1 - r3)), some (.int (nI 0)), some (.int (-1)), some (.int (nI 0))]) (by decide +kernel) (Nat.le_of_ble_eq_true rfl) rfl rfl ?_
    exact h
  · replace h := h.2 hc
    refine mV_iload (i := 4) (by decide +kernel) rfl ?_
    refine mV_iload_n (k := 2) (by decide +kernel) rfl ?_
    refine mV_cS (as := [.int a2]) (rest := [.int a4]) (mc1 := 0) (ms1 := 0) (mc := 0) (ms := 0) (by decide +kernel) md_X13_bits lk_13_426 rfl rfl (Nat.le_of_ble_eq_true rfl) (mC.mono (mm_contI (fun r5 G6 hK => ?_)) h)
    replace h := hK
    refine mV_iload (i := 5) (by decide +kernel) rfl ?_
    refine mV_cS (as := [.int a4, .int r5, .int (r1 - r3)]) (rest := []) (mc1 := 0) (ms1 := 0) (mc := 0) (ms := 0) (by decide +kernel) md_X13_lot lk_13_445 rfl rfl (Nat.le_of_ble_eq_true rfl) (mC.mono (mm_contI (fun r7 G8 hK => ?_)) h)
    replace h := hK
    refine mV_goto (off := 4) (tgt := 32) (by decide +kernel) (by decide) ?_
    refine mV_istore (i := 6) (ls' := [some (.ref 226), some (.int a1), some (.int a2), some (.int a3), some (.int a4), some (.int (r1 - r3)), some (.int r7), none, none]) (by decide +kernel) (Nat.le_of_ble_eq_true rfl) rfl rfl ?_
    refine mV_iconst (n := -1) (v := (-1)) (by decide +kernel) (by decide) ?_
    refine mV_istore (i := 7) (ls' := [some (.ref 226), some (.int a1), some (.int a2), some (.int a3), some (.int a4), some (.int (r1 - r3)), some (.int r7), some (.int (-1)), none]) (by decide +kernel) (Nat.le_of_ble_eq_true rfl) rfl rfl ?_
    refine mV_iconst (n := 0) (v := nI 0) (by decide +kernel) (by decide) ?_
    refine mV_istore (i := 8) (ls' := [some (.ref 226), some (.int a1), some (.int a2), some (.int a3), some (.int a4), some (.int (r1 - r3)), some (.int r7), some (.int (-1)), some (.int (nI 0))]) (by decide +kernel) (Nat.le_of_ble_eq_true rfl) rfl rfl ?_
    exact h
set_option maxRecDepth 100000 in
set_option maxHeartbeats 4000000 in
theorem p_X13_nextLost_40 {l : Launch} {κ : mm_K} {d : Nat} {G : mm_G} {K : Int32 → mm_G → Prop} (v1 : Int32) (v2 : Int32) (v3 : Int32) (v4 : Int32) (v5 : Int32) (v6 : Int32) (v7 : Int32) (v8 : Int32) (h : mC l κ true (d + 1) 0 0 m_X13_linesOf [.ref 226, .int v1] G (rI (fun r1 G2 => ((r1 ≤ v8 → K v7 G2) ∧ (¬ r1 ≤ v8 → ((¬ ((v2 >>> (v8 &&& 31)) &&& (nI 1)) = (nI 1) → ((¬ v3 = (nI 3) → ((v7 = (-1) → mV l κ true (d + 2) 0 0 m_X13_nextLost 40 [some (.ref 226), some (.int v1), some (.int v2), some (.int v3), some (.int v4), some (.int v5), some (.int v6), some (.int v8), some (.int (v8 + (nI 1)))] [] G2 (rI K)) ∧ (¬ v7 = (-1) → ((v3 = 0 → mV l κ true (d + 2) 0 0 m_X13_nextLost 40 [some (.ref 226), some (.int v1), some (.int v2), some (.int v3), some (.int v4), some (.int v5), some (.int v6), some (.int v8), some (.int (v8 + (nI 1)))] [] G2 (rI K)) ∧ (¬ v3 = 0 → ((¬ v3 = (nI 2) → mV l κ true (d + 2) 0 0 m_X13_nextLost 40 [some (.ref 226), some (.int v1), some (.int v2), some (.int v3), some (.int v4), some (.int v5), some (.int v6), some (.int v7), some (.int (v8 + (nI 1)))] [] G2 (rI K)) ∧ (v3 = (nI 2) → mC l κ true (d + 1) 0 0 m_X13_lineAt [.ref 226, .int v1, .int v8] G2 (rI (fun r3 G4 => vp_in r3 320 ∧ mC l κ true (d + 1) 0 0 m_X13_lineAt [.ref 226, .int v1, .int v7] G4 (rI (fun r5 G6 => vp_in r5 320 ∧ (((mg_i G4 245 r3.toNatClampNeg) ≤ (mg_i G6 245 r5.toNatClampNeg) → mV l κ true (d + 2) 0 0 m_X13_nextLost 40 [some (.ref 226), some (.int v1), some (.int v2), some (.int v3), some (.int v4), some (.int v5), some (.int v6), some (.int v7), some (.int (v8 + (nI 1)))] [] G6 (rI K)) ∧ (¬ (mg_i G4 245 r3.toNatClampNeg) ≤ (mg_i G6 245 r5.toNatClampNeg) → mV l κ true (d + 2) 0 0 m_X13_nextLost 40 [some (.ref 226), some (.int v1), some (.int v2), some (.int v3), some (.int v4), some (.int v5), some (.int v6), some (.int v8), some (.int (v8 + (nI 1)))] [] G6 (rI K)))))))))))))) ∧ (v3 = (nI 3) → ((¬ v6 = 0 → mV l κ true (d + 2) 0 0 m_X13_nextLost 40 [some (.ref 226), some (.int v1), some (.int v2), some (.int v3), some (.int v4), some (.int v5), some (.int (v6 + (-1))), some (.int v7), some (.int (v8 + (nI 1)))] [] G2 (rI K)) ∧ (v6 = 0 → K v8 G2))))) ∧ (((v2 >>> (v8 &&& 31)) &&& (nI 1)) = (nI 1) → mV l κ true (d + 2) 0 0 m_X13_nextLost 40 [some (.ref 226), some (.int v1), some (.int v2), some (.int v3), some (.int v4), some (.int v5), some (.int v6), some (.int v7), some (.int (v8 + (nI 1)))] [] G2 (rI K)))))))) : mV l κ true (d + 2) 0 0 m_X13_nextLost 40 [some (.ref 226), some (.int v1), some (.int v2), some (.int v3), some (.int v4), some (.int v5), some (.int v6), some (.int v7), some (.int v8)] [] G (rI K) := by
  refine mV_iload (i := 8) (by decide +kernel) rfl ?_
  refine mV_aload_n (k := 0) (by decide +kernel) rfl ?_
  refine mV_iload_n (k := 1) (by decide +kernel) rfl ?_
  refine mV_cV (as := [.int v1]) (rest := [.int v8]) (mc1 := 0) (ms1 := 0) (mc := 0) (ms := 0) (by decide +kernel) md_X13_linesOf lk_13_337 sh_226 rfl rfl rfl (Nat.le_of_ble_eq_true rfl) (mC.mono (mm_contI (fun r1 G2 hK => ?_)) h)
  replace h := hK
  refine mV_icmp_ge (off := 87) (tgt := 134) (by decide +kernel) (by decide) (fun hc => ?_) (fun hc => ?_)
  · replace h := h.1 hc
    refine mV_iload (i := 7) (by decide +kernel) rfl ?_
    exact mV_iret (by decide +kernel) rfl h
  · replace h := h.2 hc
    refine mV_iload_n (k := 2) (by decide +kernel) rfl ?_
    refine mV_iload (i := 8) (by decide +kernel) rfl ?_
    refine mV_ishr (by decide +kernel) ?_
    refine mV_iconst (n := 1) (v := nI 1) (by decide +kernel) (by decide) ?_
    refine mV_iand (by decide +kernel) ?_
    refine mV_iconst (n := 1) (v := nI 1) (by decide +kernel) (by decide) ?_
    refine mV_icmp_ne (off := 6) (tgt := 63) (by decide +kernel) (by decide) (fun hc => ?_) (fun hc => ?_)
    · replace h := h.1 hc
      refine mV_iload_n (k := 3) (by decide +kernel) rfl ?_
      refine mV_iconst (n := 3) (v := nI 3) (by decide +kernel) (by decide) ?_
      refine mV_icmp_ne (off := 17) (tgt := 82) (by decide +kernel) (by decide) (fun hc => ?_) (fun hc => ?_)
      · replace h := h.1 hc
        refine mV_iload (i := 7) (by decide +kernel) rfl ?_
        refine mV_iconst (n := -1) (v := (-1)) (by decide +kernel) (by decide) ?_
        refine mV_icmp_eq (off := 39) (tgt := 124) (by decide +kernel) (by decide) (fun hc => ?_) (fun hc => ?_)
        · replace h := h.1 hc
          refine mV_iload (i := 8) (by decide +kernel) rfl ?_
          refine mV_istore (i := 7) (ls' := [some (.ref 226), some (.int v1), some (.int v2), some (.int v3), some (.int v4), some (.int v5), some (.int v6), some (.int v8), some (.int v8)]) (by decide +kernel) (Nat.le_of_ble_eq_true rfl) rfl rfl ?_
          refine mV_iincc (i := 8) (n := 1) (c := nI 1) (ls' := [some (.ref 226), some (.int v1), some (.int v2), some (.int v3), some (.int v4), some (.int v5), some (.int v6), some (.int v8), some (.int (v8 + (nI 1)))]) (by decide +kernel) (by decide) rfl (Nat.le_of_ble_eq_true rfl) rfl rfl ?_
          refine mV_goto (off := -91) (tgt := 40) (by decide +kernel) (by decide) ?_
          exact h
        · replace h := h.2 hc
          refine mV_iload_n (k := 3) (by decide +kernel) rfl ?_
          refine mV_if_eq (off := 35) (tgt := 124) (by decide +kernel) (by decide) (fun hc => ?_) (fun hc => ?_)
          · replace h := h.1 hc
            refine mV_iload (i := 8) (by decide +kernel) rfl ?_
            refine mV_istore (i := 7) (ls' := [some (.ref 226), some (.int v1), some (.int v2), some (.int v3), some (.int v4), some (.int v5), some (.int v6), some (.int v8), some (.int v8)]) (by decide +kernel) (Nat.le_of_ble_eq_true rfl) rfl rfl ?_
            refine mV_iincc (i := 8) (n := 1) (c := nI 1) (ls' := [some (.ref 226), some (.int v1), some (.int v2), some (.int v3), some (.int v4), some (.int v5), some (.int v6), some (.int v8), some (.int (v8 + (nI 1)))]) (by decide +kernel) (by decide) rfl (Nat.le_of_ble_eq_true rfl) rfl rfl ?_
            refine mV_goto (off := -91) (tgt := 40) (by decide +kernel) (by decide) ?_
            exact h
          · replace h := h.2 hc
            refine mV_iload_n (k := 3) (by decide +kernel) rfl ?_
            refine mV_iconst (n := 2) (v := nI 2) (by decide +kernel) (by decide) ?_
            refine mV_icmp_ne (off := 34) (tgt := 128) (by decide +kernel) (by decide) (fun hc => ?_) (fun hc => ?_)
            · replace h := h.1 hc
              refine mV_iincc (i := 8) (n := 1) (c := nI 1) (ls' := [some (.ref 226), some (.int v1), some (.int v2), some (.int v3), some (.int v4), some (.int v5), some (.int v6), some (.int v7), some (.int (v8 + (nI 1)))]) (by decide +kernel) (by decide) rfl (Nat.le_of_ble_eq_true rfl) rfl rfl ?_
              refine mV_goto (off := -91) (tgt := 40) (by decide +kernel) (by decide) ?_
              exact h
            · replace h := h.2 hc
              refine mV_aload_n (k := 0) (by decide +kernel) rfl ?_
              refine mV_gfr (r := some 245) (by decide +kernel) fk_13_73 sh_226 (mm_rrs st_226_31) rfl ?_
              refine mV_aload_n (k := 0) (by decide +kernel) rfl ?_
              refine mV_iload_n (k := 1) (by decide +kernel) rfl ?_
              refine mV_iload (i := 8) (by decide +kernel) rfl ?_
              refine mV_cV (as := [.int v1, .int v8]) (rest := [.ref 245]) (mc1 := 0) (ms1 := 0) (mc := 0) (ms := 0) (by decide +kernel) md_X13_lineAt lk_13_346 sh_226 rfl rfl rfl (Nat.le_of_ble_eq_true rfl) (mC.mono (mm_contI (fun r3 G4 hK => ?_)) h)
              replace h := hK
              refine mV_ialx (x := mg_i G4 245 r3.toNatClampNeg) (by decide +kernel) sh_245 h.1 rfl ?_
              replace h := h.2
              refine mV_aload_n (k := 0) (by decide +kernel) rfl ?_
              refine mV_gfr (r := some 245) (by decide +kernel) fk_13_73 sh_226 (mm_rrs st_226_31) rfl ?_
              refine mV_aload_n (k := 0) (by decide +kernel) rfl ?_
              refine mV_iload_n (k := 1) (by decide +kernel) rfl ?_
              refine mV_iload (i := 7) (by decide +kernel) rfl ?_
              refine mV_cV (as := [.int v1, .int v7]) (rest := [.ref 245, .int (mg_i G4 245 r3.toNatClampNeg)]) (mc1 := 0) (ms1 := 0) (mc := 0) (ms := 0) (by decide +kernel) md_X13_lineAt lk_13_346 sh_226 rfl rfl rfl (Nat.le_of_ble_eq_true rfl) (mC.mono (mm_contI (fun r5 G6 hK => ?_)) h)
              replace h := hK
              refine mV_ialx (x := mg_i G6 245 r5.toNatClampNeg) (by decide +kernel) sh_245 h.1 rfl ?_
              replace h := h.2
              refine mV_icmp_le (off := 7) (tgt := 128) (by decide +kernel) (by decide) (fun hc => ?_) (fun hc => ?_)
              · replace h := h.1 hc
                refine mV_iincc (i := 8) (n := 1) (c := nI 1) (ls' := [some (.ref 226), some (.int v1), some (.int v2), some (.int v3), some (.int v4), some (.int v5), some (.int v6), some (.int v7), some (.int (v8 + (nI 1)))]) (by decide +kernel) (by decide) rfl (Nat.le_of_ble_eq_true rfl) rfl rfl ?_
                refine mV_goto (off := -91) (tgt := 40) (by decide +kernel) (by decide) ?_
                exact h
              · replace h := h.2 hc
                refine mV_iload (i := 8) (by decide +kernel) rfl ?_
                refine mV_istore (i := 7) (ls' := [some (.ref 226), some (.int v1), some (.int v2), some (.int v3), some (.int v4), some (.int v5), some (.int v6), some (.int v8), some (.int v8)]) (by decide +kernel) (Nat.le_of_ble_eq_true rfl) rfl rfl ?_
                refine mV_iincc (i := 8) (n := 1) (c := nI 1) (ls' := [some (.ref 226), some (.int v1), some (.int v2), some (.int v3), some (.int v4), some (.int v5), some (.int v6), some (.int v8), some (.int (v8 + (nI 1)))]) (by decide +kernel) (by decide) rfl (Nat.le_of_ble_eq_true rfl) rfl rfl ?_
                refine mV_goto (off := -91) (tgt := 40) (by decide +kernel) (by decide) ?_
                exact h
      · replace h := h.2 hc
        refine mV_iload (i := 6) (by decide +kernel) rfl ?_
        refine mV_if_ne (off := 6) (tgt := 76) (by decide +kernel) (by decide) (fun hc => ?_) (fun hc => ?_)
        · replace h := h.1 hc
          refine mV_iincc (i := 6) (n := -1) (c := (-1)) (ls' := [some (.ref 226), some (.int v1), some (.int v2), some (.int v3), some (.int v4), some (.int v5), some (.int (v6 + (-1))), some (.int v7), some (.int v8)]) (by decide +kernel) (by decide) rfl (Nat.le_of_ble_eq_true rfl) rfl rfl ?_
          refine mV_goto (off := 49) (tgt := 128) (by decide +kernel) (by decide) ?_
          refine mV_iincc (i := 8) (n := 1) (c := nI 1) (ls' := [some (.ref 226), some (.int v1), some (.int v2), some (.int v3), some (.int v4), some (.int v5), some (.int (v6 + (-1))), some (.int v7), some (.int (v8 + (nI 1)))]) (by decide +kernel) (by decide) rfl (Nat.le_of_ble_eq_true rfl) rfl rfl ?_
          refine mV_goto (off := -91) (tgt := 40) (by decide +kernel) (by decide) ?_
          exact h
        · replace h := h.2 hc
          refine mV_iload (i := 8) (by decide +kernel) rfl ?_
          exact mV_iret (by decide +kernel) rfl h
    · replace h := h.2 hc
      refine mV_goto (off := 68) (tgt := 128) (by decide +kernel) (by decide) ?_
      refine mV_iincc (i := 8) (n := 1) (c := nI 1) (ls' := [some (.ref 226), some (.int v1), some (.int v2), some (.int v3), some (.int v4), some (.int v5), some (.int v6), some (.int v7), some (.int (v8 + (nI 1)))]) (by decide +kernel) (by decide) rfl (Nat.le_of_ble_eq_true rfl) rfl rfl ?_
      refine mV_goto (off := -91) (tgt := 40) (by decide +kernel) (by decide) ?_
      exact h
set_option maxRecDepth 100000 in
set_option maxHeartbeats 4000000 in
theorem e_X13_life {l : Launch} {κ : mm_K} {d : Nat} {G : mm_G} {K : Int32 → mm_G → Prop} (a1 : Int32) (a2 : Int32) (a3 : Int32) (h : mC l κ true (d + 6) 0 0 m_X13_isRow [.ref 226, .int a1] G (rI (fun r1 G2 => ((r1 = 0 → K (-1) G2) ∧ (¬ r1 = 0 → mC l κ true (d + 6) 0 0 m_X13_in [.int a2, .int (nI 0), .int (nI 3)] G2 (rI (fun r3 G4 => ((¬ r3 = 0 → mC l κ true (d + 6) 0 0 m_X13_fillBase [.ref 226, .int a1] G4 (rV (fun G6 => mV l κ true (d + 7) 0 0 m_X13_life 30 [some (.ref 226), some (.int a1), some (.int a2), some (.int a3), some (.int (nI 0)), some (.int (nI 1))] [] G6 (rI K)))) ∧ (r3 = 0 → K (-1) G4))))))))) : mC l κ true (d + 7) 0 0 m_X13_life [.ref 226, .int a1, .int a2, .int a3] G (rI K) := by
  refine mC.of (by decide) (Nat.le_of_ble_eq_true rfl) [some (.ref 226), some (.int a1), some (.int a2), some (.int a3), none, none] rfl ?_
  refine mV_aload_n (k := 0) (by decide +kernel) rfl ?_
  refine mV_iload_n (k := 1) (by decide +kernel) rfl ?_
  refine mV_cV (as := [.int a1]) (rest := []) (mc1 := 0) (ms1 := 0) (mc := 0) (ms := 0) (by decide +kernel) md_X13_isRow lk_13_403 sh_226 rfl rfl rfl (Nat.le_of_ble_eq_true rfl) (mC.mono (mm_contI (fun r1 G2 hK => ?_)) h)
  replace h := hK
  refine mV_if_eq (off := 12) (tgt := 17) (by decide +kernel) (by decide) (fun hc => ?_) (fun hc => ?_)
  · replace h := h.1 hc
    refine mV_iconst (n := -1) (v := (-1)) (by decide +kernel) (by decide) ?_
    exact mV_iret (by decide +kernel) rfl h
  · replace h := h.2 hc
    refine mV_iload_n (k := 2) (by decide +kernel) rfl ?_
    refine mV_iconst (n := 0) (v := nI 0) (by decide +kernel) (by decide) ?_
    refine mV_iconst (n := 3) (v := nI 3) (by decide +kernel) (by decide) ?_
    refine mV_cS (as := [.int a2, .int (nI 0), .int (nI 3)]) (rest := []) (mc1 := 0) (ms1 := 0) (mc := 0) (ms := 0) (by decide +kernel) md_X13_in lk_13_399 rfl rfl (Nat.le_of_ble_eq_true rfl) (mC.mono (mm_contI (fun r3 G4 hK => ?_)) h)
    replace h := hK
    refine mV_if_ne (off := 5) (tgt := 19) (by decide +kernel) (by decide) (fun hc => ?_) (fun hc => ?_)
    · replace h := h.1 hc
      refine mV_aload_n (k := 0) (by decide +kernel) rfl ?_
      refine mV_iload_n (k := 1) (by decide +kernel) rfl ?_
      refine mV_cV (as := [.int a1]) (rest := []) (mc1 := 0) (ms1 := 0) (mc := 0) (ms := 0) (by decide +kernel) md_X13_fillBase lk_13_420 sh_226 rfl rfl rfl (Nat.le_of_ble_eq_true rfl) (mC.mono (mm_contV (fun G6 hK => ?_)) h)
      replace h := hK
      refine mV_iconst (n := 0) (v := nI 0) (by decide +kernel) (by decide) ?_
      refine mV_istore (i := 4) (ls' := [some (.ref 226), some (.int a1), some (.int a2), some (.int a3), some (.int (nI 0)), none]) (by decide +kernel) (Nat.le_of_ble_eq_true rfl) rfl rfl ?_
      refine mV_iconst (n := 1) (v := nI 1) (by decide +kernel) (by decide) ?_
      refine mV_istore (i := 5) (ls' := [some (.ref 226), some (.int a1), some (.int a2), some (.int a3), some (.int (nI 0)), some (.int (nI 1))]) (by decide +kernel) (Nat.le_of_ble_eq_true rfl) rfl rfl ?_
      exact h
    · replace h := h.2 hc
      refine mV_iconst (n := -1) (v := (-1)) (by decide +kernel) (by decide) ?_
      exact mV_iret (by decide +kernel) rfl h
set_option maxRecDepth 100000 in
set_option maxHeartbeats 4000000 in
theorem p_X13_life_30 {l : Launch} {κ : mm_K} {d : Nat} {G : mm_G} {K : Int32 → mm_G → Prop} (v1 : Int32) (v2 : Int32) (v3 : Int32) (v4 : Int32) (v5 : Int32) (h : mC l κ true (d + 6) 0 0 m_X13_linesOf [.ref 226, .int v1] G (rI (fun r1 G2 => ((r1 < v5 → K v5 G2) ∧ (¬ r1 < v5 → mC l κ true (d + 6) 0 0 m_X13_nextLost [.ref 226, .int v1, .int v4, .int v2, .int v3] G2 (rI (fun r3 G4 => mC l κ true (d + 6) 0 0 m_X13_isSame [.ref 226, .int v1, .int (v4 ||| ((nI 1) <<< (r3 &&& 31)))] G4 (rI (fun r5 G6 => ((¬ r5 = 0 → mV l κ true (d + 7) 0 0 m_X13_life 30 [some (.ref 226), some (.int v1), some (.int v2), some (.int v3), some (.int (v4 ||| ((nI 1) <<< (r3 &&& 31)))), some (.int (v5 + (nI 1)))] [] G6 (rI K)) ∧ (r5 = 0 → K v5 G6))))))))))) : mV l κ true (d + 7) 0 0 m_X13_life 30 [some (.ref 226), some (.int v1), some (.int v2), some (.int v3), some (.int v4), some (.int v5)] [] G (rI K) := by
  refine mV_iload (i := 5) (by decide +kernel) rfl ?_
  refine mV_aload_n (k := 0) (by decide +kernel) rfl ?_
  refine mV_iload_n (k := 1) (by decide +kernel) rfl ?_
  refine mV_cV (as := [.int v1]) (rest := [.int v5]) (mc1 := 0) (ms1 := 0) (mc := 0) (ms := 0) (by decide +kernel) md_X13_linesOf lk_13_337 sh_226 rfl rfl rfl (Nat.le_of_ble_eq_true rfl) (mC.mono (mm_contI (fun r1 G2 hK => ?_)) h)
  replace h := hK
  refine mV_icmp_gt (off := 38) (tgt := 75) (by decide +kernel) (by decide) (fun hc => ?_) (fun hc => ?_)
  · replace h := h.1 hc
    refine mV_iload (i := 5) (by decide +kernel) rfl ?_
    exact mV_iret (by decide +kernel) rfl h
  · replace h := h.2 hc
    refine mV_iload (i := 4) (by decide +kernel) rfl ?_
    refine mV_iconst (n := 1) (v := nI 1) (by decide +kernel) (by decide) ?_
    refine mV_aload_n (k := 0) (by decide +kernel) rfl ?_
    refine mV_iload_n (k := 1) (by decide +kernel) rfl ?_
    refine mV_iload (i := 4) (by decide +kernel) rfl ?_
    refine mV_iload_n (k := 2) (by decide +kernel) rfl ?_
    refine mV_iload_n (k := 3) (by decide +kernel) rfl ?_
    refine mV_cV (as := [.int v1, .int v4, .int v2, .int v3]) (rest := [.int (nI 1), .int v4]) (mc1 := 0) (ms1 := 0) (mc := 0) (ms := 0) (by decide +kernel) md_X13_nextLost lk_13_448 sh_226 rfl rfl rfl (Nat.le_of_ble_eq_true rfl) (mC.mono (mm_contI (fun r3 G4 hK => ?_)) h)
    replace h := hK
    refine mV_ishl (by decide +kernel) ?_
    refine mV_ior (by decide +kernel) ?_
    refine mV_istore (i := 4) (ls' := [some (.ref 226), some (.int v1), some (.int v2), some (.int v3), some (.int (v4 ||| ((nI 1) <<< (r3 &&& 31)))), some (.int v5)]) (by decide +kernel) (Nat.le_of_ble_eq_true rfl) rfl rfl ?_
    refine mV_aload_n (k := 0) (by decide +kernel) rfl ?_
    refine mV_iload_n (k := 1) (by decide +kernel) rfl ?_
    refine mV_iload (i := 4) (by decide +kernel) rfl ?_
    refine mV_cV (as := [.int v1, .int (v4 ||| ((nI 1) <<< (r3 &&& 31)))]) (rest := []) (mc1 := 0) (ms1 := 0) (mc := 0) (ms := 0) (by decide +kernel) md_X13_isSame lk_13_423 sh_226 rfl rfl rfl (Nat.le_of_ble_eq_true rfl) (mC.mono (mm_contI (fun r5 G6 hK => ?_)) h)
    replace h := hK
    refine mV_if_ne (off := 6) (tgt := 69) (by decide +kernel) (by decide) (fun hc => ?_) (fun hc => ?_)
    · replace h := h.1 hc
      refine mV_iincc (i := 5) (n := 1) (c := nI 1) (ls' := [some (.ref 226), some (.int v1), some (.int v2), some (.int v3), some (.int (v4 ||| ((nI 1) <<< (r3 &&& 31)))), some (.int (v5 + (nI 1)))]) (by decide +kernel) (by decide) rfl (Nat.le_of_ble_eq_true rfl) rfl rfl ?_
      refine mV_goto (off := -42) (tgt := 30) (by decide +kernel) (by decide) ?_
      exact h
    · replace h := h.2 hc
      refine mV_iload (i := 5) (by decide +kernel) rfl ?_
      exact mV_iret (by decide +kernel) rfl h
set_option maxRecDepth 100000 in
set_option maxHeartbeats 4000000 in
theorem e_X13_isShort {l : Launch} {κ : mm_K} {d : Nat} {G : mm_G} {K : Int32 → mm_G → Prop} (a1 : Int32) (h : mC l κ true d 0 0 m_X13_linesOf [.ref 226, .int a1] G (rI (fun r1 G2 => (((nI 12) < r1 → K (nI 0) G2) ∧ (¬ (nI 12) < r1 → K (nI 1) G2))))) : mC l κ true (d + 1) 0 0 m_X13_isShort [.ref 226, .int a1] G (rI K) := by
  refine mC.of (by decide) (Nat.le_of_ble_eq_true rfl) [some (.ref 226), some (.int a1)] rfl ?_
  refine mV_aload_n (k := 0) (by decide +kernel) rfl ?_
  refine mV_iload_n (k := 1) (by decide +kernel) rfl ?_
  refine mV_cV (as := [.int a1]) (rest := []) (mc1 := 0) (ms1 := 0) (mc := 0) (ms := 0) (by decide +kernel) md_X13_linesOf lk_13_337 sh_226 rfl rfl rfl (Nat.le_of_ble_eq_true rfl) (mC.mono (mm_contI (fun r1 G2 hK => ?_)) h)
  replace h := hK
  refine mV_bipush (n := 12) (v := nI 12) (by decide +kernel) (by decide) ?_
  refine mV_icmp_gt (off := 7) (tgt := 14) (by decide +kernel) (by decide) (fun hc => ?_) (fun hc => ?_)
  · replace h := h.1 hc
    refine mV_iconst (n := 0) (v := nI 0) (by decide +kernel) (by decide) ?_
    exact mV_zret (by decide +kernel) rfl (by decide) h
  · replace h := h.2 hc
    refine mV_iconst (n := 1) (v := nI 1) (by decide +kernel) (by decide) ?_
    refine mV_goto (off := 4) (tgt := 15) (by decide +kernel) (by decide) ?_
    exact mV_zret (by decide +kernel) rfl (by decide) h
set_option maxRecDepth 100000 in
set_option maxHeartbeats 4000000 in
theorem e_X13_fillSets {l : Launch} {κ : mm_K} {d : Nat} {G : mm_G} {K : mm_G → Prop} (a1 : Int32) (h : mC l κ true (d + 6) 0 0 m_X13_linesOf [.ref 226, .int a1] G (rI (fun r1 G2 => mC l κ true (d + 6) 0 0 m_X13_fillBase [.ref 226, .int a1] G2 (rV (fun G4 => mV l κ true (d + 7) 0 0 m_X13_fillSets 15 [some (.ref 226), some (.int a1), some (.int ((nI 1) <<< (r1 &&& 31))), some (.int (nI 0)), none, none] [] G4 (rV K)))))) : mC l κ true (d + 7) 0 0 m_X13_fillSets [.ref 226, .int a1] G (rV K) := by
  refine mC.of (by decide) (Nat.le_of_ble_eq_true rfl) [some (.ref 226), some (.int a1), none, none, none, none] rfl ?_
  refine mV_iconst (n := 1) (v := nI 1) (by decide +kernel) (by decide) ?_
  refine mV_aload_n (k := 0) (by decide +kernel) rfl ?_
  refine mV_iload_n (k := 1) (by decide +kernel) rfl ?_
  refine mV_cV (as := [.int a1]) (rest := [.int (nI 1)]) (mc1 := 0) (ms1 := 0) (mc := 0) (ms := 0) (by decide +kernel) md_X13_linesOf lk_13_337 sh_226 rfl rfl rfl (Nat.le_of_ble_eq_true rfl) (mC.mono (mm_contI (fun r1 G2 hK => ?_)) h)
  replace h := hK
  refine mV_ishl (by decide +kernel) ?_
  refine mV_istore_n (k := 2) (ls' := [some (.ref 226), some (.int a1), some (.int ((nI 1) <<< (r1 &&& 31))), none, none, none]) (by decide +kernel) (Nat.le_of_ble_eq_true rfl) rfl rfl ?_
  refine mV_aload_n (k := 0) (by decide +kernel) rfl ?_
  refine mV_iload_n (k := 1) (by decide +kernel) rfl ?_
  refine mV_cV (as := [.int a1]) (rest := []) (mc1 := 0) (ms1 := 0) (mc := 0) (ms := 0) (by decide +kernel) md_X13_fillBase lk_13_420 sh_226 rfl rfl rfl (Nat.le_of_ble_eq_true rfl) (mC.mono (mm_contV (fun G4 hK => ?_)) h)
  replace h := hK
  refine mV_iconst (n := 0) (v := nI 0) (by decide +kernel) (by decide) ?_
  refine mV_istore_n (k := 3) (ls' := [some (.ref 226), some (.int a1), some (.int ((nI 1) <<< (r1 &&& 31))), some (.int (nI 0)), none, none]) (by decide +kernel) (Nat.le_of_ble_eq_true rfl) rfl rfl ?_
  exact h
set_option maxRecDepth 100000 in
set_option maxHeartbeats 4000000 in
theorem p_X13_fillSets_15 {l : Launch} {κ : mm_K} {d : Nat} {G : mm_G} {K : mm_G → Prop} (v1 : Int32) (v2 : Int32) (v3 : Int32) (h : ((v2 ≤ v3 → mV l κ true (d + 7) 0 0 m_X13_fillSets 55 [some (.ref 226), some (.int v1), some (.int v2), some (.int (nI 0)), none, none] [] G (rV K)) ∧ (¬ v2 ≤ v3 → mC l κ true (d + 6) 0 0 m_X13_isSame [.ref 226, .int v1, .int v3] G (rI (fun r1 G2 => vp_in v3 4096 ∧ ((¬ v3 = 0 → vp_in v3 4096 ∧ mV l κ true (d + 7) 0 0 m_X13_fillSets 15 [some (.ref 226), some (.int v1), some (.int v2), some (.int (v3 + (nI 1))), none, none] [] (ms_l (ms_i G2 265 v3.toNatClampNeg (vp_nar .boolean r1)) 266 v3.toNatClampNeg (lN 0)) (rV K)) ∧ (v3 = 0 → vp_in v3 4096 ∧ mV l κ true (d + 7) 0 0 m_X13_fillSets 15 [some (.ref 226), some (.int v1), some (.int v2), some (.int (v3 + (nI 1))), none, none] [] (ms_l (ms_i G2 265 v3.toNatClampNeg (vp_nar .boolean r1)) 266 v3.toNatClampNeg (lN 1)) (rV K)))))))) : mV l κ true (d + 7) 0 0 m_X13_fillSets 15 [some (.ref 226), some (.int v1), some (.int v2), some (.int v3), none, none] [] G (rV K) := by
  refine mV_iload_n (k := 3) (by decide +kernel) rfl ?_
  refine mV_iload_n (k := 2) (by decide +kernel) rfl ?_
  refine mV_icmp_ge (off := 36) (tgt := 53) (by decide +kernel) (by decide) (fun hc => ?_) (fun hc => ?_)
  · replace h := h.1 hc
    refine mV_iconst (n := 0) (v := nI 0) (by decide +kernel) (by decide) ?_
    refine mV_istore_n (k := 3) (ls' := [some (.ref 226), some (.int v1), some (.int v2), some (.int (nI 0)), none, none]) (by decide +kernel) (Nat.le_of_ble_eq_true rfl) rfl rfl ?_
    exact h
  · replace h := h.2 hc
    refine mV_aload_n (k := 0) (by decide +kernel) rfl ?_
    refine mV_gfr (r := some 265) (by decide +kernel) fk_13_133 sh_226 (mm_rrs st_226_62) rfl ?_
    refine mV_iload_n (k := 3) (by decide +kernel) rfl ?_
    refine mV_aload_n (k := 0) (by decide +kernel) rfl ?_
    refine mV_iload_n (k := 1) (by decide +kernel) rfl ?_
    refine mV_iload_n (k := 3) (by decide +kernel) rfl ?_
    refine mV_cV (as := [.int v1, .int v3]) (rest := [.int v3, .ref 265]) (mc1 := 0) (ms1 := 0) (mc := 0) (ms := 0) (by decide +kernel) md_X13_isSame lk_13_423 sh_226 rfl rfl rfl (Nat.le_of_ble_eq_true rfl) (mC.mono (mm_contI (fun r1 G2 hK => ?_)) h)
    replace h := hK
    refine mV_zas (by decide +kernel) sh_265 h.1 ?_
    replace h := h.2
    refine mV_aload_n (k := 0) (by decide +kernel) rfl ?_
    refine mV_gfr (r := some 266) (by decide +kernel) fk_13_137 sh_226 (mm_rrs st_226_63) rfl ?_
    refine mV_iload_n (k := 3) (by decide +kernel) rfl ?_
    refine mV_iload_n (k := 3) (by decide +kernel) rfl ?_
    refine mV_if_ne (off := 7) (tgt := 45) (by decide +kernel) (by decide) (fun hc => ?_) (fun hc => ?_)
    · replace h := h.1 hc
      refine mV_lconst (n := 0) (v := lN 0) (by decide +kernel) (by decide) ?_
      refine mV_las (by decide +kernel) sh_266 h.1 ?_
      replace h := h.2
      refine mV_iincc (i := 3) (n := 1) (c := nI 1) (ls' := [some (.ref 226), some (.int v1), some (.int v2), some (.int (v3 + (nI 1))), none, none]) (by decide +kernel) (by decide) rfl (Nat.le_of_ble_eq_true rfl) rfl rfl ?_
      refine mV_goto (off := -35) (tgt := 15) (by decide +kernel) (by decide) ?_
      exact h
    · replace h := h.2 hc
      refine mV_lconst (n := 1) (v := lN 1) (by decide +kernel) (by decide) ?_
      refine mV_goto (off := 4) (tgt := 46) (by decide +kernel) (by decide) ?_
      refine mV_las (by decide +kernel) sh_266 h.1 ?_
      replace h := h.2
      refine mV_iincc (i := 3) (n := 1) (c := nI 1) (ls' := [some (.ref 226), some (.int v1), some (.int v2), some (.int (v3 + (nI 1))), none, none]) (by decide +kernel) (by decide) rfl (Nat.le_of_ble_eq_true rfl) rfl rfl ?_
      refine mV_goto (off := -35) (tgt := 15) (by decide +kernel) (by decide) ?_
      exact h
set_option maxRecDepth 100000 in
set_option maxHeartbeats 4000000 in
theorem p_X13_fillSets_55 {l : Launch} {κ : mm_K} {d : Nat} {G : mm_G} {K : mm_G → Prop} (v1 : Int32) (v2 : Int32) (v3 : Int32) (h : ((v2 ≤ v3 → K G) ∧ (¬ v2 ≤ v3 → mV l κ true (d + 7) 0 0 m_X13_fillSets 63 [some (.ref 226), some (.int v1), some (.int v2), some (.int v3), some (.int (nI 0)), none] [] G (rV K)))) : mV l κ true (d + 7) 0 0 m_X13_fillSets 55 [some (.ref 226), some (.int v1), some (.int v2), some (.int v3), none, none] [] G (rV K) := by
  refine mV_iload_n (k := 3) (by decide +kernel) rfl ?_
  refine mV_iload_n (k := 2) (by decide +kernel) rfl ?_
  refine mV_icmp_ge (off := 68) (tgt := 125) (by decide +kernel) (by decide) (fun hc => ?_) (fun hc => ?_)
  · replace h := h.1 hc
    exact mV_vret (by decide +kernel) rfl h
  · replace h := h.2 hc
    refine mV_iconst (n := 0) (v := nI 0) (by decide +kernel) (by decide) ?_
    refine mV_istore (i := 4) (ls' := [some (.ref 226), some (.int v1), some (.int v2), some (.int v3), some (.int (nI 0)), none]) (by decide +kernel) (Nat.le_of_ble_eq_true rfl) rfl rfl ?_
    exact h
set_option maxRecDepth 100000 in
set_option maxHeartbeats 4000000 in
theorem p_X13_fillSets_63 {l : Launch} {κ : mm_K} {d : Nat} {G : mm_G} {K : mm_G → Prop} (v1 : Int32) (v2 : Int32) (v3 : Int32) (v4 : Int32) (h : mC l κ true (d + 6) 0 0 m_X13_linesOf [.ref 226, .int v1] G (rI (fun r1 G2 => ((r1 ≤ v4 → mV l κ true (d + 7) 0 0 m_X13_fillSets 55 [some (.ref 226), some (.int v1), some (.int v2), some (.int (v3 + (nI 1))), none, none] [] G2 (rV K)) ∧ (¬ r1 ≤ v4 → (((v3 ||| ((nI 1) <<< (v4 &&& 31))) = v3 → mV l κ true (d + 7) 0 0 m_X13_fillSets 63 [some (.ref 226), some (.int v1), some (.int v2), some (.int v3), some (.int (v4 + (nI 1))), none] [] G2 (rV K)) ∧ (¬ (v3 ||| ((nI 1) <<< (v4 &&& 31))) = v3 → vp_in (v3 ||| ((nI 1) <<< (v4 &&& 31))) 4096 ∧ (((mg_i G2 265 ((v3 ||| ((nI 1) <<< (v4 &&& 31))).toNatClampNeg)) = 0 → mV l κ true (d + 7) 0 0 m_X13_fillSets 63 [some (.ref 226), some (.int v1), some (.int v2), some (.int v3), some (.int (v4 + (nI 1))), none] [] G2 (rV K)) ∧ (¬ (mg_i G2 265 ((v3 ||| ((nI 1) <<< (v4 &&& 31))).toNatClampNeg)) = 0 → vp_in (v3 ||| ((nI 1) <<< (v4 &&& 31))) 4096 ∧ vp_in v3 4096 ∧ vp_in (v3 ||| ((nI 1) <<< (v4 &&& 31))) 4096 ∧ mV l κ true (d + 7) 0 0 m_X13_fillSets 63 [some (.ref 226), some (.int v1), some (.int v2), some (.int v3), some (.int (v4 + (nI 1))), none] [] (ms_l G2 266 ((v3 ||| ((nI 1) <<< (v4 &&& 31))).toNatClampNeg) ((mg_l G2 266 ((v3 ||| ((nI 1) <<< (v4 &&& 31))).toNatClampNeg)) + (mg_l G2 266 v3.toNatClampNeg))) (rV K)))))))))) : mV l κ true (d + 7) 0 0 m_X13_fillSets 63 [some (.ref 226), some (.int v1), some (.int v2), some (.int v3), some (.int v4), none] [] G (rV K) := by
  refine mV_iload (i := 4) (by decide +kernel) rfl ?_
  refine mV_aload_n (k := 0) (by decide +kernel) rfl ?_
  refine mV_iload_n (k := 1) (by decide +kernel) rfl ?_
  refine mV_cV (as := [.int v1]) (rest := [.int v4]) (mc1 := 0) (ms1 := 0) (mc := 0) (ms := 0) (by decide +kernel) md_X13_linesOf lk_13_337 sh_226 rfl rfl rfl (Nat.le_of_ble_eq_true rfl) (mC.mono (mm_contI (fun r1 G2 hK => ?_)) h)
  replace h := hK
  refine mV_icmp_ge (off := 49) (tgt := 119) (by decide +kernel) (by decide) (fun hc => ?_) (fun hc => ?_)
  · replace h := h.1 hc
    refine mV_iincc (i := 3) (n := 1) (c := nI 1) (ls' := [some (.ref 226), some (.int v1), some (.int v2), some (.int (v3 + (nI 1))), some (.int v4), none]) (by decide +kernel) (by decide) rfl (Nat.le_of_ble_eq_true rfl) rfl rfl ?_
    refine mV_goto (off := -67) (tgt := 55) (by decide +kernel) (by decide) ?_
    refine mV_fg [4] (ls' := [some (.ref 226), some (.int v1), some (.int v2), some (.int (v3 + (nI 1))), none, none]) rfl ?_
    exact h
  · replace h := h.2 hc
    refine mV_iload_n (k := 3) (by decide +kernel) rfl ?_
    refine mV_iconst (n := 1) (v := nI 1) (by decide +kernel) (by decide) ?_
    refine mV_iload (i := 4) (by decide +kernel) rfl ?_
    refine mV_ishl (by decide +kernel) ?_
    refine mV_ior (by decide +kernel) ?_
    refine mV_istore (i := 5) (ls' := [some (.ref 226), some (.int v1), some (.int v2), some (.int v3), some (.int v4), some (.int (v3 ||| ((nI 1) <<< (v4 &&& 31))))]) (by decide +kernel) (Nat.le_of_ble_eq_true rfl) rfl rfl ?_
    refine mV_iload (i := 5) (by decide +kernel) rfl ?_
    refine mV_iload_n (k := 3) (by decide +kernel) rfl ?_
    refine mV_icmp_eq (off := 29) (tgt := 113) (by decide +kernel) (by decide) (fun hc => ?_) (fun hc => ?_)
    · replace h := h.1 hc
      refine mV_iincc (i := 4) (n := 1) (c := nI 1) (ls' := [some (.ref 226), some (.int v1), some (.int v2), some (.int v3), some (.int (v4 + (nI 1))), some (.int (v3 ||| ((nI 1) <<< (v4 &&& 31))))]) (by decide +kernel) (by decide) rfl (Nat.le_of_ble_eq_true rfl) rfl rfl ?_
      refine mV_goto (off := -53) (tgt := 63) (by decide +kernel) (by decide) ?_
      refine mV_fg [5] (ls' := [some (.ref 226), some (.int v1), some (.int v2), some (.int v3), some (.int (v4 + (nI 1))), none]) rfl ?_
      exact h
    · replace h := h.2 hc
      refine mV_aload_n (k := 0) (by decide +kernel) rfl ?_
      refine mV_gfr (r := some 265) (by decide +kernel) fk_13_133 sh_226 (mm_rrs st_226_62) rfl ?_
      refine mV_iload (i := 5) (by decide +kernel) rfl ?_
      refine mV_zalx (x := mg_i G2 265 ((v3 ||| ((nI 1) <<< (v4 &&& 31))).toNatClampNeg)) (by decide +kernel) sh_265 h.1 rfl ?_
      replace h := h.2
      refine mV_if_eq (off := 19) (tgt := 113) (by decide +kernel) (by decide) (fun hc => ?_) (fun hc => ?_)
      · replace h := h.1 hc
        refine mV_iincc (i := 4) (n := 1) (c := nI 1) (ls' := [some (.ref 226), some (.int v1), some (.int v2), some (.int v3), some (.int (v4 + (nI 1))), some (.int (v3 ||| ((nI 1) <<< (v4 &&& 31))))]) (by decide +kernel) (by decide) rfl (Nat.le_of_ble_eq_true rfl) rfl rfl ?_
        refine mV_goto (off := -53) (tgt := 63) (by decide +kernel) (by decide) ?_
        refine mV_fg [5] (ls' := [some (.ref 226), some (.int v1), some (.int v2), some (.int v3), some (.int (v4 + (nI 1))), none]) rfl ?_
        exact h
      · replace h := h.2 hc
        refine mV_aload_n (k := 0) (by decide +kernel) rfl ?_
        refine mV_gfr (r := some 266) (by decide +kernel) fk_13_137 sh_226 (mm_rrs st_226_63) rfl ?_
        refine mV_iload (i := 5) (by decide +kernel) rfl ?_
        refine mV_dup2 (by decide +kernel) rfl rfl ?_
        refine mV_lalx (x := mg_l G2 266 ((v3 ||| ((nI 1) <<< (v4 &&& 31))).toNatClampNeg)) (by decide +kernel) sh_266 h.1 rfl ?_
        replace h := h.2
        refine mV_aload_n (k := 0) (by decide +kernel) rfl ?_
        refine mV_gfr (r := some 266) (by decide +kernel) fk_13_137 sh_226 (mm_rrs st_226_63) rfl ?_
        refine mV_iload_n (k := 3) (by decide +kernel) rfl ?_
        refine mV_lalx (x := mg_l G2 266 v3.toNatClampNeg) (by decide +kernel) sh_266 h.1 rfl ?_
        replace h := h.2
        refine mV_ladd (by decide +kernel) ?_
        refine mV_las (by decide +kernel) sh_266 h.1 ?_
        replace h := h.2
        refine mV_iincc (i := 4) (n := 1) (c := nI 1) (ls' := [some (.ref 226), some (.int v1), some (.int v2), some (.int v3), some (.int (v4 + (nI 1))), some (.int (v3 ||| ((nI 1) <<< (v4 &&& 31))))]) (by decide +kernel) (by decide) rfl (Nat.le_of_ble_eq_true rfl) rfl rfl ?_
        refine mV_goto (off := -53) (tgt := 63) (by decide +kernel) (by decide) ?_
        refine mV_fg [5] (ls' := [some (.ref 226), some (.int v1), some (.int v2), some (.int v3), some (.int (v4 + (nI 1))), none]) rfl ?_
        exact h
set_option maxRecDepth 100000 in
set_option maxHeartbeats 4000000 in
theorem e_X13_soonest {l : Launch} {κ : mm_K} {d : Nat} {G : mm_G} {K : Int32 → mm_G → Prop} (a1 : Int32) (h : mC l κ true (d + 7) 0 0 m_X13_isRow [.ref 226, .int a1] G (rI (fun r1 G2 => ((¬ r1 = 0 → mC l κ true (d + 7) 0 0 m_X13_isShort [.ref 226, .int a1] G2 (rI (fun r3 G4 => ((¬ r3 = 0 → mC l κ true (d + 7) 0 0 m_X13_fillSets [.ref 226, .int a1] G4 (rV (fun G6 => mV l κ true (d + 8) 0 0 m_X13_soonest 30 [some (.ref 226), some (.int a1), some (.int (nI 0)), some (.int (nI 0)), none] [] G6 (rI K)))) ∧ (r3 = 0 → K (-2) G4))))) ∧ (r1 = 0 → K (-1) G2))))) : mC l κ true (d + 8) 0 0 m_X13_soonest [.ref 226, .int a1] G (rI K) := by
  refine mC.of (by decide) (Nat.le_of_ble_eq_true rfl) [some (.ref 226), some (.int a1), none, none, none] rfl ?_
  refine mV_aload_n (k := 0) (by decide +kernel) rfl ?_
  refine mV_iload_n (k := 1) (by decide +kernel) rfl ?_
  refine mV_cV (as := [.int a1]) (rest := []) (mc1 := 0) (ms1 := 0) (mc := 0) (ms := 0) (by decide +kernel) md_X13_isRow lk_13_403 sh_226 rfl rfl rfl (Nat.le_of_ble_eq_true rfl) (mC.mono (mm_contI (fun r1 G2 hK => ?_)) h)
  replace h := hK
  refine mV_if_ne (off := 5) (tgt := 10) (by decide +kernel) (by decide) (fun hc => ?_) (fun hc => ?_)
  · replace h := h.1 hc
    refine mV_aload_n (k := 0) (by decide +kernel) rfl ?_
    refine mV_iload_n (k := 1) (by decide +kernel) rfl ?_
    refine mV_cV (as := [.int a1]) (rest := []) (mc1 := 0) (ms1 := 0) (mc := 0) (ms := 0) (by decide +kernel) md_X13_isShort lk_13_452 sh_226 rfl rfl rfl (Nat.le_of_ble_eq_true rfl) (mC.mono (mm_contI (fun r3 G4 hK => ?_)) h)
    replace h := hK
    refine mV_if_ne (off := 6) (tgt := 21) (by decide +kernel) (by decide) (fun hc => ?_) (fun hc => ?_)
    · replace h := h.1 hc
      refine mV_aload_n (k := 0) (by decide +kernel) rfl ?_
      refine mV_iload_n (k := 1) (by decide +kernel) rfl ?_
      refine mV_cV (as := [.int a1]) (rest := []) (mc1 := 0) (ms1 := 0) (mc := 0) (ms := 0) (by decide +kernel) md_X13_fillSets lk_13_455 sh_226 rfl rfl rfl (Nat.le_of_ble_eq_true rfl) (mC.mono (mm_contV (fun G6 hK => ?_)) h)
      replace h := hK
      refine mV_iconst (n := 0) (v := nI 0) (by decide +kernel) (by decide) ?_
      refine mV_istore_n (k := 2) (ls' := [some (.ref 226), some (.int a1), some (.int (nI 0)), none, none]) (by decide +kernel) (Nat.le_of_ble_eq_true rfl) rfl rfl ?_
      refine mV_iconst (n := 0) (v := nI 0) (by decide +kernel) (by decide) ?_
      refine mV_istore_n (k := 3) (ls' := [some (.ref 226), some (.int a1), some (.int (nI 0)), some (.int (nI 0)), none]) (by decide +kernel) (Nat.le_of_ble_eq_true rfl) rfl rfl ?_
      exact h
    · replace h := h.2 hc
      refine mV_bipush (n := -2) (v := (-2)) (by decide +kernel) (by decide) ?_
      exact mV_iret (by decide +kernel) rfl h
  · replace h := h.2 hc
    refine mV_iconst (n := -1) (v := (-1)) (by decide +kernel) (by decide) ?_
    exact mV_iret (by decide +kernel) rfl h
set_option maxRecDepth 100000 in
set_option maxHeartbeats 4000000 in
theorem p_X13_soonest_30 {l : Launch} {κ : mm_K} {d : Nat} {G : mm_G} {K : Int32 → mm_G → Prop} (v1 : Int32) (v2 : Int32) (v3 : Int32) (h : mC l κ true (d + 7) 0 0 m_X13_linesOf [.ref 226, .int v1] G (rI (fun r1 G2 => ((((nI 1) <<< (r1 &&& 31)) ≤ v3 → K v2 G2) ∧ (¬ ((nI 1) <<< (r1 &&& 31)) ≤ v3 → vp_in v3 4096 ∧ ((¬ (lg_cmp (mg_l G2 266 v3.toNatClampNeg) (lN 0)) = 0 → mV l κ true (d + 8) 0 0 m_X13_soonest 58 [some (.ref 226), some (.int v1), some (.int v2), some (.int v3), some (.int (nI 0))] [] G2 (rI K)) ∧ ((lg_cmp (mg_l G2 266 v3.toNatClampNeg) (lN 0)) = 0 → mV l κ true (d + 8) 0 0 m_X13_soonest 30 [some (.ref 226), some (.int v1), some (.int v2), some (.int (v3 + (nI 1))), none] [] G2 (rI K)))))))) : mV l κ true (d + 8) 0 0 m_X13_soonest 30 [some (.ref 226), some (.int v1), some (.int v2), some (.int v3), none] [] G (rI K) := by
  refine mV_iload_n (k := 3) (by decide +kernel) rfl ?_
  refine mV_iconst (n := 1) (v := nI 1) (by decide +kernel) (by decide) ?_
  refine mV_aload_n (k := 0) (by decide +kernel) rfl ?_
  refine mV_iload_n (k := 1) (by decide +kernel) rfl ?_
  refine mV_cV (as := [.int v1]) (rest := [.int (nI 1), .int v3]) (mc1 := 0) (ms1 := 0) (mc := 0) (ms := 0) (by decide +kernel) md_X13_linesOf lk_13_337 sh_226 rfl rfl rfl (Nat.le_of_ble_eq_true rfl) (mC.mono (mm_contI (fun r1 G2 hK => ?_)) h)
  replace h := hK
  refine mV_ishl (by decide +kernel) ?_
  refine mV_icmp_ge (off := 77) (tgt := 115) (by decide +kernel) (by decide) (fun hc => ?_) (fun hc => ?_)
  · replace h := h.1 hc
    refine mV_iload_n (k := 2) (by decide +kernel) rfl ?_
    exact mV_iret (by decide +kernel) rfl h
  · replace h := h.2 hc
    refine mV_aload_n (k := 0) (by decide +kernel) rfl ?_
    refine mV_gfr (r := some 266) (by decide +kernel) fk_13_137 sh_226 (mm_rrs st_226_63) rfl ?_
    refine mV_iload_n (k := 3) (by decide +kernel) rfl ?_
    refine mV_lalx (x := mg_l G2 266 v3.toNatClampNeg) (by decide +kernel) sh_266 h.1 rfl ?_
    replace h := h.2
    refine mV_lconst (n := 0) (v := lN 0) (by decide +kernel) (by decide) ?_
    refine mV_lcmp (by decide +kernel) ?_
    refine mV_if_ne (off := 6) (tgt := 55) (by decide +kernel) (by decide) (fun hc => ?_) (fun hc => ?_)
    · replace h := h.1 hc
      refine mV_iconst (n := 0) (v := nI 0) (by decide +kernel) (by decide) ?_
      refine mV_istore (i := 4) (ls' := [some (.ref 226), some (.int v1), some (.int v2), some (.int v3), some (.int (nI 0))]) (by decide +kernel) (Nat.le_of_ble_eq_true rfl) rfl rfl ?_
      exact h
    · replace h := h.2 hc
      refine mV_goto (off := 57) (tgt := 109) (by decide +kernel) (by decide) ?_
      refine mV_iincc (i := 3) (n := 1) (c := nI 1) (ls' := [some (.ref 226), some (.int v1), some (.int v2), some (.int (v3 + (nI 1))), none]) (by decide +kernel) (by decide) rfl (Nat.le_of_ble_eq_true rfl) rfl rfl ?_
      refine mV_goto (off := -82) (tgt := 30) (by decide +kernel) (by decide) ?_
      exact h
set_option maxRecDepth 100000 in
set_option maxHeartbeats 4000000 in
theorem p_X13_soonest_58 {l : Launch} {κ : mm_K} {d : Nat} {G : mm_G} {K : Int32 → mm_G → Prop} (v1 : Int32) (v2 : Int32) (v3 : Int32) (v4 : Int32) (h : mC l κ true (d + 7) 0 0 m_X13_linesOf [.ref 226, .int v1] G (rI (fun r1 G2 => ((r1 ≤ v4 → mV l κ true (d + 8) 0 0 m_X13_soonest 30 [some (.ref 226), some (.int v1), some (.int v2), some (.int (v3 + (nI 1))), none] [] G2 (rI K)) ∧ (¬ r1 ≤ v4 → vp_in (v3 ||| ((nI 1) <<< (v4 &&& 31))) 4096 ∧ ((¬ (mg_i G2 265 ((v3 ||| ((nI 1) <<< (v4 &&& 31))).toNatClampNeg)) = 0 → mV l κ true (d + 8) 0 0 m_X13_soonest 58 [some (.ref 226), some (.int v1), some (.int v2), some (.int v3), some (.int (v4 + (nI 1)))] [] G2 (rI K)) ∧ ((mg_i G2 265 ((v3 ||| ((nI 1) <<< (v4 &&& 31))).toNatClampNeg)) = 0 → ((v2 = 0 → mC l κ true (d + 7) 0 0 m_X13_bits [.int v3] G2 (rI (fun r3 G4 => mV l κ true (d + 8) 0 0 m_X13_soonest 58 [some (.ref 226), some (.int v1), some (.int (r3 + (nI 1))), some (.int v3), some (.int (v4 + (nI 1)))] [] G4 (rI K)))) ∧ (¬ v2 = 0 → mC l κ true (d + 7) 0 0 m_X13_bits [.int v3] G2 (rI (fun r5 G6 => ((v2 ≤ (r5 + (nI 1)) → mV l κ true (d + 8) 0 0 m_X13_soonest 58 [some (.ref 226), some (.int v1), some (.int v2), some (.int v3), some (.int (v4 + (nI 1)))] [] G6 (rI K)) ∧ (¬ v2 ≤ (r5 + (nI 1)) → mC l κ true (d + 7) 0 0 m_X13_bits [.int v3] G6 (rI (fun r7 G8 => mV l κ true (d + 8) 0 0 m_X13_soonest 58 [some (.ref 226), some (.int v1), some (.int (r7 + (nI 1))), some (.int v3), some (.int (v4 + (nI 1)))] [] G8 (rI K)))))))))))))))) : mV l κ true (d + 8) 0 0 m_X13_soonest 58 [some (.ref 226), some (.int v1), some (.int v2), some (.int v3), some (.int v4)] [] G (rI K) := by
  refine mV_iload (i := 4) (by decide +kernel) rfl ?_
  refine mV_aload_n (k := 0) (by decide +kernel) rfl ?_
  refine mV_iload_n (k := 1) (by decide +kernel) rfl ?_
  refine mV_cV (as := [.int v1]) (rest := [.int v4]) (mc1 := 0) (ms1 := 0) (mc := 0) (ms := 0) (by decide +kernel) md_X13_linesOf lk_13_337 sh_226 rfl rfl rfl (Nat.le_of_ble_eq_true rfl) (mC.mono (mm_contI (fun r1 G2 hK => ?_)) h)
  replace h := hK
  refine mV_icmp_ge (off := 44) (tgt := 109) (by decide +kernel) (by decide) (fun hc => ?_) (fun hc => ?_)
  · replace h := h.1 hc
    refine mV_iincc (i := 3) (n := 1) (c := nI 1) (ls' := [some (.ref 226), some (.int v1), some (.int v2), some (.int (v3 + (nI 1))), some (.int v4)]) (by decide +kernel) (by decide) rfl (Nat.le_of_ble_eq_true rfl) rfl rfl ?_
    refine mV_goto (off := -82) (tgt := 30) (by decide +kernel) (by decide) ?_
    refine mV_fg [4] (ls' := [some (.ref 226), some (.int v1), some (.int v2), some (.int (v3 + (nI 1))), none]) rfl ?_
    exact h
  · replace h := h.2 hc
    refine mV_aload_n (k := 0) (by decide +kernel) rfl ?_
    refine mV_gfr (r := some 265) (by decide +kernel) fk_13_133 sh_226 (mm_rrs st_226_62) rfl ?_
    refine mV_iload_n (k := 3) (by decide +kernel) rfl ?_
    refine mV_iconst (n := 1) (v := nI 1) (by decide +kernel) (by decide) ?_
    refine mV_iload (i := 4) (by decide +kernel) rfl ?_
    refine mV_ishl (by decide +kernel) ?_
    refine mV_ior (by decide +kernel) ?_
    refine mV_zalx (x := mg_i G2 265 ((v3 ||| ((nI 1) <<< (v4 &&& 31))).toNatClampNeg)) (by decide +kernel) sh_265 h.1 rfl ?_
    replace h := h.2
    refine mV_if_ne (off := 24) (tgt := 103) (by decide +kernel) (by decide) (fun hc => ?_) (fun hc => ?_)
    · replace h := h.1 hc
      refine mV_iincc (i := 4) (n := 1) (c := nI 1) (ls' := [some (.ref 226), some (.int v1), some (.int v2), some (.int v3), some (.int (v4 + (nI 1)))]) (by decide +kernel) (by decide) rfl (Nat.le_of_ble_eq_true rfl) rfl rfl ?_
      refine mV_goto (off := -48) (tgt := 58) (by decide +kernel) (by decide) ?_
      exact h
    · replace h := h.2 hc
      refine mV_iload_n (k := 2) (by decide +kernel) rfl ?_
      refine mV_if_eq (off := 13) (tgt := 96) (by decide +kernel) (by decide) (fun hc => ?_) (fun hc => ?_)
      · replace h := h.1 hc
        refine mV_iload_n (k := 3) (by decide +kernel) rfl ?_
        refine mV_cS (as := [.int v3]) (rest := []) (mc1 := 0) (ms1 := 0) (mc := 0) (ms := 0) (by decide +kernel) md_X13_bits lk_13_426 rfl rfl (Nat.le_of_ble_eq_true rfl) (mC.mono (mm_contI (fun r3 G4 hK => ?_)) h)
        replace h := hK
        refine mV_iconst (n := 1) (v := nI 1) (by decide +kernel) (by decide) ?_
        refine mV_iadd (by decide +kernel) ?_
        refine mV_istore_n (k := 2) (ls' := [some (.ref 226), some (.int v1), some (.int (r3 + (nI 1))), some (.int v3), some (.int v4)]) (by decide +kernel) (Nat.le_of_ble_eq_true rfl) rfl rfl ?_
        refine mV_iincc (i := 4) (n := 1) (c := nI 1) (ls' := [some (.ref 226), some (.int v1), some (.int (r3 + (nI 1))), some (.int v3), some (.int (v4 + (nI 1)))]) (by decide +kernel) (by decide) rfl (Nat.le_of_ble_eq_true rfl) rfl rfl ?_
        refine mV_goto (off := -48) (tgt := 58) (by decide +kernel) (by decide) ?_
        exact h
      · replace h := h.2 hc
        refine mV_iload_n (k := 3) (by decide +kernel) rfl ?_
        refine mV_cS (as := [.int v3]) (rest := []) (mc1 := 0) (ms1 := 0) (mc := 0) (ms := 0) (by decide +kernel) md_X13_bits lk_13_426 rfl rfl (Nat.le_of_ble_eq_true rfl) (mC.mono (mm_contI (fun r5 G6 hK => ?_)) h)
        replace h := hK
        refine mV_iconst (n := 1) (v := nI 1) (by decide +kernel) (by decide) ?_
        refine mV_iadd (by decide +kernel) ?_
        refine mV_iload_n (k := 2) (by decide +kernel) rfl ?_
        refine mV_icmp_ge (off := 10) (tgt := 103) (by decide +kernel) (by decide) (fun hc => ?_) (fun hc => ?_)
        · replace h := h.1 hc
          refine mV_iincc (i := 4) (n := 1) (c := nI 1) (ls' := [some (.ref 226), some (.int v1), some (.int v2), some (.int v3), some (.int (v4 + (nI 1)))]) (by decide +kernel) (by decide) rfl (Nat.le_of_ble_eq_true rfl) rfl rfl ?_
          refine mV_goto (off := -48) (tgt := 58) (by decide +kernel) (by decide) ?_
          exact h
        · replace h := h.2 hc
          refine mV_iload_n (k := 3) (by decide +kernel) rfl ?_
          refine mV_cS (as := [.int v3]) (rest := []) (mc1 := 0) (ms1 := 0) (mc := 0) (ms := 0) (by decide +kernel) md_X13_bits lk_13_426 rfl rfl (Nat.le_of_ble_eq_true rfl) (mC.mono (mm_contI (fun r7 G8 hK => ?_)) h)
          replace h := hK
          refine mV_iconst (n := 1) (v := nI 1) (by decide +kernel) (by decide) ?_
          refine mV_iadd (by decide +kernel) ?_
          refine mV_istore_n (k := 2) (ls' := [some (.ref 226), some (.int v1), some (.int (r7 + (nI 1))), some (.int v3), some (.int v4)]) (by decide +kernel) (Nat.le_of_ble_eq_true rfl) rfl rfl ?_
          refine mV_iincc (i := 4) (n := 1) (c := nI 1) (ls' := [some (.ref 226), some (.int v1), some (.int (r7 + (nI 1))), some (.int v3), some (.int (v4 + (nI 1)))]) (by decide +kernel) (by decide) rfl (Nat.le_of_ble_eq_true rfl) rfl rfl ?_
          refine mV_goto (off := -48) (tgt := 58) (by decide +kernel) (by decide) ?_
          exact h
