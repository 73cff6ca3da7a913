set_option maxRecDepth 100000 in
set_option maxHeartbeats 4000000 in
theorem f_X10_spelled {l : Launch} {κ : mm_K} {d : Nat} {G : mm_G} {K : Int64 → mm_G → Prop} (a1 : Int64) (a2 : Int32) (h : K ((a1 * (lN 27)) + (((a2 - (nI 97)) + (nI 1)).toInt64)) G) : mC l κ false d 0 0 m_X10_spelled [.long a1, .int a2] G (rL K) := by
  refine mC.of (by decide) (Nat.le_of_ble_eq_true rfl) [some (.long a1), none, some (.int a2)] rfl ?_
  refine mV_lload_n (k := 0) (by decide +kernel) rfl ?_
  refine mV_ldc2 (idx := 74) (v := lN 27) (by decide +kernel) (mm_t1 87 (by decide +kernel)) ?_
  refine mV_lmul (by decide +kernel) ?_
  refine mV_iload_n (k := 2) (by decide +kernel) rfl ?_
  refine mV_bipush (n := 97) (v := nI 97) (by decide +kernel) (by decide) ?_
  refine mV_isub (by decide +kernel) ?_
  refine mV_iconst (n := 1) (v := nI 1) (by decide +kernel) (by decide) ?_
  refine mV_iadd (by decide +kernel) ?_
  refine mV_i2l (by decide +kernel) ?_
  refine mV_ladd (by decide +kernel) ?_
  exact mV_lret (by decide +kernel) rfl h
set_option maxRecDepth 100000 in
set_option maxHeartbeats 4000000 in
theorem f_X13_appends {l : Launch} {κ : mm_K} {d : Nat} {G : mm_G} {K : Int64 → mm_G → Prop} (a1 : Int64) (a2 : Int32) (h : ((¬ a2 = 0 → K (((lN 27) * a1) + (((a2 - (nI 97)) + (nI 1)).toInt64)) G) ∧ (a2 = 0 → K a1 G))) : mC l κ false d 0 0 m_X13_appends [.long a1, .int a2] G (rL K) := by
  refine mC.of (by decide) (Nat.le_of_ble_eq_true rfl) [some (.long a1), none, some (.int a2)] rfl ?_
  refine mV_iload_n (k := 2) (by decide +kernel) rfl ?_
  refine mV_if_ne (off := 7) (tgt := 8) (by decide +kernel) (by decide) (fun hc => ?_) (fun hc => ?_)
  · replace h := h.1 hc
    refine mV_ldc2 (idx := 208) (v := lN 27) (by decide +kernel) (mm_t6 77 (by decide +kernel)) ?_
    refine mV_lload_n (k := 0) (by decide +kernel) rfl ?_
    refine mV_lmul (by decide +kernel) ?_
    refine mV_iload_n (k := 2) (by decide +kernel) rfl ?_
    refine mV_bipush (n := 97) (v := nI 97) (by decide +kernel) (by decide) ?_
    refine mV_isub (by decide +kernel) ?_
    refine mV_iconst (n := 1) (v := nI 1) (by decide +kernel) (by decide) ?_
    refine mV_iadd (by decide +kernel) ?_
    refine mV_i2l (by decide +kernel) ?_
    refine mV_ladd (by decide +kernel) ?_
    exact mV_lret (by decide +kernel) rfl h
  · replace h := h.2 hc
    refine mV_lload_n (k := 0) (by decide +kernel) rfl ?_
    refine mV_goto (off := 16) (tgt := 21) (by decide +kernel) (by decide) ?_
    exact mV_lret (by decide +kernel) rfl h
set_option maxRecDepth 100000 in
set_option maxHeartbeats 4000000 in
theorem f_X13_word {l : Launch} {κ : mm_K} {d : Nat} {G : mm_G} {K : Int64 → mm_G → Prop} (a1 : Int32) (a2 : Int32) (a3 : Int32) (a4 : Int32) (a5 : Int32) (a6 : Int32) (a7 : Int32) (h : mC l κ false d 0 0 m_X13_appends [.long (lN 0), .int a1] G (rL (fun r1 G2 => mC l κ false d 0 0 m_X13_appends [.long r1, .int a2] G2 (rL (fun r3 G4 => mC l κ false d 0 0 m_X13_appends [.long r3, .int a3] G4 (rL (fun r5 G6 => mC l κ false d 0 0 m_X13_appends [.long r5, .int a4] G6 (rL (fun r7 G8 => mC l κ false d 0 0 m_X13_appends [.long r7, .int a5] G8 (rL (fun r9 G10 => mC l κ false d 0 0 m_X13_appends [.long r9, .int a6] G10 (rL (fun r11 G12 => mC l κ false d 0 0 m_X13_appends [.long r11, .int a7] G12 (rL (fun r13 G14 => K r13 G14))))))))))))))) : mC l κ false (d + 1) 0 0 m_X13_word [.int a1, .int a2, .int a3, .int a4, .int a5, .int a6, .int a7] G (rL K) := by
  refine mC.of (by decide) (Nat.le_of_ble_eq_true rfl) [some (.int a1), some (.int a2), some (.int a3), some (.int a4), some (.int a5), some (.int a6), some (.int a7)] rfl ?_
  refine mV_lconst (n := 0) (v := lN 0) (by decide +kernel) (by decide) ?_
  refine mV_iload_n (k := 0) (by decide +kernel) rfl ?_
  refine mV_cS (as := [.long (lN 0), .int a1]) (rest := []) (mc1 := 0) (ms1 := 0) (mc := 0) (ms := 0) (by decide +kernel) md_X13_appends lk_13_210 rfl rfl (Nat.le_of_ble_eq_true rfl) (mC.mono (mm_contL (fun r1 G2 hK => ?_)) h)
  replace h := hK
  refine mV_iload_n (k := 1) (by decide +kernel) rfl ?_
  refine mV_cS (as := [.long r1, .int a2]) (rest := []) (mc1 := 0) (ms1 := 0) (mc := 0) (ms := 0) (by decide +kernel) md_X13_appends lk_13_210 rfl rfl (Nat.le_of_ble_eq_true rfl) (mC.mono (mm_contL (fun r3 G4 hK => ?_)) h)
  replace h := hK
  refine mV_iload_n (k := 2) (by decide +kernel) rfl ?_
  refine mV_cS (as := [.long r3, .int a3]) (rest := []) (mc1 := 0) (ms1 := 0) (mc := 0) (ms := 0) (by decide +kernel) md_X13_appends lk_13_210 rfl rfl (Nat.le_of_ble_eq_true rfl) (mC.mono (mm_contL (fun r5 G6 hK => ?_)) h)
  replace h := hK
  refine mV_iload_n (k := 3) (by decide +kernel) rfl ?_
  refine mV_cS (as := [.long r5, .int a4]) (rest := []) (mc1 := 0) (ms1 := 0) (mc := 0) (ms := 0) (by decide +kernel) md_X13_appends lk_13_210 rfl rfl (Nat.le_of_ble_eq_true rfl) (mC.mono (mm_contL (fun r7 G8 hK => ?_)) h)
  replace h := hK
  refine mV_iload (i := 4) (by decide +kernel) rfl ?_
  refine mV_cS (as := [.long r7, .int a5]) (rest := []) (mc1 := 0) (ms1 := 0) (mc := 0) (ms := 0) (by decide +kernel) md_X13_appends lk_13_210 rfl rfl (Nat.le_of_ble_eq_true rfl) (mC.mono (mm_contL (fun r9 G10 hK => ?_)) h)
  replace h := hK
  refine mV_iload (i := 5) (by decide +kernel) rfl ?_
  refine mV_cS (as := [.long r9, .int a6]) (rest := []) (mc1 := 0) (ms1 := 0) (mc := 0) (ms := 0) (by decide +kernel) md_X13_appends lk_13_210 rfl rfl (Nat.le_of_ble_eq_true rfl) (mC.mono (mm_contL (fun r11 G12 hK => ?_)) h)
  replace h := hK
  refine mV_iload (i := 6) (by decide +kernel) rfl ?_
  refine mV_cS (as := [.long r11, .int a7]) (rest := []) (mc1 := 0) (ms1 := 0) (mc := 0) (ms := 0) (by decide +kernel) md_X13_appends lk_13_210 rfl rfl (Nat.le_of_ble_eq_true rfl) (mC.mono (mm_contL (fun r13 G14 hK => ?_)) h)
  replace h := hK
  exact mV_lret (by decide +kernel) rfl h
set_option maxRecDepth 100000 in
set_option maxHeartbeats 4000000 in
theorem f_X0_init {l : Launch} {κ : mm_K} {d : Nat} {G : mm_G} {K : mm_G → Prop} (x : Nat) (hx : mm_sh x = (0, 0, 4)) (h : mm_sh (mg_n G) = (1, 0, 8) ∧ K (ms_r (mg_b G 1) x 0 (some (mg_n G)))) : mC l κ false (d + 1) 1 8 m_X0_init [.ref x] G (rV K) := by
  refine mC.of (by decide) (Nat.le_of_ble_eq_true rfl) [some (.ref x)] rfl ?_
  refine mV_aload_n (k := 0) (by decide +kernel) rfl ?_
  refine mV_obj (idx := 3) (by decide +kernel) (mm_t1 214 (by decide +kernel)) (mm_t1 27 (by decide +kernel)) (mm_t1 28 rfl) (Nat.le_of_ble_eq_true rfl) ?_
  refine mV_aload_n (k := 0) (by decide +kernel) rfl ?_
  refine mV_bipush (n := 8) (v := nI 8) (by decide +kernel) (by decide) ?_
  have hs1 := h.1
  replace h := h.2
  refine mV_newax (at0 := .int) (t := 0) (len := 8) (n0 := (mg_n G)) (mc := 0) (ms := 0) (by decide +kernel) rfl rfl (by decide) (mm_t1 111 (by decide +kernel)) (by decide) (by decide) (by decide) hs1 (fun _ => rfl) ?_
  refine mV_pff (r := some (mg_n G)) (by decide +kernel) fk_0_9 rfl (fun _ _ h => by cases h; rfl) hx rfl rfl ?_
  exact mV_vret (by decide +kernel) rfl h
set_option maxRecDepth 100000 in
set_option maxHeartbeats 4000000 in
theorem f_X6_init {l : Launch} {κ : mm_K} {d : Nat} {G : mm_G} {K : mm_G → Prop} (x : Nat) (hx : mm_sh x = (0, 6, 4)) (h : mm_sh (mg_n G) = (1, 4, 16) ∧ K (ms_r (mg_b G 1) x 0 (some (mg_n G)))) : mC l κ false (d + 1) 1 16 m_X6_init [.ref x] G (rV K) := by
  refine mC.of (by decide) (Nat.le_of_ble_eq_true rfl) [some (.ref x)] rfl ?_
  refine mV_aload_n (k := 0) (by decide +kernel) rfl ?_
  refine mV_obj (idx := 3) (by decide +kernel) (mm_t1 132 (by decide +kernel)) (mm_t1 27 (by decide +kernel)) (mm_t1 28 rfl) (Nat.le_of_ble_eq_true rfl) ?_
  refine mV_aload_n (k := 0) (by decide +kernel) rfl ?_
  refine mV_bipush (n := 16) (v := nI 16) (by decide +kernel) (by decide) ?_
  have hs1 := h.1
  replace h := h.2
  refine mV_anewx (idx := 9) (t := 4) (len := 16) (n0 := (mg_n G)) (mc := 0) (ms := 0) (C := RX1) (by decide +kernel) rfl rfl (by decide) (mm_t1 133 (by decide +kernel)) (by decide) (by decide) (by decide) (by decide) hs1 (fun _ => rfl) ?_
  refine mV_pff (r := some (mg_n G)) (by decide +kernel) fk_6_11 rfl (fun _ _ h => by cases h; rfl) hx rfl rfl ?_
  exact mV_vret (by decide +kernel) rfl h
set_option maxRecDepth 100000 in
set_option maxHeartbeats 4000000 in
theorem f_X7_init {l : Launch} {κ : mm_K} {d : Nat} {G : mm_G} {K : mm_G → Prop} (x : Nat) (hx : mm_sh x = (0, 7, 6)) (h : mm_sh (mg_n G) = (1, 5, 4) ∧ mm_sh (mg_n G + 1) = (1, 0, 20) ∧ mm_sh (mg_n G + 2) = (1, 0, 20) ∧ mV l κ false (d + 2) 8 80 m_X7_init 30 [some (.ref x), some (.int (nI 0))] [] (ms_r (mg_b (ms_r (mg_b (ms_r (mg_b G 1) x 0 (some (mg_n G))) 1) x 2 (some (mg_n G + 1))) 1) x 3 (some (mg_n G + 2))) (rV K)) : mC l κ false (d + 2) 11 124 m_X7_init [.ref x] G (rV K) := by
  refine mC.of (by decide) (Nat.le_of_ble_eq_true rfl) [some (.ref x), none] rfl ?_
  refine mV_aload_n (k := 0) (by decide +kernel) rfl ?_
  refine mV_obj (idx := 3) (by decide +kernel) (mm_t1 125 (by decide +kernel)) (mm_t1 27 (by decide +kernel)) (mm_t1 28 rfl) (Nat.le_of_ble_eq_true rfl) ?_
  refine mV_aload_n (k := 0) (by decide +kernel) rfl ?_
  refine mV_iconst (n := 4) (v := nI 4) (by decide +kernel) (by decide) ?_
  have hs1 := h.1
  replace h := h.2
  refine mV_anewx (idx := 9) (t := 5) (len := 4) (n0 := (mg_n G)) (mc := 10) (ms := 120) (C := RX6) (by decide +kernel) rfl rfl (by decide) (mm_t1 126 (by decide +kernel)) (by decide) (by decide) (by decide) (by decide) hs1 (fun _ => rfl) ?_
  refine mV_pff (r := some (mg_n G)) (by decide +kernel) fk_7_11 rfl (fun _ _ h => by cases h; rfl) hx rfl rfl ?_
  refine mV_aload_n (k := 0) (by decide +kernel) rfl ?_
  refine mV_bipush (n := 20) (v := nI 20) (by decide +kernel) (by decide) ?_
  have hs2 := h.1
  replace h := h.2
  refine mV_newax (at0 := .int) (t := 0) (len := 20) (n0 := (mg_n G + 1)) (mc := 9) (ms := 100) (by decide +kernel) rfl rfl (by decide) (mm_t1 111 (by decide +kernel)) (by decide) (by decide) (by decide) hs2 (fun _ => rfl) ?_
  refine mV_pff (r := some (mg_n G + 1)) (by decide +kernel) fk_7_17 rfl (fun _ _ h => by cases h; rfl) hx rfl rfl ?_
  refine mV_aload_n (k := 0) (by decide +kernel) rfl ?_
  refine mV_bipush (n := 20) (v := nI 20) (by decide +kernel) (by decide) ?_
  have hs3 := h.1
  replace h := h.2
  refine mV_newax (at0 := .int) (t := 0) (len := 20) (n0 := (mg_n G + 2)) (mc := 8) (ms := 80) (by decide +kernel) rfl rfl (by decide) (mm_t1 111 (by decide +kernel)) (by decide) (by decide) (by decide) hs3 (fun _ => rfl) ?_
  refine mV_pff (r := some (mg_n G + 2)) (by decide +kernel) fk_7_21 rfl (fun _ _ h => by cases h; rfl) hx rfl rfl ?_
  refine mV_iconst (n := 0) (v := nI 0) (by decide +kernel) (by decide) ?_
  refine mV_istore_n (k := 1) (ls' := [some (.ref x), some (.int (nI 0))]) (by decide +kernel) (Nat.le_of_ble_eq_true rfl) rfl rfl ?_
  exact h
set_option maxRecDepth 100000 in
set_option maxHeartbeats 4000000 in
theorem q_X7_init_30 {l : Launch} {κ : mm_K} {d mc ms : Nat} {G : mm_G} {K : mm_G → Prop} (x : Nat) (hx : mm_sh x = (0, 7, 6)) (v1 : Int32) (h : (((nI 4) ≤ v1 → K G) ∧ (¬ (nI 4) ≤ v1 → ∃ t1, mg_r G x 0 = some t1 ∧ mm_sh t1 = (1, 5, 4) ∧ ∃ c2 s3, mc = 1 + c2 ∧ ms = 4 + s3 ∧ mm_sh (mg_n G) = (0, 6, 4) ∧ ∃ c7 s8, c2 = 1 + c7 ∧ s3 = 16 + s8 ∧ mC l κ false (d + 1) 1 16 m_X6_init [.ref (mg_n G)] (mg_b G 1) (rV (fun G6 => vp_in v1 4 ∧ ∃ t9, mg_r (ms_r G6 t1 v1.toNatClampNeg (some (mg_n G))) x 0 = some t9 ∧ mm_sh t9 = (1, 5, 4) ∧ vp_in v1 4 ∧ ∃ t11, mg_r (ms_r G6 t1 v1.toNatClampNeg (some (mg_n G))) t9 v1.toNatClampNeg = some t11 ∧ mm_sh t11 = (0, 6, 4) ∧ mV l κ false (d + 2) c7 s8 m_X7_init 30 [some (.ref x), some (.int (v1 + (nI 1)))] [] (ms_i (ms_r G6 t1 v1.toNatClampNeg (some (mg_n G))) t11 2 v1) (rV K)))))) : mV l κ false (d + 2) mc ms m_X7_init 30 [some (.ref x), some (.int v1)] [] G (rV K) := by
  refine mV_iload_n (k := 1) (by decide +kernel) rfl ?_
  refine mV_iconst (n := 4) (v := nI 4) (by decide +kernel) (by decide) ?_
  refine mV_icmp_ge (off := 32) (tgt := 64) (by decide +kernel) (by decide) (fun hc => ?_) (fun hc => ?_)
  · replace h := h.1 hc
    exact mV_vret (by decide +kernel) rfl h
  · replace h := h.2 hc
    refine mV_aload_n (k := 0) (by decide +kernel) rfl ?_
    obtain ⟨t1, hrt1, hst1, h⟩ := h
    refine mV_gfr (r := some t1) (by decide +kernel) fk_7_11 hx hrt1 rfl ?_
    refine mV_iload_n (k := 1) (by decide +kernel) rfl ?_
    obtain ⟨c2, s3, rfl, rfl, h⟩ := h
    have hs4 := h.1
    replace h := h.2
    refine mV_newx (idx := 9) (ci := 6) (N := 4) (n0 := (mg_n G)) (mc := c2) (ms := s3) (by decide +kernel) rfl (mm_t1 126 (by decide +kernel)) (mm_t1 128 (by decide +kernel)) (mm_t1 9 (by decide +kernel)) rfl hs4 (fun _ => rfl) ?_
    refine mV_dup (by decide +kernel) rfl ?_
    obtain ⟨c7, s8, rfl, rfl, h⟩ := h
    refine mV_cIN (b := (mg_n G)) (as := []) (rest := [.ref (mg_n G), .int v1, .ref t1]) (mc1 := 1) (ms1 := 16) (mc := c7) (ms := s8) (by decide +kernel) md_X6_init rfl lk_7_24 rfl rfl (Nat.le_of_ble_eq_true rfl) (mC.mono (mm_contV (fun G6 hK => ?_)) h)
    replace h := hK
    refine mV_aas (t := 5) (by decide +kernel) hst1 (by decide) rfl hs4 rfl h.1 rfl ?_
    replace h := h.2
    refine mV_aload_n (k := 0) (by decide +kernel) rfl ?_
    obtain ⟨t9, hrt9, hst9, h⟩ := h
    refine mV_gfr (r := some t9) (by decide +kernel) fk_7_11 hx hrt9 rfl ?_
    refine mV_iload_n (k := 1) (by decide +kernel) rfl ?_
    obtain ⟨hj10, t11, hrt11, hst11, h⟩ := h
    refine mV_aal (t := 5) (r := some t11) (by decide +kernel) hst9 (by decide) hj10 hrt11 rfl ?_
    refine mV_iload_n (k := 1) (by decide +kernel) rfl ?_
    refine mV_pfi (by decide +kernel) fk_7_25 hst11 ?_
    refine mV_iincc (i := 1) (n := 1) (c := nI 1) (ls' := [some (.ref x), some (.int (v1 + (nI 1)))]) (by decide +kernel) (by decide) rfl (Nat.le_of_ble_eq_true rfl) rfl rfl ?_
    refine mV_goto (off := -31) (tgt := 30) (by decide +kernel) (by decide) ?_
    exact h
set_option maxRecDepth 100000 in
set_option maxHeartbeats 4000000 in
theorem f_X11_init {l : Launch} {κ : mm_K} {d : Nat} {G : mm_G} {K : mm_G → Prop} (x : Nat) (hx : mm_sh x = (0, 11, 6)) (h : mm_sh (mg_n G) = (1, 8, 8) ∧ (∀ j, j < 8 → mm_sh ((mg_n G) + 1 + j) = (1, 0, 6)) ∧ mm_sh (mg_n G + 9) = (1, 0, 8) ∧ mm_sh (mg_n G + 10) = (1, 7, 8) ∧ mm_sh (mg_n G + 11) = (1, 2, 8) ∧ mV l κ false (d + 2) 16 96 m_X11_init 49 [some (.ref x), some (.int (nI 0))] [] (ms_i (ms_r (mg_b (ms_r (mg_b (ms_r (mg_b (ms_r (mm_fillr G 8) x 0 (some (mg_n G))) 1) x 1 (some (mg_n G + 9))) 1) x 2 (some (mg_n G + 10))) 1) x 3 (some (mg_n G + 11))) x 5 (nI 100)) (rV K)) : mC l κ false (d + 2) 28 176 m_X11_init [.ref x] G (rV K) := by
  refine mC.of (by decide) (Nat.le_of_ble_eq_true rfl) [some (.ref x), none] rfl ?_
  refine mV_aload_n (k := 0) (by decide +kernel) rfl ?_
  refine mV_obj (idx := 3) (by decide +kernel) (mm_t1 205 (by decide +kernel)) (mm_t1 27 (by decide +kernel)) (mm_t1 28 rfl) (Nat.le_of_ble_eq_true rfl) ?_
  refine mV_aload_n (k := 0) (by decide +kernel) rfl ?_
  refine mV_bipush (n := 8) (v := nI 8) (by decide +kernel) (by decide) ?_
  refine mV_bipush (n := 6) (v := nI 6) (by decide +kernel) (by decide) ?_
  have hs1 := h.1
  have hs1b := h.2.1
  replace h := h.2.2
  refine mV_mnax (idx := 9) (N := 8) (K := 6) (n0 := (mg_n G)) (mc := 19) (ms := 120) (by decide +kernel) rfl (mm_t1 206 (by decide +kernel)) (mm_t1 111 (by decide +kernel)) (by decide) (by decide) (by decide) (by decide) (by decide) hs1 hs1b ?_
  refine mV_pff (r := some (mg_n G)) (by decide +kernel) fk_11_11 rfl (fun _ _ h => by cases h; rfl) hx rfl rfl ?_
  refine mV_aload_n (k := 0) (by decide +kernel) rfl ?_
  refine mV_bipush (n := 8) (v := nI 8) (by decide +kernel) (by decide) ?_
  have hs2 := h.1
  replace h := h.2
  refine mV_newax (at0 := .int) (t := 0) (len := 8) (n0 := (mg_n G + 9)) (mc := 18) (ms := 112) (by decide +kernel) rfl rfl (by decide) (mm_t1 111 (by decide +kernel)) (by decide) (by decide) (by decide) hs2 (fun _ => rfl) ?_
  refine mV_pff (r := some (mg_n G + 9)) (by decide +kernel) fk_11_16 rfl (fun _ _ h => by cases h; rfl) hx rfl rfl ?_
  refine mV_aload_n (k := 0) (by decide +kernel) rfl ?_
  refine mV_bipush (n := 8) (v := nI 8) (by decide +kernel) (by decide) ?_
  have hs3 := h.1
  replace h := h.2
  refine mV_anewx (idx := 20) (t := 7) (len := 8) (n0 := (mg_n G + 10)) (mc := 17) (ms := 104) (C := RX0) (by decide +kernel) rfl rfl (by decide) (mm_t1 208 (by decide +kernel)) (by decide) (by decide) (by decide) (by decide) hs3 (fun _ => rfl) ?_
  refine mV_pff (r := some (mg_n G + 10)) (by decide +kernel) fk_11_22 rfl (fun _ _ h => by cases h; rfl) hx rfl rfl ?_
  refine mV_aload_n (k := 0) (by decide +kernel) rfl ?_
  refine mV_bipush (n := 8) (v := nI 8) (by decide +kernel) (by decide) ?_
  have hs4 := h.1
  replace h := h.2
  refine mV_newax (at0 := .boolean) (t := 2) (len := 8) (n0 := (mg_n G + 11)) (mc := 16) (ms := 96) (by decide +kernel) rfl rfl (by decide) (mm_t2 1 (by decide +kernel)) (by decide) (by decide) (by decide) hs4 (fun _ => rfl) ?_
  refine mV_pff (r := some (mg_n G + 11)) (by decide +kernel) fk_11_26 rfl (fun _ _ h => by cases h; rfl) hx rfl rfl ?_
  refine mV_aload_n (k := 0) (by decide +kernel) rfl ?_
  refine mV_bipush (n := 100) (v := nI 100) (by decide +kernel) (by decide) ?_
  refine mV_pfi (by decide +kernel) fk_11_30 hx ?_
  refine mV_iconst (n := 0) (v := nI 0) (by decide +kernel) (by decide) ?_
  refine mV_istore_n (k := 1) (ls' := [some (.ref x), some (.int (nI 0))]) (by decide +kernel) (Nat.le_of_ble_eq_true rfl) rfl rfl ?_
  exact h
set_option maxRecDepth 100000 in
set_option maxHeartbeats 4000000 in
theorem q_X11_init_49 {l : Launch} {κ : mm_K} {d mc ms : Nat} {G : mm_G} {K : mm_G → Prop} (x : Nat) (hx : mm_sh x = (0, 11, 6)) (v1 : Int32) (h : (((nI 8) ≤ v1 → K G) ∧ (¬ (nI 8) ≤ v1 → ∃ t1, mg_r G x 2 = some t1 ∧ mm_sh t1 = (1, 7, 8) ∧ ∃ c2 s3, mc = 1 + c2 ∧ ms = 4 + s3 ∧ mm_sh (mg_n G) = (0, 0, 4) ∧ ∃ c7 s8, c2 = 1 + c7 ∧ s3 = 8 + s8 ∧ mC l κ false (d + 1) 1 8 m_X0_init [.ref (mg_n G)] (mg_b G 1) (rV (fun G6 => vp_in v1 8 ∧ mV l κ false (d + 2) c7 s8 m_X11_init 49 [some (.ref x), some (.int (v1 + (nI 1)))] [] (ms_r G6 t1 v1.toNatClampNeg (some (mg_n G))) (rV K)))))) : mV l κ false (d + 2) mc ms m_X11_init 49 [some (.ref x), some (.int v1)] [] G (rV K) := by
  refine mV_iload_n (k := 1) (by decide +kernel) rfl ?_
  refine mV_bipush (n := 8) (v := nI 8) (by decide +kernel) (by decide) ?_
  refine mV_icmp_ge (off := 22) (tgt := 74) (by decide +kernel) (by decide) (fun hc => ?_) (fun hc => ?_)
  · replace h := h.1 hc
    exact mV_vret (by decide +kernel) rfl h
  · replace h := h.2 hc
    refine mV_aload_n (k := 0) (by decide +kernel) rfl ?_
    obtain ⟨t1, hrt1, hst1, h⟩ := h
    refine mV_gfr (r := some t1) (by decide +kernel) fk_11_22 hx hrt1 rfl ?_
    refine mV_iload_n (k := 1) (by decide +kernel) rfl ?_
    obtain ⟨c2, s3, rfl, rfl, h⟩ := h
    have hs4 := h.1
    replace h := h.2
    refine mV_newx (idx := 20) (ci := 0) (N := 4) (n0 := (mg_n G)) (mc := c2) (ms := s3) (by decide +kernel) rfl (mm_t1 208 (by decide +kernel)) (mm_t1 210 (by decide +kernel)) (mm_t1 11 (by decide +kernel)) rfl hs4 (fun _ => rfl) ?_
    refine mV_dup (by decide +kernel) rfl ?_
    obtain ⟨c7, s8, rfl, rfl, h⟩ := h
    refine mV_cIN (b := (mg_n G)) (as := []) (rest := [.ref (mg_n G), .int v1, .ref t1]) (mc1 := 1) (ms1 := 8) (mc := c7) (ms := s8) (by decide +kernel) md_X0_init rfl lk_11_34 rfl rfl (Nat.le_of_ble_eq_true rfl) (mC.mono (mm_contV (fun G6 hK => ?_)) h)
    replace h := hK
    refine mV_aas (t := 7) (by decide +kernel) hst1 (by decide) rfl hs4 rfl h.1 rfl ?_
    replace h := h.2
    refine mV_iincc (i := 1) (n := 1) (c := nI 1) (ls' := [some (.ref x), some (.int (v1 + (nI 1)))]) (by decide +kernel) (by decide) rfl (Nat.le_of_ble_eq_true rfl) rfl rfl ?_
    refine mV_goto (off := -22) (tgt := 49) (by decide +kernel) (by decide) ?_
    exact h
set_option maxRecDepth 100000 in
set_option maxHeartbeats 4000000 in
theorem f_X10_init {l : Launch} {κ : mm_K} {d : Nat} {G : mm_G} {K : mm_G → Prop} (x : Nat) (hx : mm_sh x = (0, 10, 6)) (h : mm_sh (mg_n G) = (1, 0, 2000) ∧ mm_sh (mg_n G + 1) = (1, 0, 401) ∧ mm_sh (mg_n G + 2) = (1, 0, 401) ∧ mm_sh (mg_n G + 3) = (1, 3, 401) ∧ mm_sh (mg_n G + 4) = (1, 3, 20) ∧ mV l κ false (d + 4) 0 0 m_X10_init 52 [some (.ref x), some (.int (nI 0)), some (.int (nI 0))] [] (ms_r (mg_b (ms_r (mg_b (ms_r (mg_b (ms_r (mg_b (ms_r (mg_b G 1) x 0 (some (mg_n G))) 1) x 1 (some (mg_n G + 1))) 1) x 2 (some (mg_n G + 2))) 1) x 3 (some (mg_n G + 3))) 1) x 5 (some (mg_n G + 4))) (rV K)) : mC l κ false (d + 4) 5 3223 m_X10_init [.ref x] G (rV K) := by
  refine mC.of (by decide) (Nat.le_of_ble_eq_true rfl) [some (.ref x), none, none] rfl ?_
  refine mV_aload_n (k := 0) (by decide +kernel) rfl ?_
  refine mV_obj (idx := 3) (by decide +kernel) (mm_t1 34 (by decide +kernel)) (mm_t1 27 (by decide +kernel)) (mm_t1 28 rfl) (Nat.le_of_ble_eq_true rfl) ?_
  refine mV_aload_n (k := 0) (by decide +kernel) rfl ?_
  refine mV_sipush (n := 2000) (v := nI 2000) (by decide +kernel) (by decide) ?_
  have hs1 := h.1
  replace h := h.2
  refine mV_newax (at0 := .int) (t := 0) (len := 2000) (n0 := (mg_n G)) (mc := 4) (ms := 1223) (by decide +kernel) rfl rfl (by decide) (mm_t1 111 (by decide +kernel)) (by decide) (by decide) (by decide) hs1 (fun _ => rfl) ?_
  refine mV_pff (r := some (mg_n G)) (by decide +kernel) fk_10_9 rfl (fun _ _ h => by cases h; rfl) hx rfl rfl ?_
  refine mV_aload_n (k := 0) (by decide +kernel) rfl ?_
  refine mV_sipush (n := 401) (v := nI 401) (by decide +kernel) (by decide) ?_
  have hs2 := h.1
  replace h := h.2
  refine mV_newax (at0 := .int) (t := 0) (len := 401) (n0 := (mg_n G + 1)) (mc := 3) (ms := 822) (by decide +kernel) rfl rfl (by decide) (mm_t1 111 (by decide +kernel)) (by decide) (by decide) (by decide) hs2 (fun _ => rfl) ?_
  refine mV_pff (r := some (mg_n G + 1)) (by decide +kernel) fk_10_15 rfl (fun _ _ h => by cases h; rfl) hx rfl rfl ?_
  refine mV_aload_n (k := 0) (by decide +kernel) rfl ?_
  refine mV_sipush (n := 401) (v := nI 401) (by decide +kernel) (by decide) ?_
  have hs3 := h.1
  replace h := h.2
  refine mV_newax (at0 := .int) (t := 0) (len := 401) (n0 := (mg_n G + 2)) (mc := 2) (ms := 421) (by decide +kernel) rfl rfl (by decide) (mm_t1 111 (by decide +kernel)) (by decide) (by decide) (by decide) hs3 (fun _ => rfl) ?_
  refine mV_pff (r := some (mg_n G + 2)) (by decide +kernel) fk_10_18 rfl (fun _ _ h => by cases h; rfl) hx rfl rfl ?_
  refine mV_aload_n (k := 0) (by decide +kernel) rfl ?_
  refine mV_sipush (n := 401) (v := nI 401) (by decide +kernel) (by decide) ?_
  have hs4 := h.1
  replace h := h.2
  refine mV_newax (at0 := .long) (t := 3) (len := 401) (n0 := (mg_n G + 3)) (mc := 1) (ms := 20) (by decide +kernel) rfl rfl (by decide) (mm_t1 112 (by decide +kernel)) (by decide) (by decide) (by decide) hs4 (fun _ => rfl) ?_
  refine mV_pff (r := some (mg_n G + 3)) (by decide +kernel) fk_10_21 rfl (fun _ _ h => by cases h; rfl) hx rfl rfl ?_
  refine mV_aload_n (k := 0) (by decide +kernel) rfl ?_
  refine mV_bipush (n := 20) (v := nI 20) (by decide +kernel) (by decide) ?_
  have hs5 := h.1
  replace h := h.2
  refine mV_newax (at0 := .long) (t := 3) (len := 20) (n0 := (mg_n G + 4)) (mc := 0) (ms := 0) (by decide +kernel) rfl rfl (by decide) (mm_t1 112 (by decide +kernel)) (by decide) (by decide) (by decide) hs5 (fun _ => rfl) ?_
  refine mV_pff (r := some (mg_n G + 4)) (by decide +kernel) fk_10_25 rfl (fun _ _ h => by cases h; rfl) hx rfl rfl ?_
  refine mV_iconst (n := 0) (v := nI 0) (by decide +kernel) (by decide) ?_
  refine mV_istore_n (k := 1) (ls' := [some (.ref x), some (.int (nI 0)), none]) (by decide +kernel) (Nat.le_of_ble_eq_true rfl) rfl rfl ?_
  refine mV_iconst (n := 0) (v := nI 0) (by decide +kernel) (by decide) ?_
  refine mV_istore_n (k := 2) (ls' := [some (.ref x), some (.int (nI 0)), some (.int (nI 0))]) (by decide +kernel) (Nat.le_of_ble_eq_true rfl) rfl rfl ?_
  exact h
set_option maxRecDepth 100000 in
set_option maxHeartbeats 4000000 in
theorem q_X10_init_52 {l : Launch} {κ : mm_K} {d mc ms : Nat} {G : mm_G} {K : mm_G → Prop} (x : Nat) (hx : mm_sh x = (0, 10, 6)) (v1 : Int32) (v2 : Int32) (h : mC l κ false (d + 3) 0 0 m_J0_length_8abf5 [.retAddr 0] G (rI (fun r1 G2 => ((r1 ≤ v2 → K G2) ∧ (¬ r1 ≤ v2 → (((nI 20) ≤ v1 → K G2) ∧ (¬ (nI 20) ≤ v1 → mC l κ false (d + 3) 0 0 m_J0_charAt_5068e [.retAddr 0, .int v2] G2 (rI (fun r3 G4 => ((¬ r3 = (nI 32) → ∃ t5, mg_r G4 x 5 = some t5 ∧ mm_sh t5 = (1, 3, 20) ∧ ∃ t6, mg_r G4 x 5 = some t6 ∧ mm_sh t6 = (1, 3, 20) ∧ vp_in v1 20 ∧ mC l κ false (d + 3) 0 0 m_J0_charAt_5068e [.retAddr 0, .int v2] G4 (rI (fun r7 G8 => mC l κ false (d + 3) 0 0 m_X10_spelled [.long (mg_l G4 t6 v1.toNatClampNeg), .int r7] G8 (rL (fun r9 G10 => vp_in v1 20 ∧ mV l κ false (d + 4) mc ms m_X10_init 52 [some (.ref x), some (.int v1), some (.int (v2 + (nI 1)))] [] (ms_l G10 t5 v1.toNatClampNeg r9) (rV K)))))) ∧ (r3 = (nI 32) → mV l κ false (d + 4) mc ms m_X10_init 52 [some (.ref x), some (.int (v1 + (nI 1))), some (.int (v2 + (nI 1)))] [] G4 (rV K)))))))))))) : mV l κ false (d + 4) mc ms m_X10_init 52 [some (.ref x), some (.int v1), some (.int v2)] [] G (rV K) := by
  refine mV_iload_n (k := 2) (by decide +kernel) rfl ?_
  refine mV_ldcS (by decide +kernel) rfl ?_
  refine mV_bud (mc' := 0 + mc) (ms' := 0 + ms) (Nat.zero_add _) (Nat.zero_add _) ?_
  refine mV_cVs (as := []) (rest := [.int v2]) (mc1 := 0) (ms1 := 0) (mc := mc) (ms := ms) (by decide +kernel) md_J0_length_8abf5 lk_10_30 rfl rfl rfl (Nat.le_of_ble_eq_true rfl) (mC.mono (mm_contI (fun r1 G2 hK => ?_)) h)
  replace h := hK
  refine mV_icmp_ge (off := 53) (tgt := 111) (by decide +kernel) (by decide) (fun hc => ?_) (fun hc => ?_)
  · replace h := h.1 hc
    exact mV_vret (by decide +kernel) rfl h
  · replace h := h.2 hc
    refine mV_iload_n (k := 1) (by decide +kernel) rfl ?_
    refine mV_bipush (n := 20) (v := nI 20) (by decide +kernel) (by decide) ?_
    refine mV_icmp_ge (off := 47) (tgt := 111) (by decide +kernel) (by decide) (fun hc => ?_) (fun hc => ?_)
    · replace h := h.1 hc
      exact mV_vret (by decide +kernel) rfl h
    · replace h := h.2 hc
      refine mV_ldcS (by decide +kernel) rfl ?_
      refine mV_iload_n (k := 2) (by decide +kernel) rfl ?_
      refine mV_bud (mc' := 0 + mc) (ms' := 0 + ms) (Nat.zero_add _) (Nat.zero_add _) ?_
      refine mV_cVs (as := [.int v2]) (rest := []) (mc1 := 0) (ms1 := 0) (mc := mc) (ms := ms) (by decide +kernel) md_J0_charAt_5068e lk_10_36 rfl rfl rfl (Nat.le_of_ble_eq_true rfl) (mC.mono (mm_contI (fun r3 G4 hK => ?_)) h)
      replace h := hK
      refine mV_bipush (n := 32) (v := nI 32) (by decide +kernel) (by decide) ?_
      refine mV_icmp_ne (off := 9) (tgt := 84) (by decide +kernel) (by decide) (fun hc => ?_) (fun hc => ?_)
      · replace h := h.1 hc
        refine mV_aload_n (k := 0) (by decide +kernel) rfl ?_
        obtain ⟨t5, hrt5, hst5, h⟩ := h
        refine mV_gfr (r := some t5) (by decide +kernel) fk_10_25 hx hrt5 rfl ?_
        refine mV_iload_n (k := 1) (by decide +kernel) rfl ?_
        refine mV_aload_n (k := 0) (by decide +kernel) rfl ?_
        obtain ⟨t6, hrt6, hst6, h⟩ := h
        refine mV_gfr (r := some t6) (by decide +kernel) fk_10_25 hx hrt6 rfl ?_
        refine mV_iload_n (k := 1) (by decide +kernel) rfl ?_
        refine mV_lalx (x := mg_l G4 t6 v1.toNatClampNeg) (by decide +kernel) hst6 h.1 rfl ?_
        replace h := h.2
        refine mV_ldcS (by decide +kernel) rfl ?_
        refine mV_iload_n (k := 2) (by decide +kernel) rfl ?_
        refine mV_bud (mc' := 0 + mc) (ms' := 0 + ms) (Nat.zero_add _) (Nat.zero_add _) ?_
        refine mV_cVs (as := [.int v2]) (rest := [.long (mg_l G4 t6 v1.toNatClampNeg), .int v1, .ref t5]) (mc1 := 0) (ms1 := 0) (mc := mc) (ms := ms) (by decide +kernel) md_J0_charAt_5068e lk_10_36 rfl rfl rfl (Nat.le_of_ble_eq_true rfl) (mC.mono (mm_contI (fun r7 G8 hK => ?_)) h)
        replace h := hK
        refine mV_bud (mc' := 0 + mc) (ms' := 0 + ms) (Nat.zero_add _) (Nat.zero_add _) ?_
        refine mV_cS (as := [.long (mg_l G4 t6 v1.toNatClampNeg), .int r7]) (rest := [.int v1, .ref t5]) (mc1 := 0) (ms1 := 0) (mc := mc) (ms := ms) (by decide +kernel) md_X10_spelled lk_10_40 rfl rfl (Nat.le_of_ble_eq_true rfl) (mC.mono (mm_contL (fun r9 G10 hK => ?_)) h)
        replace h := hK
        refine mV_las (by decide +kernel) hst5 h.1 ?_
        replace h := h.2
        refine mV_iincc (i := 2) (n := 1) (c := nI 1) (ls' := [some (.ref x), some (.int v1), some (.int (v2 + (nI 1)))]) (by decide +kernel) (by decide) rfl (Nat.le_of_ble_eq_true rfl) rfl rfl ?_
        refine mV_goto (off := -56) (tgt := 52) (by decide +kernel) (by decide) ?_
        exact h
      · replace h := h.2 hc
        refine mV_iincc (i := 1) (n := 1) (c := nI 1) (ls' := [some (.ref x), some (.int (v1 + (nI 1))), some (.int v2)]) (by decide +kernel) (by decide) rfl (Nat.le_of_ble_eq_true rfl) rfl rfl ?_
        refine mV_goto (off := 24) (tgt := 105) (by decide +kernel) (by decide) ?_
        refine mV_iincc (i := 2) (n := 1) (c := nI 1) (ls' := [some (.ref x), some (.int (v1 + (nI 1))), some (.int (v2 + (nI 1)))]) (by decide +kernel) (by decide) rfl (Nat.le_of_ble_eq_true rfl) rfl rfl ?_
        refine mV_goto (off := -56) (tgt := 52) (by decide +kernel) (by decide) ?_
        exact h
set_option maxRecDepth 100000 in
set_option maxHeartbeats 4000000 in
theorem f_X5_init {l : Launch} {κ : mm_K} {d : Nat} {G : mm_G} {K : mm_G → Prop} (x : Nat) (hx : mm_sh x = (0, 5, 10)) (a1 : Nat) (h : mm_sh (mg_n G) = (0, 7, 6) ∧ mC l κ false (d + 2) 11 124 m_X7_init [.ref (mg_n G)] (mg_b G 1) (rV (fun G3 => mm_sh (mg_n G3) = (0, 11, 6) ∧ mC l κ false (d + 2) 28 176 m_X11_init [.ref (mg_n G3)] (mg_b (ms_r G3 x 0 (some (mg_n G))) 1) (rV (fun G6 => mm_sh (mg_n G6) = (1, 0, 16) ∧ K (ms_r (ms_r (mg_b (ms_r G6 x 1 (some (mg_n G3))) 1) x 5 (some (mg_n G6))) x 4 (some a1))))))) : mC l κ false (d + 3) 42 328 m_X5_init [.ref x, .ref a1] G (rV K) := by
  refine mC.of (by decide) (Nat.le_of_ble_eq_true rfl) [some (.ref x), some (.ref a1)] rfl ?_
  refine mV_aload_n (k := 0) (by decide +kernel) rfl ?_
  refine mV_obj (idx := 3) (by decide +kernel) (mm_t1 119 (by decide +kernel)) (mm_t1 27 (by decide +kernel)) (mm_t1 28 rfl) (Nat.le_of_ble_eq_true rfl) ?_
  refine mV_aload_n (k := 0) (by decide +kernel) rfl ?_
  have hs1 := h.1
  replace h := h.2
  refine mV_newx (idx := 9) (ci := 7) (N := 6) (n0 := (mg_n G)) (mc := 41) (ms := 322) (by decide +kernel) rfl (mm_t1 120 (by decide +kernel)) (mm_t1 121 (by decide +kernel)) (mm_t1 8 (by decide +kernel)) rfl hs1 (fun _ => rfl) ?_
  refine mV_dup (by decide +kernel) rfl ?_
  refine mV_cI (b := (mg_n G)) (as := []) (rest := [.ref (mg_n G), .ref x]) (mc1 := 11) (ms1 := 124) (mc := 30) (ms := 198) (by decide +kernel) md_X7_init rfl lk_5_11 rfl rfl (Nat.le_of_ble_eq_true rfl) (mC.mono (mm_contV (fun G3 hK => ?_)) h)
  replace h := hK
  refine mV_pff (r := some (mg_n G)) (by decide +kernel) fk_5_12 rfl (fun _ _ h => by cases h; rfl) hx rfl rfl ?_
  refine mV_aload_n (k := 0) (by decide +kernel) rfl ?_
  have hs4 := h.1
  replace h := h.2
  refine mV_newx (idx := 18) (ci := 11) (N := 6) (n0 := (mg_n G3)) (mc := 29) (ms := 192) (by decide +kernel) rfl (mm_t1 200 (by decide +kernel)) (mm_t1 201 (by decide +kernel)) (mm_t1 10 (by decide +kernel)) rfl hs4 (fun _ => rfl) ?_
  refine mV_dup (by decide +kernel) rfl ?_
  refine mV_cI (b := (mg_n G3)) (as := []) (rest := [.ref (mg_n G3), .ref x]) (mc1 := 28) (ms1 := 176) (mc := 1) (ms := 16) (by decide +kernel) md_X11_init rfl lk_5_20 rfl rfl (Nat.le_of_ble_eq_true rfl) (mC.mono (mm_contV (fun G6 hK => ?_)) h)
  replace h := hK
  refine mV_pff (r := some (mg_n G3)) (by decide +kernel) fk_5_21 rfl (fun _ _ h => by cases h; rfl) hx rfl rfl ?_
  refine mV_aload_n (k := 0) (by decide +kernel) rfl ?_
  refine mV_bipush (n := 16) (v := nI 16) (by decide +kernel) (by decide) ?_
  have hs7 := h.1
  replace h := h.2
  refine mV_newax (at0 := .int) (t := 0) (len := 16) (n0 := (mg_n G6)) (mc := 0) (ms := 0) (by decide +kernel) rfl rfl (by decide) (mm_t1 111 (by decide +kernel)) (by decide) (by decide) (by decide) hs7 (fun _ => rfl) ?_
  refine mV_pff (r := some (mg_n G6)) (by decide +kernel) fk_5_25 rfl (fun _ _ h => by cases h; rfl) hx rfl rfl ?_
  refine mV_aload_n (k := 0) (by decide +kernel) rfl ?_
  refine mV_aload_n (k := 1) (by decide +kernel) rfl ?_
  refine mV_pff (r := some a1) (by decide +kernel) fk_5_29 rfl (fun _ _ h => by cases h; rfl) hx rfl rfl ?_
  exact mV_vret (by decide +kernel) rfl h
set_option maxRecDepth 100000 in
set_option maxHeartbeats 4000000 in
theorem f_X3_init {l : Launch} {κ : mm_K} {d : Nat} {G : mm_G} {K : mm_G → Prop} (x : Nat) (hx : mm_sh x = (0, 3, 15)) (a1 : Nat) (a2 : Nat) (h : mm_sh (mg_n G) = (0, 0, 4) ∧ mC l κ false (d + 1) 1 8 m_X0_init [.ref (mg_n G)] (mg_b G 1) (rV (fun G3 => mm_sh (mg_n G3) = (1, 0, 4) ∧ mm_sh (mg_n G3 + 1) = (1, 0, 300) ∧ mm_sh (mg_n G3 + 2) = (1, 5, 4) ∧ mm_sh (mg_n G3 + 3) = (1, 0, 4) ∧ K (ms_r (ms_r (ms_r (mg_b (ms_r (mg_b (ms_r (mg_b (ms_r (mg_b (ms_r G3 x 0 (some (mg_n G))) 1) x 1 (some (mg_n G3))) 1) x 2 (some (mg_n G3 + 1))) 1) x 8 (some (mg_n G3 + 2))) 1) x 9 (some (mg_n G3 + 3))) x 6 (some a1)) x 7 (some a2))))) : mC l κ false (d + 2) 6 324 m_X3_init [.ref x, .ref a1, .ref a2] G (rV K) := by
  refine mC.of (by decide) (Nat.le_of_ble_eq_true rfl) [some (.ref x), some (.ref a1), some (.ref a2)] rfl ?_
  refine mV_aload_n (k := 0) (by decide +kernel) rfl ?_
  refine mV_obj (idx := 3) (by decide +kernel) (mm_t2 84 (by decide +kernel)) (mm_t1 27 (by decide +kernel)) (mm_t1 28 rfl) (Nat.le_of_ble_eq_true rfl) ?_
  refine mV_aload_n (k := 0) (by decide +kernel) rfl ?_
  have hs1 := h.1
  replace h := h.2
  refine mV_newx (idx := 9) (ci := 0) (N := 4) (n0 := (mg_n G)) (mc := 5) (ms := 320) (by decide +kernel) rfl (mm_t2 85 (by decide +kernel)) (mm_t1 210 (by decide +kernel)) (mm_t1 11 (by decide +kernel)) rfl hs1 (fun _ => rfl) ?_
  refine mV_dup (by decide +kernel) rfl ?_
  refine mV_cIN (b := (mg_n G)) (as := []) (rest := [.ref (mg_n G), .ref x]) (mc1 := 1) (ms1 := 8) (mc := 4) (ms := 312) (by decide +kernel) md_X0_init rfl lk_3_11 rfl rfl (Nat.le_of_ble_eq_true rfl) (mC.mono (mm_contV (fun G3 hK => ?_)) h)
  replace h := hK
  refine mV_pff (r := some (mg_n G)) (by decide +kernel) fk_3_12 rfl (fun _ _ h => by cases h; rfl) hx rfl rfl ?_
  refine mV_aload_n (k := 0) (by decide +kernel) rfl ?_
  refine mV_iconst (n := 4) (v := nI 4) (by decide +kernel) (by decide) ?_
  have hs4 := h.1
  replace h := h.2
  refine mV_newax (at0 := .int) (t := 0) (len := 4) (n0 := (mg_n G3)) (mc := 3) (ms := 308) (by decide +kernel) rfl rfl (by decide) (mm_t1 111 (by decide +kernel)) (by decide) (by decide) (by decide) hs4 (fun _ => rfl) ?_
  refine mV_pff (r := some (mg_n G3)) (by decide +kernel) fk_3_18 rfl (fun _ _ h => by cases h; rfl) hx rfl rfl ?_
  refine mV_aload_n (k := 0) (by decide +kernel) rfl ?_
  refine mV_sipush (n := 300) (v := nI 300) (by decide +kernel) (by decide) ?_
  have hs5 := h.1
  replace h := h.2
  refine mV_newax (at0 := .int) (t := 0) (len := 300) (n0 := (mg_n G3 + 1)) (mc := 2) (ms := 8) (by decide +kernel) rfl rfl (by decide) (mm_t1 111 (by decide +kernel)) (by decide) (by decide) (by decide) hs5 (fun _ => rfl) ?_
  refine mV_pff (r := some (mg_n G3 + 1)) (by decide +kernel) fk_3_22 rfl (fun _ _ h => by cases h; rfl) hx rfl rfl ?_
  refine mV_aload_n (k := 0) (by decide +kernel) rfl ?_
  refine mV_iconst (n := 4) (v := nI 4) (by decide +kernel) (by decide) ?_
  have hs6 := h.1
  replace h := h.2
  refine mV_anewx (idx := 25) (t := 5) (len := 4) (n0 := (mg_n G3 + 2)) (mc := 1) (ms := 4) (C := RX6) (by decide +kernel) rfl rfl (by decide) (mm_t2 87 (by decide +kernel)) (by decide) (by decide) (by decide) (by decide) hs6 (fun _ => rfl) ?_
  refine mV_pff (r := some (mg_n G3 + 2)) (by decide +kernel) fk_3_27 rfl (fun _ _ h => by cases h; rfl) hx rfl rfl ?_
  refine mV_aload_n (k := 0) (by decide +kernel) rfl ?_
  refine mV_iconst (n := 4) (v := nI 4) (by decide +kernel) (by decide) ?_
  have hs7 := h.1
  replace h := h.2
  refine mV_newax (at0 := .int) (t := 0) (len := 4) (n0 := (mg_n G3 + 3)) (mc := 0) (ms := 0) (by decide +kernel) rfl rfl (by decide) (mm_t1 111 (by decide +kernel)) (by decide) (by decide) (by decide) hs7 (fun _ => rfl) ?_
  refine mV_pff (r := some (mg_n G3 + 3)) (by decide +kernel) fk_3_31 rfl (fun _ _ h => by cases h; rfl) hx rfl rfl ?_
  refine mV_aload_n (k := 0) (by decide +kernel) rfl ?_
  refine mV_aload_n (k := 1) (by decide +kernel) rfl ?_
  refine mV_pff (r := some a1) (by decide +kernel) fk_3_34 rfl (fun _ _ h => by cases h; rfl) hx rfl rfl ?_
  refine mV_aload_n (k := 0) (by decide +kernel) rfl ?_
  refine mV_aload_n (k := 2) (by decide +kernel) rfl ?_
  refine mV_pff (r := some a2) (by decide +kernel) fk_3_38 rfl (fun _ _ h => by cases h; rfl) hx rfl rfl ?_
  exact mV_vret (by decide +kernel) rfl h
set_option maxRecDepth 100000 in
set_option maxHeartbeats 4000000 in
theorem f_X2_init {l : Launch} {κ : mm_K} {d : Nat} {G : mm_G} {K : mm_G → Prop} (x : Nat) (hx : mm_sh x = (0, 2, 7)) (a1 : Nat) (a2 : Nat) (a3 : Nat) (h : mm_sh (mg_n G) = (1, 7, 32) ∧ mm_sh (mg_n G + 1) = (1, 0, 4) ∧ mm_sh (mg_n G + 2) = (1, 2, 4) ∧ mm_sh (mg_n G + 3) = (0, 6, 4) ∧ mC l κ false (d + 1) 1 16 m_X6_init [.ref (mg_n G + 3)] (mg_b (ms_r (mg_b (ms_r (mg_b (ms_r (mg_b G 1) x 3 (some (mg_n G))) 1) x 4 (some (mg_n G + 1))) 1) x 5 (some (mg_n G + 2))) 1) (rV (fun G6 => mV l κ false (d + 2) 64 384 m_X2_init 56 [some (.ref x), some (.ref a1), some (.ref a2), some (.ref a3), some (.int (nI 0))] [] (ms_r (ms_r (ms_r (ms_r G6 x 6 (some (mg_n G + 3))) x 0 (some a1)) x 1 (some a2)) x 2 (some a3)) (rV K)))) : mC l κ false (d + 2) 69 444 m_X2_init [.ref x, .ref a1, .ref a2, .ref a3] G (rV K) := by
  refine mC.of (by decide) (Nat.le_of_ble_eq_true rfl) [some (.ref x), some (.ref a1), some (.ref a2), some (.ref a3), none] rfl ?_
  refine mV_aload_n (k := 0) (by decide +kernel) rfl ?_
  refine mV_obj (idx := 3) (by decide +kernel) (mm_t2 148 (by decide +kernel)) (mm_t1 27 (by decide +kernel)) (mm_t1 28 rfl) (Nat.le_of_ble_eq_true rfl) ?_
  refine mV_aload_n (k := 0) (by decide +kernel) rfl ?_
  refine mV_bipush (n := 32) (v := nI 32) (by decide +kernel) (by decide) ?_
  have hs1 := h.1
  replace h := h.2
  refine mV_anewx (idx := 9) (t := 7) (len := 32) (n0 := (mg_n G)) (mc := 68) (ms := 412) (C := RX0) (by decide +kernel) rfl rfl (by decide) (mm_t2 149 (by decide +kernel)) (by decide) (by decide) (by decide) (by decide) hs1 (fun _ => rfl) ?_
  refine mV_pff (r := some (mg_n G)) (by decide +kernel) fk_2_11 rfl (fun _ _ h => by cases h; rfl) hx rfl rfl ?_
  refine mV_aload_n (k := 0) (by decide +kernel) rfl ?_
  refine mV_iconst (n := 4) (v := nI 4) (by decide +kernel) (by decide) ?_
  have hs2 := h.1
  replace h := h.2
  refine mV_newax (at0 := .int) (t := 0) (len := 4) (n0 := (mg_n G + 1)) (mc := 67) (ms := 408) (by decide +kernel) rfl rfl (by decide) (mm_t1 111 (by decide +kernel)) (by decide) (by decide) (by decide) hs2 (fun _ => rfl) ?_
  refine mV_pff (r := some (mg_n G + 1)) (by decide +kernel) fk_2_17 rfl (fun _ _ h => by cases h; rfl) hx rfl rfl ?_
  refine mV_aload_n (k := 0) (by decide +kernel) rfl ?_
  refine mV_iconst (n := 4) (v := nI 4) (by decide +kernel) (by decide) ?_
  have hs3 := h.1
  replace h := h.2
  refine mV_newax (at0 := .boolean) (t := 2) (len := 4) (n0 := (mg_n G + 2)) (mc := 66) (ms := 404) (by decide +kernel) rfl rfl (by decide) (mm_t2 1 (by decide +kernel)) (by decide) (by decide) (by decide) hs3 (fun _ => rfl) ?_
  refine mV_pff (r := some (mg_n G + 2)) (by decide +kernel) fk_2_21 rfl (fun _ _ h => by cases h; rfl) hx rfl rfl ?_
  refine mV_aload_n (k := 0) (by decide +kernel) rfl ?_
  have hs4 := h.1
  replace h := h.2
  refine mV_newx (idx := 25) (ci := 6) (N := 4) (n0 := (mg_n G + 3)) (mc := 65) (ms := 400) (by decide +kernel) rfl (mm_t2 150 (by decide +kernel)) (mm_t1 128 (by decide +kernel)) (mm_t1 9 (by decide +kernel)) rfl hs4 (fun _ => rfl) ?_
  refine mV_dup (by decide +kernel) rfl ?_
  refine mV_cIN (b := (mg_n G + 3)) (as := []) (rest := [.ref (mg_n G + 3), .ref x]) (mc1 := 1) (ms1 := 16) (mc := 64) (ms := 384) (by decide +kernel) md_X6_init rfl lk_2_27 rfl rfl (Nat.le_of_ble_eq_true rfl) (mC.mono (mm_contV (fun G6 hK => ?_)) h)
  replace h := hK
  refine mV_pff (r := some (mg_n G + 3)) (by decide +kernel) fk_2_28 rfl (fun _ _ h => by cases h; rfl) hx rfl rfl ?_
  refine mV_aload_n (k := 0) (by decide +kernel) rfl ?_
  refine mV_aload_n (k := 1) (by decide +kernel) rfl ?_
  refine mV_pff (r := some a1) (by decide +kernel) fk_2_32 rfl (fun _ _ h => by cases h; rfl) hx rfl rfl ?_
  refine mV_aload_n (k := 0) (by decide +kernel) rfl ?_
  refine mV_aload_n (k := 2) (by decide +kernel) rfl ?_
  refine mV_pff (r := some a2) (by decide +kernel) fk_2_36 rfl (fun _ _ h => by cases h; rfl) hx rfl rfl ?_
  refine mV_aload_n (k := 0) (by decide +kernel) rfl ?_
  refine mV_aload_n (k := 3) (by decide +kernel) rfl ?_
  refine mV_pff (r := some a3) (by decide +kernel) fk_2_40 rfl (fun _ _ h => by cases h; rfl) hx rfl rfl ?_
  refine mV_iconst (n := 0) (v := nI 0) (by decide +kernel) (by decide) ?_
  refine mV_istore (i := 4) (ls' := [some (.ref x), some (.ref a1), some (.ref a2), some (.ref a3), some (.int (nI 0))]) (by decide +kernel) (Nat.le_of_ble_eq_true rfl) rfl rfl ?_
  exact h
set_option maxRecDepth 100000 in
set_option maxHeartbeats 4000000 in
theorem q_X2_init_56 {l : Launch} {κ : mm_K} {d mc ms : Nat} {G : mm_G} {K : mm_G → Prop} (x : Nat) (hx : mm_sh x = (0, 2, 7)) (a1 : Nat) (a2 : Nat) (a3 : Nat) (v4 : Int32) (h : ∃ t1, mg_r G x 3 = some t1 ∧ mm_sh t1 = (1, 7, 32) ∧ (((nI 32) ≤ v4 → K G) ∧ (¬ (nI 32) ≤ v4 → ∃ t2, mg_r G x 3 = some t2 ∧ mm_sh t2 = (1, 7, 32) ∧ ∃ c3 s4, mc = 1 + c3 ∧ ms = 4 + s4 ∧ mm_sh (mg_n G) = (0, 0, 4) ∧ ∃ c8 s9, c3 = 1 + c8 ∧ s4 = 8 + s9 ∧ mC l κ false (d + 1) 1 8 m_X0_init [.ref (mg_n G)] (mg_b G 1) (rV (fun G7 => vp_in v4 32 ∧ mV l κ false (d + 2) c8 s9 m_X2_init 56 [some (.ref x), some (.ref a1), some (.ref a2), some (.ref a3), some (.int (v4 + (nI 1)))] [] (ms_r G7 t2 v4.toNatClampNeg (some (mg_n G))) (rV K)))))) : mV l κ false (d + 2) mc ms m_X2_init 56 [some (.ref x), some (.ref a1), some (.ref a2), some (.ref a3), some (.int v4)] [] G (rV K) := by
  refine mV_iload (i := 4) (by decide +kernel) rfl ?_
  refine mV_aload_n (k := 0) (by decide +kernel) rfl ?_
  obtain ⟨t1, hrt1, hst1, h⟩ := h
  refine mV_gfr (r := some t1) (by decide +kernel) fk_2_11 hx hrt1 rfl ?_
  refine mV_alen (v := nI 32) (by decide +kernel) hst1 (by decide) rfl ?_
  refine mV_icmp_ge (off := 23) (tgt := 86) (by decide +kernel) (by decide) (fun hc => ?_) (fun hc => ?_)
  · replace h := h.1 hc
    exact mV_vret (by decide +kernel) rfl h
  · replace h := h.2 hc
    refine mV_aload_n (k := 0) (by decide +kernel) rfl ?_
    obtain ⟨t2, hrt2, hst2, h⟩ := h
    refine mV_gfr (r := some t2) (by decide +kernel) fk_2_11 hx hrt2 rfl ?_
    refine mV_iload (i := 4) (by decide +kernel) rfl ?_
    obtain ⟨c3, s4, rfl, rfl, h⟩ := h
    have hs5 := h.1
    replace h := h.2
    refine mV_newx (idx := 9) (ci := 0) (N := 4) (n0 := (mg_n G)) (mc := c3) (ms := s4) (by decide +kernel) rfl (mm_t2 149 (by decide +kernel)) (mm_t1 210 (by decide +kernel)) (mm_t1 11 (by decide +kernel)) rfl hs5 (fun _ => rfl) ?_
    refine mV_dup (by decide +kernel) rfl ?_
    obtain ⟨c8, s9, rfl, rfl, h⟩ := h
    refine mV_cIN (b := (mg_n G)) (as := []) (rest := [.ref (mg_n G), .int v4, .ref t2]) (mc1 := 1) (ms1 := 8) (mc := c8) (ms := s9) (by decide +kernel) md_X0_init rfl lk_2_44 rfl rfl (Nat.le_of_ble_eq_true rfl) (mC.mono (mm_contV (fun G7 hK => ?_)) h)
    replace h := hK
    refine mV_aas (t := 7) (by decide +kernel) hst2 (by decide) rfl hs5 rfl h.1 rfl ?_
    replace h := h.2
    refine mV_iincc (i := 4) (n := 1) (c := nI 1) (ls' := [some (.ref x), some (.ref a1), some (.ref a2), some (.ref a3), some (.int (v4 + (nI 1)))]) (by decide +kernel) (by decide) rfl (Nat.le_of_ble_eq_true rfl) rfl rfl ?_
    refine mV_goto (off := -27) (tgt := 56) (by decide +kernel) (by decide) ?_
    exact h
set_option maxRecDepth 100000 in
set_option maxHeartbeats 4000000 in
theorem f_X4_init {l : Launch} {κ : mm_K} {d : Nat} {G : mm_G} {K : mm_G → Prop} (x : Nat) (hx : mm_sh x = (0, 4, 7)) (a1 : Nat) (a2 : Nat) (h : mm_sh (mg_n G) = (1, 0, 4096) ∧ mm_sh (mg_n G + 1) = (1, 3, 13) ∧ K (ms_r (ms_r (ms_i (ms_i (ms_r (mg_b (ms_r (mg_b G 1) x 2 (some (mg_n G))) 1) x 3 (some (mg_n G + 1))) x 4 (-1)) x 5 (-1)) x 0 (some a1)) x 1 (some a2))) : mC l κ false (d + 1) 2 4109 m_X4_init [.ref x, .ref a1, .ref a2] G (rV K) := by
  refine mC.of (by decide) (Nat.le_of_ble_eq_true rfl) [some (.ref x), some (.ref a1), some (.ref a2)] rfl ?_
  refine mV_aload_n (k := 0) (by decide +kernel) rfl ?_
  refine mV_obj (idx := 3) (by decide +kernel) (mm_t2 180 (by decide +kernel)) (mm_t1 27 (by decide +kernel)) (mm_t1 28 rfl) (Nat.le_of_ble_eq_true rfl) ?_
  refine mV_aload_n (k := 0) (by decide +kernel) rfl ?_
  refine mV_sipush (n := 4096) (v := nI 4096) (by decide +kernel) (by decide) ?_
  have hs1 := h.1
  replace h := h.2
  refine mV_newax (at0 := .int) (t := 0) (len := 4096) (n0 := (mg_n G)) (mc := 1) (ms := 13) (by decide +kernel) rfl rfl (by decide) (mm_t1 111 (by decide +kernel)) (by decide) (by decide) (by decide) hs1 (fun _ => rfl) ?_
  refine mV_pff (r := some (mg_n G)) (by decide +kernel) fk_4_9 rfl (fun _ _ h => by cases h; rfl) hx rfl rfl ?_
  refine mV_aload_n (k := 0) (by decide +kernel) rfl ?_
  refine mV_bipush (n := 13) (v := nI 13) (by decide +kernel) (by decide) ?_
  have hs2 := h.1
  replace h := h.2
  refine mV_newax (at0 := .long) (t := 3) (len := 13) (n0 := (mg_n G + 1)) (mc := 0) (ms := 0) (by decide +kernel) rfl rfl (by decide) (mm_t1 112 (by decide +kernel)) (by decide) (by decide) (by decide) hs2 (fun _ => rfl) ?_
  refine mV_pff (r := some (mg_n G + 1)) (by decide +kernel) fk_4_15 rfl (fun _ _ h => by cases h; rfl) hx rfl rfl ?_
  refine mV_aload_n (k := 0) (by decide +kernel) rfl ?_
  refine mV_iconst (n := -1) (v := (-1)) (by decide +kernel) (by decide) ?_
  refine mV_pfi (by decide +kernel) fk_4_19 hx ?_
  refine mV_aload_n (k := 0) (by decide +kernel) rfl ?_
  refine mV_iconst (n := -1) (v := (-1)) (by decide +kernel) (by decide) ?_
  refine mV_pfi (by decide +kernel) fk_4_23 hx ?_
  refine mV_aload_n (k := 0) (by decide +kernel) rfl ?_
  refine mV_aload_n (k := 1) (by decide +kernel) rfl ?_
  refine mV_pff (r := some a1) (by decide +kernel) fk_4_26 rfl (fun _ _ h => by cases h; rfl) hx rfl rfl ?_
  refine mV_aload_n (k := 0) (by decide +kernel) rfl ?_
  refine mV_aload_n (k := 2) (by decide +kernel) rfl ?_
  refine mV_pff (r := some a2) (by decide +kernel) fk_4_30 rfl (fun _ _ h => by cases h; rfl) hx rfl rfl ?_
  exact mV_vret (by decide +kernel) rfl h
set_option maxRecDepth 100000 in
set_option maxHeartbeats 4000000 in
theorem f_X8_init {l : Launch} {κ : mm_K} {d : Nat} {G : mm_G} {K : mm_G → Prop} (x : Nat) (hx : mm_sh x = (0, 8, 9)) (a1 : Nat) (a2 : Nat) (a3 : Nat) (h : mm_sh (mg_n G) = (1, 0, 5) ∧ mm_sh (mg_n G + 1) = (0, 6, 4) ∧ mC l κ false (d + 1) 1 16 m_X6_init [.ref (mg_n G + 1)] (mg_b (ms_r (mg_b G 1) x 0 (some (mg_n G))) 1) (rV (fun G4 => K (ms_r (ms_r (ms_r (ms_i (ms_r G4 x 4 (some (mg_n G + 1))) x 5 (-1)) x 1 (some a1)) x 2 (some a2)) x 3 (some a3))))) : mC l κ false (d + 2) 3 25 m_X8_init [.ref x, .ref a1, .ref a2, .ref a3] G (rV K) := by
  refine mC.of (by decide) (Nat.le_of_ble_eq_true rfl) [some (.ref x), some (.ref a1), some (.ref a2), some (.ref a3)] rfl ?_
  refine mV_aload_n (k := 0) (by decide +kernel) rfl ?_
  refine mV_obj (idx := 3) (by decide +kernel) (mm_t2 208 (by decide +kernel)) (mm_t1 27 (by decide +kernel)) (mm_t1 28 rfl) (Nat.le_of_ble_eq_true rfl) ?_
  refine mV_aload_n (k := 0) (by decide +kernel) rfl ?_
  refine mV_iconst (n := 5) (v := nI 5) (by decide +kernel) (by decide) ?_
  have hs1 := h.1
  replace h := h.2
  refine mV_newax (at0 := .int) (t := 0) (len := 5) (n0 := (mg_n G)) (mc := 2) (ms := 20) (by decide +kernel) rfl rfl (by decide) (mm_t1 111 (by decide +kernel)) (by decide) (by decide) (by decide) hs1 (fun _ => rfl) ?_
  refine mV_pff (r := some (mg_n G)) (by decide +kernel) fk_8_9 rfl (fun _ _ h => by cases h; rfl) hx rfl rfl ?_
  refine mV_aload_n (k := 0) (by decide +kernel) rfl ?_
  have hs2 := h.1
  replace h := h.2
  refine mV_newx (idx := 15) (ci := 6) (N := 4) (n0 := (mg_n G + 1)) (mc := 1) (ms := 16) (by decide +kernel) rfl (mm_t2 209 (by decide +kernel)) (mm_t1 128 (by decide +kernel)) (mm_t1 9 (by decide +kernel)) rfl hs2 (fun _ => rfl) ?_
  refine mV_dup (by decide +kernel) rfl ?_
  refine mV_cIN (b := (mg_n G + 1)) (as := []) (rest := [.ref (mg_n G + 1), .ref x]) (mc1 := 1) (ms1 := 16) (mc := 0) (ms := 0) (by decide +kernel) md_X6_init rfl lk_8_17 rfl rfl (Nat.le_of_ble_eq_true rfl) (mC.mono (mm_contV (fun G4 hK => ?_)) h)
  replace h := hK
  refine mV_pff (r := some (mg_n G + 1)) (by decide +kernel) fk_8_18 rfl (fun _ _ h => by cases h; rfl) hx rfl rfl ?_
  refine mV_aload_n (k := 0) (by decide +kernel) rfl ?_
  refine mV_iconst (n := -1) (v := (-1)) (by decide +kernel) (by decide) ?_
  refine mV_pfi (by decide +kernel) fk_8_22 hx ?_
  refine mV_aload_n (k := 0) (by decide +kernel) rfl ?_
  refine mV_aload_n (k := 1) (by decide +kernel) rfl ?_
  refine mV_pff (r := some a1) (by decide +kernel) fk_8_26 rfl (fun _ _ h => by cases h; rfl) hx rfl rfl ?_
  refine mV_aload_n (k := 0) (by decide +kernel) rfl ?_
  refine mV_aload_n (k := 2) (by decide +kernel) rfl ?_
  refine mV_pff (r := some a2) (by decide +kernel) fk_8_30 rfl (fun _ _ h => by cases h; rfl) hx rfl rfl ?_
  refine mV_aload_n (k := 0) (by decide +kernel) rfl ?_
  refine mV_aload_n (k := 3) (by decide +kernel) rfl ?_
  refine mV_pff (r := some a3) (by decide +kernel) fk_8_34 rfl (fun _ _ h => by cases h; rfl) hx rfl rfl ?_
  exact mV_vret (by decide +kernel) rfl h
set_option maxRecDepth 100000 in
set_option maxHeartbeats 4000000 in
theorem f_X9_init {l : Launch} {κ : mm_K} {d : Nat} {G : mm_G} {K : mm_G → Prop} (x : Nat) (hx : mm_sh x = (0, 9, 14)) (a1 : Nat) (a2 : Nat) (a3 : Nat) (h : mm_sh (mg_n G) = (1, 0, 120) ∧ mm_sh (mg_n G + 1) = (1, 0, 120) ∧ mm_sh (mg_n G + 2) = (1, 0, 960) ∧ mm_sh (mg_n G + 3) = (1, 0, 9600) ∧ mm_sh (mg_n G + 4) = (1, 2, 8) ∧ mm_sh (mg_n G + 5) = (1, 0, 120) ∧ mm_sh (mg_n G + 6) = (1, 8, 5) ∧ (∀ j, j < 5 → mm_sh ((mg_n G + 6) + 1 + j) = (1, 0, 120)) ∧ K (ms_r (ms_r (ms_r (ms_i (ms_r (mm_fillr (ms_r (mg_b (ms_r (mg_b (ms_r (mg_b (ms_r (mg_b (ms_r (mg_b (ms_r (mg_b G 1) x 0 (some (mg_n G))) 1) x 1 (some (mg_n G + 1))) 1) x 5 (some (mg_n G + 2))) 1) x 6 (some (mg_n G + 3))) 1) x 7 (some (mg_n G + 4))) 1) x 8 (some (mg_n G + 5))) 5) x 9 (some (mg_n G + 6))) x 12 (-1)) x 2 (some a1)) x 3 (some a2)) x 4 (some a3))) : mC l κ false (d + 1) 12 11533 m_X9_init [.ref x, .ref a1, .ref a2, .ref a3] G (rV K) := by
  refine mC.of (by decide) (Nat.le_of_ble_eq_true rfl) [some (.ref x), some (.ref a1), some (.ref a2), some (.ref a3)] rfl ?_
  refine mV_aload_n (k := 0) (by decide +kernel) rfl ?_
  refine mV_obj (idx := 3) (by decide +kernel) (mm_t3 5 (by decide +kernel)) (mm_t1 27 (by decide +kernel)) (mm_t1 28 rfl) (Nat.le_of_ble_eq_true rfl) ?_
  refine mV_aload_n (k := 0) (by decide +kernel) rfl ?_
  refine mV_bipush (n := 120) (v := nI 120) (by decide +kernel) (by decide) ?_
  have hs1 := h.1
  replace h := h.2
  refine mV_newax (at0 := .int) (t := 0) (len := 120) (n0 := (mg_n G)) (mc := 11) (ms := 11413) (by decide +kernel) rfl rfl (by decide) (mm_t1 111 (by decide +kernel)) (by decide) (by decide) (by decide) hs1 (fun _ => rfl) ?_
  refine mV_pff (r := some (mg_n G)) (by decide +kernel) fk_9_9 rfl (fun _ _ h => by cases h; rfl) hx rfl rfl ?_
  refine mV_aload_n (k := 0) (by decide +kernel) rfl ?_
  refine mV_bipush (n := 120) (v := nI 120) (by decide +kernel) (by decide) ?_
  have hs2 := h.1
  replace h := h.2
  refine mV_newax (at0 := .int) (t := 0) (len := 120) (n0 := (mg_n G + 1)) (mc := 10) (ms := 11293) (by decide +kernel) rfl rfl (by decide) (mm_t1 111 (by decide +kernel)) (by decide) (by decide) (by decide) hs2 (fun _ => rfl) ?_
  refine mV_pff (r := some (mg_n G + 1)) (by decide +kernel) fk_9_15 rfl (fun _ _ h => by cases h; rfl) hx rfl rfl ?_
  refine mV_aload_n (k := 0) (by decide +kernel) rfl ?_
  refine mV_sipush (n := 960) (v := nI 960) (by decide +kernel) (by decide) ?_
  have hs3 := h.1
  replace h := h.2
  refine mV_newax (at0 := .int) (t := 0) (len := 960) (n0 := (mg_n G + 2)) (mc := 9) (ms := 10333) (by decide +kernel) rfl rfl (by decide) (mm_t1 111 (by decide +kernel)) (by decide) (by decide) (by decide) hs3 (fun _ => rfl) ?_
  refine mV_pff (r := some (mg_n G + 2)) (by decide +kernel) fk_9_18 rfl (fun _ _ h => by cases h; rfl) hx rfl rfl ?_
  refine mV_aload_n (k := 0) (by decide +kernel) rfl ?_
  refine mV_sipush (n := 9600) (v := nI 9600) (by decide +kernel) (by decide) ?_
  have hs4 := h.1
  replace h := h.2
  refine mV_newax (at0 := .int) (t := 0) (len := 9600) (n0 := (mg_n G + 3)) (mc := 8) (ms := 733) (by decide +kernel) rfl rfl (by decide) (mm_t1 111 (by decide +kernel)) (by decide) (by decide) (by decide) hs4 (fun _ => rfl) ?_
  refine mV_pff (r := some (mg_n G + 3)) (by decide +kernel) fk_9_21 rfl (fun _ _ h => by cases h; rfl) hx rfl rfl ?_
  refine mV_aload_n (k := 0) (by decide +kernel) rfl ?_
  refine mV_bipush (n := 8) (v := nI 8) (by decide +kernel) (by decide) ?_
  have hs5 := h.1
  replace h := h.2
  refine mV_newax (at0 := .boolean) (t := 2) (len := 8) (n0 := (mg_n G + 4)) (mc := 7) (ms := 725) (by decide +kernel) rfl rfl (by decide) (mm_t2 1 (by decide +kernel)) (by decide) (by decide) (by decide) hs5 (fun _ => rfl) ?_
  refine mV_pff (r := some (mg_n G + 4)) (by decide +kernel) fk_9_24 rfl (fun _ _ h => by cases h; rfl) hx rfl rfl ?_
  refine mV_aload_n (k := 0) (by decide +kernel) rfl ?_
  refine mV_bipush (n := 120) (v := nI 120) (by decide +kernel) (by decide) ?_
  have hs6 := h.1
  replace h := h.2
  refine mV_newax (at0 := .int) (t := 0) (len := 120) (n0 := (mg_n G + 5)) (mc := 6) (ms := 605) (by decide +kernel) rfl rfl (by decide) (mm_t1 111 (by decide +kernel)) (by decide) (by decide) (by decide) hs6 (fun _ => rfl) ?_
  refine mV_pff (r := some (mg_n G + 5)) (by decide +kernel) fk_9_28 rfl (fun _ _ h => by cases h; rfl) hx rfl rfl ?_
  refine mV_aload_n (k := 0) (by decide +kernel) rfl ?_
  refine mV_iconst (n := 5) (v := nI 5) (by decide +kernel) (by decide) ?_
  refine mV_bipush (n := 120) (v := nI 120) (by decide +kernel) (by decide) ?_
  have hs7 := h.1
  have hs7b := h.2.1
  replace h := h.2.2
  refine mV_mnax (idx := 31) (N := 5) (K := 120) (n0 := (mg_n G + 6)) (mc := 0) (ms := 0) (by decide +kernel) rfl (mm_t3 6 (by decide +kernel)) (mm_t1 111 (by decide +kernel)) (by decide) (by decide) (by decide) (by decide) (by decide) hs7 hs7b ?_
  refine mV_pff (r := some (mg_n G + 6)) (by decide +kernel) fk_9_33 rfl (fun _ _ h => by cases h; rfl) hx rfl rfl ?_
  refine mV_aload_n (k := 0) (by decide +kernel) rfl ?_
  refine mV_iconst (n := -1) (v := (-1)) (by decide +kernel) (by decide) ?_
  refine mV_pfi (by decide +kernel) fk_9_36 hx ?_
  refine mV_aload_n (k := 0) (by decide +kernel) rfl ?_
  refine mV_aload_n (k := 1) (by decide +kernel) rfl ?_
  refine mV_pff (r := some a1) (by decide +kernel) fk_9_40 rfl (fun _ _ h => by cases h; rfl) hx rfl rfl ?_
  refine mV_aload_n (k := 0) (by decide +kernel) rfl ?_
  refine mV_aload_n (k := 2) (by decide +kernel) rfl ?_
  refine mV_pff (r := some a2) (by decide +kernel) fk_9_44 rfl (fun _ _ h => by cases h; rfl) hx rfl rfl ?_
  refine mV_aload_n (k := 0) (by decide +kernel) rfl ?_
  refine mV_aload_n (k := 3) (by decide +kernel) rfl ?_
  refine mV_pff (r := some a3) (by decide +kernel) fk_9_48 rfl (fun _ _ h => by cases h; rfl) hx rfl rfl ?_
  exact mV_vret (by decide +kernel) rfl h
set_option maxRecDepth 100000 in
set_option maxHeartbeats 4000000 in
theorem f_X12_init {l : Launch} {κ : mm_K} {d : Nat} {G : mm_G} {K : mm_G → Prop} (x : Nat) (hx : mm_sh x = (0, 12, 12)) (h : mm_sh (mg_n G) = (0, 10, 6) ∧ mC l κ false (d + 4) 5 3223 m_X10_init [.ref (mg_n G)] (mg_b G 1) (rV (fun G3 => mm_sh (mg_n G3) = (0, 5, 10) ∧ ∃ t5, mg_r (ms_r G3 x 0 (some (mg_n G))) x 0 = some t5 ∧ mm_sh t5 = (0, 10, 6) ∧ mC l κ false (d + 4) 42 328 m_X5_init [.ref (mg_n G3), .ref t5] (mg_b (ms_r G3 x 0 (some (mg_n G))) 1) (rV (fun G7 => mm_sh (mg_n G7) = (0, 7, 6) ∧ mC l κ false (d + 4) 11 124 m_X7_init [.ref (mg_n G7)] (mg_b (ms_r G7 x 1 (some (mg_n G3))) 1) (rV (fun G10 => mm_sh (mg_n G10) = (0, 11, 6) ∧ mC l κ false (d + 4) 28 176 m_X11_init [.ref (mg_n G10)] (mg_b (ms_r G10 x 2 (some (mg_n G7))) 1) (rV (fun G13 => mm_sh (mg_n G13) = (0, 3, 15) ∧ ∃ t15, mg_r (ms_r G13 x 3 (some (mg_n G10))) x 2 = some t15 ∧ mm_sh t15 = (0, 7, 6) ∧ ∃ t16, mg_r (ms_r G13 x 3 (some (mg_n G10))) x 3 = some t16 ∧ mm_sh t16 = (0, 11, 6) ∧ mC l κ false (d + 4) 6 324 m_X3_init [.ref (mg_n G13), .ref t15, .ref t16] (mg_b (ms_r G13 x 3 (some (mg_n G10))) 1) (rV (fun G18 => mm_sh (mg_n G18) = (0, 2, 7) ∧ ∃ t20, mg_r (ms_r G18 x 4 (some (mg_n G13))) x 2 = some t20 ∧ mm_sh t20 = (0, 7, 6) ∧ ∃ t21, mg_r (ms_r G18 x 4 (some (mg_n G13))) x 3 = some t21 ∧ mm_sh t21 = (0, 11, 6) ∧ ∃ t22, mg_r (ms_r G18 x 4 (some (mg_n G13))) x 4 = some t22 ∧ mm_sh t22 = (0, 3, 15) ∧ mC l κ false (d + 4) 69 444 m_X2_init [.ref (mg_n G18), .ref t20, .ref t21, .ref t22] (mg_b (ms_r G18 x 4 (some (mg_n G13))) 1) (rV (fun G24 => mm_sh (mg_n G24) = (0, 4, 7) ∧ ∃ t26, mg_r (ms_r G24 x 5 (some (mg_n G18))) x 2 = some t26 ∧ mm_sh t26 = (0, 7, 6) ∧ ∃ t27, mg_r (ms_r G24 x 5 (some (mg_n G18))) x 5 = some t27 ∧ mm_sh t27 = (0, 2, 7) ∧ mC l κ false (d + 4) 2 4109 m_X4_init [.ref (mg_n G24), .ref t26, .ref t27] (mg_b (ms_r G24 x 5 (some (mg_n G18))) 1) (rV (fun G29 => mm_sh (mg_n G29) = (0, 8, 9) ∧ ∃ t31, mg_r (ms_r G29 x 6 (some (mg_n G24))) x 2 = some t31 ∧ mm_sh t31 = (0, 7, 6) ∧ ∃ t32, mg_r (ms_r G29 x 6 (some (mg_n G24))) x 3 = some t32 ∧ mm_sh t32 = (0, 11, 6) ∧ ∃ t33, mg_r (ms_r G29 x 6 (some (mg_n G24))) x 4 = some t33 ∧ mm_sh t33 = (0, 3, 15) ∧ mC l κ false (d + 4) 3 25 m_X8_init [.ref (mg_n G29), .ref t31, .ref t32, .ref t33] (mg_b (ms_r G29 x 6 (some (mg_n G24))) 1) (rV (fun G35 => mm_sh (mg_n G35) = (0, 9, 14) ∧ ∃ t37, mg_r (ms_r G35 x 7 (some (mg_n G29))) x 2 = some t37 ∧ mm_sh t37 = (0, 7, 6) ∧ ∃ t38, mg_r (ms_r G35 x 7 (some (mg_n G29))) x 3 = some t38 ∧ mm_sh t38 = (0, 11, 6) ∧ ∃ t39, mg_r (ms_r G35 x 7 (some (mg_n G29))) x 4 = some t39 ∧ mm_sh t39 = (0, 3, 15) ∧ mC l κ false (d + 4) 12 11533 m_X9_init [.ref (mg_n G35), .ref t37, .ref t38, .ref t39] (mg_b (ms_r G35 x 7 (some (mg_n G29))) 1) (rV (fun G41 => mm_sh (mg_n G41) = (1, 6, 3) ∧ mV l κ false (d + 5) 37 393 m_X12_init 169 [some (.ref x), some (.int (nI 0))] [] (ms_r (mg_b (ms_r G41 x 8 (some (mg_n G35))) 1) x 9 (some (mg_n G41))) (rV K)))))))))))))))))))) : mC l κ false (d + 5) 225 20762 m_X12_init [.ref x] G (rV K) := by
  refine mC.of (by decide) (Nat.le_of_ble_eq_true rfl) [some (.ref x), none] rfl ?_
  refine mV_aload_n (k := 0) (by decide +kernel) rfl ?_
  refine mV_obj (idx := 1) (by decide +kernel) (mm_t1 26 (by decide +kernel)) (mm_t1 27 (by decide +kernel)) (mm_t1 28 rfl) (Nat.le_of_ble_eq_true rfl) ?_
  refine mV_aload_n (k := 0) (by decide +kernel) rfl ?_
  have hs1 := h.1
  replace h := h.2
  refine mV_newx (idx := 7) (ci := 10) (N := 6) (n0 := (mg_n G)) (mc := 224) (ms := 20756) (by decide +kernel) rfl (mm_t1 29 (by decide +kernel)) (mm_t1 30 (by decide +kernel)) (mm_t1 2 (by decide +kernel)) rfl hs1 (fun _ => rfl) ?_
  refine mV_dup (by decide +kernel) rfl ?_
  refine mV_cI (b := (mg_n G)) (as := []) (rest := [.ref (mg_n G), .ref x]) (mc1 := 5) (ms1 := 3223) (mc := 219) (ms := 17533) (by decide +kernel) md_X10_init rfl lk_12_9 rfl rfl (Nat.le_of_ble_eq_true rfl) (mC.mono (mm_contV (fun G3 hK => ?_)) h)
  replace h := hK
  refine mV_pff (r := some (mg_n G)) (by decide +kernel) fk_12_10 rfl (fun _ _ h => by cases h; rfl) hx rfl rfl ?_
  refine mV_aload_n (k := 0) (by decide +kernel) rfl ?_
  have hs4 := h.1
  replace h := h.2
  refine mV_newx (idx := 16) (ci := 5) (N := 10) (n0 := (mg_n G3)) (mc := 218) (ms := 17523) (by decide +kernel) rfl (mm_t1 114 (by decide +kernel)) (mm_t1 115 (by decide +kernel)) (mm_t1 7 (by decide +kernel)) rfl hs4 (fun _ => rfl) ?_
  refine mV_dup (by decide +kernel) rfl ?_
  refine mV_aload_n (k := 0) (by decide +kernel) rfl ?_
  obtain ⟨t5, hrt5, hst5, h⟩ := h
  refine mV_gfr (r := some t5) (by decide +kernel) fk_12_10 hx hrt5 rfl ?_
  refine mV_cI (b := (mg_n G3)) (as := [.ref t5]) (rest := [.ref (mg_n G3), .ref x]) (mc1 := 42) (ms1 := 328) (mc := 176) (ms := 17195) (by decide +kernel) md_X5_init rfl lk_12_18 rfl rfl (Nat.le_of_ble_eq_true rfl) (mC.mono (mm_contV (fun G7 hK => ?_)) h)
  replace h := hK
  refine mV_pff (r := some (mg_n G3)) (by decide +kernel) fk_12_21 rfl (fun _ _ h => by cases h; rfl) hx rfl rfl ?_
  refine mV_aload_n (k := 0) (by decide +kernel) rfl ?_
  have hs8 := h.1
  replace h := h.2
  refine mV_newx (idx := 25) (ci := 7) (N := 6) (n0 := (mg_n G7)) (mc := 175) (ms := 17189) (by decide +kernel) rfl (mm_t2 75 (by decide +kernel)) (mm_t1 121 (by decide +kernel)) (mm_t1 8 (by decide +kernel)) rfl hs8 (fun _ => rfl) ?_
  refine mV_dup (by decide +kernel) rfl ?_
  refine mV_cI (b := (mg_n G7)) (as := []) (rest := [.ref (mg_n G7), .ref x]) (mc1 := 11) (ms1 := 124) (mc := 164) (ms := 17065) (by decide +kernel) md_X7_init rfl lk_12_27 rfl rfl (Nat.le_of_ble_eq_true rfl) (mC.mono (mm_contV (fun G10 hK => ?_)) h)
  replace h := hK
  refine mV_pff (r := some (mg_n G7)) (by decide +kernel) fk_12_28 rfl (fun _ _ h => by cases h; rfl) hx rfl rfl ?_
  refine mV_aload_n (k := 0) (by decide +kernel) rfl ?_
  have hs11 := h.1
  replace h := h.2
  refine mV_newx (idx := 32) (ci := 11) (N := 6) (n0 := (mg_n G10)) (mc := 163) (ms := 17059) (by decide +kernel) rfl (mm_t2 77 (by decide +kernel)) (mm_t1 201 (by decide +kernel)) (mm_t1 10 (by decide +kernel)) rfl hs11 (fun _ => rfl) ?_
  refine mV_dup (by decide +kernel) rfl ?_
  refine mV_cI (b := (mg_n G10)) (as := []) (rest := [.ref (mg_n G10), .ref x]) (mc1 := 28) (ms1 := 176) (mc := 135) (ms := 16883) (by decide +kernel) md_X11_init rfl lk_12_34 rfl rfl (Nat.le_of_ble_eq_true rfl) (mC.mono (mm_contV (fun G13 hK => ?_)) h)
  replace h := hK
  refine mV_pff (r := some (mg_n G10)) (by decide +kernel) fk_12_35 rfl (fun _ _ h => by cases h; rfl) hx rfl rfl ?_
  refine mV_aload_n (k := 0) (by decide +kernel) rfl ?_
  have hs14 := h.1
  replace h := h.2
  refine mV_newx (idx := 39) (ci := 3) (N := 15) (n0 := (mg_n G13)) (mc := 134) (ms := 16868) (by decide +kernel) rfl (mm_t2 79 (by decide +kernel)) (mm_t2 80 (by decide +kernel)) (mm_t1 12 (by decide +kernel)) rfl hs14 (fun _ => rfl) ?_
  refine mV_dup (by decide +kernel) rfl ?_
  refine mV_aload_n (k := 0) (by decide +kernel) rfl ?_
  obtain ⟨t15, hrt15, hst15, h⟩ := h
  refine mV_gfr (r := some t15) (by decide +kernel) fk_12_28 hx hrt15 rfl ?_
  refine mV_aload_n (k := 0) (by decide +kernel) rfl ?_
  obtain ⟨t16, hrt16, hst16, h⟩ := h
  refine mV_gfr (r := some t16) (by decide +kernel) fk_12_35 hx hrt16 rfl ?_
  refine mV_cI (b := (mg_n G13)) (as := [.ref t15, .ref t16]) (rest := [.ref (mg_n G13), .ref x]) (mc1 := 6) (ms1 := 324) (mc := 128) (ms := 16544) (by decide +kernel) md_X3_init rfl lk_12_41 rfl rfl (Nat.le_of_ble_eq_true rfl) (mC.mono (mm_contV (fun G18 hK => ?_)) h)
  replace h := hK
  refine mV_pff (r := some (mg_n G13)) (by decide +kernel) fk_12_44 rfl (fun _ _ h => by cases h; rfl) hx rfl rfl ?_
  refine mV_aload_n (k := 0) (by decide +kernel) rfl ?_
  have hs19 := h.1
  replace h := h.2
  refine mV_newx (idx := 48) (ci := 2) (N := 7) (n0 := (mg_n G18)) (mc := 127) (ms := 16537) (by decide +kernel) rfl (mm_t2 143 (by decide +kernel)) (mm_t2 144 (by decide +kernel)) (mm_t1 13 (by decide +kernel)) rfl hs19 (fun _ => rfl) ?_
  refine mV_dup (by decide +kernel) rfl ?_
  refine mV_aload_n (k := 0) (by decide +kernel) rfl ?_
  obtain ⟨t20, hrt20, hst20, h⟩ := h
  refine mV_gfr (r := some t20) (by decide +kernel) fk_12_28 hx hrt20 rfl ?_
  refine mV_aload_n (k := 0) (by decide +kernel) rfl ?_
  obtain ⟨t21, hrt21, hst21, h⟩ := h
  refine mV_gfr (r := some t21) (by decide +kernel) fk_12_35 hx hrt21 rfl ?_
  refine mV_aload_n (k := 0) (by decide +kernel) rfl ?_
  obtain ⟨t22, hrt22, hst22, h⟩ := h
  refine mV_gfr (r := some t22) (by decide +kernel) fk_12_44 hx hrt22 rfl ?_
  refine mV_cI (b := (mg_n G18)) (as := [.ref t20, .ref t21, .ref t22]) (rest := [.ref (mg_n G18), .ref x]) (mc1 := 69) (ms1 := 444) (mc := 58) (ms := 16093) (by decide +kernel) md_X2_init rfl lk_12_50 rfl rfl (Nat.le_of_ble_eq_true rfl) (mC.mono (mm_contV (fun G24 hK => ?_)) h)
  replace h := hK
  refine mV_pff (r := some (mg_n G18)) (by decide +kernel) fk_12_53 rfl (fun _ _ h => by cases h; rfl) hx rfl rfl ?_
  refine mV_aload_n (k := 0) (by decide +kernel) rfl ?_
  have hs25 := h.1
  replace h := h.2
  refine mV_newx (idx := 57) (ci := 4) (N := 7) (n0 := (mg_n G24)) (mc := 57) (ms := 16086) (by decide +kernel) rfl (mm_t2 175 (by decide +kernel)) (mm_t2 176 (by decide +kernel)) (mm_t1 14 (by decide +kernel)) rfl hs25 (fun _ => rfl) ?_
  refine mV_dup (by decide +kernel) rfl ?_
  refine mV_aload_n (k := 0) (by decide +kernel) rfl ?_
  obtain ⟨t26, hrt26, hst26, h⟩ := h
  refine mV_gfr (r := some t26) (by decide +kernel) fk_12_28 hx hrt26 rfl ?_
  refine mV_aload_n (k := 0) (by decide +kernel) rfl ?_
  obtain ⟨t27, hrt27, hst27, h⟩ := h
  refine mV_gfr (r := some t27) (by decide +kernel) fk_12_53 hx hrt27 rfl ?_
  refine mV_cI (b := (mg_n G24)) (as := [.ref t26, .ref t27]) (rest := [.ref (mg_n G24), .ref x]) (mc1 := 2) (ms1 := 4109) (mc := 55) (ms := 11977) (by decide +kernel) md_X4_init rfl lk_12_59 rfl rfl (Nat.le_of_ble_eq_true rfl) (mC.mono (mm_contV (fun G29 hK => ?_)) h)
  replace h := hK
  refine mV_pff (r := some (mg_n G24)) (by decide +kernel) fk_12_62 rfl (fun _ _ h => by cases h; rfl) hx rfl rfl ?_
  refine mV_aload_n (k := 0) (by decide +kernel) rfl ?_
  have hs30 := h.1
  replace h := h.2
  refine mV_newx (idx := 66) (ci := 8) (N := 9) (n0 := (mg_n G29)) (mc := 54) (ms := 11968) (by decide +kernel) rfl (mm_t2 203 (by decide +kernel)) (mm_t2 204 (by decide +kernel)) (mm_t1 15 (by decide +kernel)) rfl hs30 (fun _ => rfl) ?_
  refine mV_dup (by decide +kernel) rfl ?_
  refine mV_aload_n (k := 0) (by decide +kernel) rfl ?_
  obtain ⟨t31, hrt31, hst31, h⟩ := h
  refine mV_gfr (r := some t31) (by decide +kernel) fk_12_28 hx hrt31 rfl ?_
  refine mV_aload_n (k := 0) (by decide +kernel) rfl ?_
  obtain ⟨t32, hrt32, hst32, h⟩ := h
  refine mV_gfr (r := some t32) (by decide +kernel) fk_12_35 hx hrt32 rfl ?_
  refine mV_aload_n (k := 0) (by decide +kernel) rfl ?_
  obtain ⟨t33, hrt33, hst33, h⟩ := h
  refine mV_gfr (r := some t33) (by decide +kernel) fk_12_44 hx hrt33 rfl ?_
  refine mV_cI (b := (mg_n G29)) (as := [.ref t31, .ref t32, .ref t33]) (rest := [.ref (mg_n G29), .ref x]) (mc1 := 3) (ms1 := 25) (mc := 51) (ms := 11943) (by decide +kernel) md_X8_init rfl lk_12_68 rfl rfl (Nat.le_of_ble_eq_true rfl) (mC.mono (mm_contV (fun G35 hK => ?_)) h)
  replace h := hK
  refine mV_pff (r := some (mg_n G29)) (by decide +kernel) fk_12_69 rfl (fun _ _ h => by cases h; rfl) hx rfl rfl ?_
  refine mV_aload_n (k := 0) (by decide +kernel) rfl ?_
  have hs36 := h.1
  replace h := h.2
  refine mV_newx (idx := 73) (ci := 9) (N := 14) (n0 := (mg_n G35)) (mc := 50) (ms := 11929) (by decide +kernel) rfl (mm_t3 0 (by decide +kernel)) (mm_t3 1 (by decide +kernel)) (mm_t1 16 (by decide +kernel)) rfl hs36 (fun _ => rfl) ?_
  refine mV_dup (by decide +kernel) rfl ?_
  refine mV_aload_n (k := 0) (by decide +kernel) rfl ?_
  obtain ⟨t37, hrt37, hst37, h⟩ := h
  refine mV_gfr (r := some t37) (by decide +kernel) fk_12_28 hx hrt37 rfl ?_
  refine mV_aload_n (k := 0) (by decide +kernel) rfl ?_
  obtain ⟨t38, hrt38, hst38, h⟩ := h
  refine mV_gfr (r := some t38) (by decide +kernel) fk_12_35 hx hrt38 rfl ?_
  refine mV_aload_n (k := 0) (by decide +kernel) rfl ?_
  obtain ⟨t39, hrt39, hst39, h⟩ := h
  refine mV_gfr (r := some t39) (by decide +kernel) fk_12_44 hx hrt39 rfl ?_
  refine mV_cI (b := (mg_n G35)) (as := [.ref t37, .ref t38, .ref t39]) (rest := [.ref (mg_n G35), .ref x]) (mc1 := 12) (ms1 := 11533) (mc := 38) (ms := 396) (by decide +kernel) md_X9_init rfl lk_12_75 rfl rfl (Nat.le_of_ble_eq_true rfl) (mC.mono (mm_contV (fun G41 hK => ?_)) h)
  replace h := hK
  refine mV_pff (r := some (mg_n G35)) (by decide +kernel) fk_12_76 rfl (fun _ _ h => by cases h; rfl) hx rfl rfl ?_
  refine mV_aload_n (k := 0) (by decide +kernel) rfl ?_
  refine mV_iconst (n := 3) (v := nI 3) (by decide +kernel) (by decide) ?_
  have hs42 := h.1
  replace h := h.2
  refine mV_anewx (idx := 25) (t := 6) (len := 3) (n0 := (mg_n G41)) (mc := 37) (ms := 393) (C := RX7) (by decide +kernel) rfl rfl (by decide) (mm_t2 75 (by decide +kernel)) (by decide) (by decide) (by decide) (by decide) hs42 (fun _ => rfl) ?_
  refine mV_pff (r := some (mg_n G41)) (by decide +kernel) fk_12_80 rfl (fun _ _ h => by cases h; rfl) hx rfl rfl ?_
  refine mV_iconst (n := 0) (v := nI 0) (by decide +kernel) (by decide) ?_
  refine mV_istore_n (k := 1) (ls' := [some (.ref x), some (.int (nI 0))]) (by decide +kernel) (Nat.le_of_ble_eq_true rfl) rfl rfl ?_
  exact h
set_option maxRecDepth 100000 in
set_option maxHeartbeats 4000000 in
theorem q_X12_init_169 {l : Launch} {κ : mm_K} {d mc ms : Nat} {G : mm_G} {K : mm_G → Prop} (x : Nat) (hx : mm_sh x = (0, 12, 12)) (v1 : Int32) (h : (((nI 3) ≤ v1 → ∃ c1 s2, mc = 1 + c1 ∧ ms = 3 + s2 ∧ mm_sh (mg_n G) = (1, 2, 3) ∧ K (ms_i (ms_r (mg_b G 1) x 10 (some (mg_n G))) x 11 (-1))) ∧ (¬ (nI 3) ≤ v1 → ∃ t4, mg_r G x 9 = some t4 ∧ mm_sh t4 = (1, 6, 3) ∧ ∃ c5 s6, mc = 1 + c5 ∧ ms = 6 + s6 ∧ mm_sh (mg_n G) = (0, 7, 6) ∧ ∃ c10 s11, c5 = 11 + c10 ∧ s6 = 124 + s11 ∧ mC l κ false (d + 4) 11 124 m_X7_init [.ref (mg_n G)] (mg_b G 1) (rV (fun G9 => vp_in v1 3 ∧ mV l κ false (d + 5) c10 s11 m_X12_init 169 [some (.ref x), some (.int (v1 + (nI 1)))] [] (ms_r G9 t4 v1.toNatClampNeg (some (mg_n G))) (rV K)))))) : mV l κ false (d + 5) mc ms m_X12_init 169 [some (.ref x), some (.int v1)] [] G (rV K) := by
  refine mV_iload_n (k := 1) (by decide +kernel) rfl ?_
  refine mV_iconst (n := 3) (v := nI 3) (by decide +kernel) (by decide) ?_
  refine mV_icmp_ge (off := 22) (tgt := 193) (by decide +kernel) (by decide) (fun hc => ?_) (fun hc => ?_)
  · replace h := h.1 hc
    refine mV_aload_n (k := 0) (by decide +kernel) rfl ?_
    refine mV_iconst (n := 3) (v := nI 3) (by decide +kernel) (by decide) ?_
    obtain ⟨c1, s2, rfl, rfl, h⟩ := h
    have hs3 := h.1
    replace h := h.2
    refine mV_newax (at0 := .boolean) (t := 2) (len := 3) (n0 := (mg_n G)) (mc := c1) (ms := s2) (by decide +kernel) rfl rfl (by decide) (mm_t2 1 (by decide +kernel)) (by decide) (by decide) (by decide) hs3 (fun _ => rfl) ?_
    refine mV_pff (r := some (mg_n G)) (by decide +kernel) fk_12_84 rfl (fun _ _ h => by cases h; rfl) hx rfl rfl ?_
    refine mV_aload_n (k := 0) (by decide +kernel) rfl ?_
    refine mV_iconst (n := -1) (v := (-1)) (by decide +kernel) (by decide) ?_
    refine mV_pfi (by decide +kernel) fk_12_88 hx ?_
    exact mV_vret (by decide +kernel) rfl h
  · replace h := h.2 hc
    refine mV_aload_n (k := 0) (by decide +kernel) rfl ?_
    obtain ⟨t4, hrt4, hst4, h⟩ := h
    refine mV_gfr (r := some t4) (by decide +kernel) fk_12_80 hx hrt4 rfl ?_
    refine mV_iload_n (k := 1) (by decide +kernel) rfl ?_
    obtain ⟨c5, s6, rfl, rfl, h⟩ := h
    have hs7 := h.1
    replace h := h.2
    refine mV_newx (idx := 25) (ci := 7) (N := 6) (n0 := (mg_n G)) (mc := c5) (ms := s6) (by decide +kernel) rfl (mm_t2 75 (by decide +kernel)) (mm_t1 121 (by decide +kernel)) (mm_t1 8 (by decide +kernel)) rfl hs7 (fun _ => rfl) ?_
    refine mV_dup (by decide +kernel) rfl ?_
    obtain ⟨c10, s11, rfl, rfl, h⟩ := h
    refine mV_cI (b := (mg_n G)) (as := []) (rest := [.ref (mg_n G), .int v1, .ref t4]) (mc1 := 11) (ms1 := 124) (mc := c10) (ms := s11) (by decide +kernel) md_X7_init rfl lk_12_27 rfl rfl (Nat.le_of_ble_eq_true rfl) (mC.mono (mm_contV (fun G9 hK => ?_)) h)
    replace h := hK
    refine mV_aas (t := 6) (by decide +kernel) hst4 (by decide) rfl hs7 rfl h.1 rfl ?_
    replace h := h.2
    refine mV_iincc (i := 1) (n := 1) (c := nI 1) (ls' := [some (.ref x), some (.int (v1 + (nI 1)))]) (by decide +kernel) (by decide) rfl (Nat.le_of_ble_eq_true rfl) rfl rfl ?_
    refine mV_goto (off := -21) (tgt := 169) (by decide +kernel) (by decide) ?_
    exact h
set_option maxRecDepth 100000 in
set_option maxHeartbeats 4000000 in
theorem f_X13_init {l : Launch} {κ : mm_K} {d : Nat} {G : mm_G} {K : mm_G → Prop} (x : Nat) (hx : mm_sh x = (0, 13, 85)) (h : mm_sh (mg_n G) = (1, 1, 2000) ∧ mm_sh (mg_n G + 1) = (1, 1, 2000) ∧ mm_sh (mg_n G + 2) = (1, 0, 403) ∧ mm_sh (mg_n G + 3) = (1, 0, 403) ∧ mm_sh (mg_n G + 4) = (1, 0, 403) ∧ mm_sh (mg_n G + 5) = (1, 3, 403) ∧ mm_sh (mg_n G + 6) = (1, 3, 20) ∧ mm_sh (mg_n G + 7) = (1, 0, 5) ∧ mm_sh (mg_n G + 8) = (1, 3, 20) ∧ mm_sh (mg_n G + 9) = (1, 0, 20) ∧ mm_sh (mg_n G + 10) = (1, 0, 320) ∧ mm_sh (mg_n G + 11) = (1, 0, 320) ∧ mm_sh (mg_n G + 12) = (1, 0, 320) ∧ mm_sh (mg_n G + 13) = (1, 0, 320) ∧ mm_sh (mg_n G + 14) = (1, 0, 320) ∧ mm_sh (mg_n G + 15) = (1, 0, 320) ∧ mm_sh (mg_n G + 16) = (1, 0, 320) ∧ mm_sh (mg_n G + 17) = (1, 0, 320) ∧ mm_sh (mg_n G + 18) = (1, 0, 320) ∧ mm_sh (mg_n G + 19) = (1, 3, 320) ∧ mm_sh (mg_n G + 20) = (1, 3, 320) ∧ mm_sh (mg_n G + 21) = (1, 0, 16) ∧ mm_sh (mg_n G + 22) = (1, 0, 2) ∧ mm_sh (mg_n G + 23) = (1, 0, 16) ∧ mm_sh (mg_n G + 24) = (1, 0, 96) ∧ mm_sh (mg_n G + 25) = (1, 0, 16) ∧ mm_sh (mg_n G + 26) = (1, 0, 128) ∧ mm_sh (mg_n G + 27) = (1, 0, 2) ∧ mm_sh (mg_n G + 28) = (1, 0, 20) ∧ mm_sh (mg_n G + 29) = (1, 0, 20) ∧ mm_sh (mg_n G + 30) = (1, 0, 4) ∧ mm_sh (mg_n G + 31) = (1, 0, 8) ∧ mm_sh (mg_n G + 32) = (1, 0, 301) ∧ mm_sh (mg_n G + 33) = (1, 0, 8) ∧ mm_sh (mg_n G + 34) = (1, 0, 8) ∧ mm_sh (mg_n G + 35) = (1, 0, 8) ∧ mm_sh (mg_n G + 36) = (1, 0, 8) ∧ mm_sh (mg_n G + 37) = (1, 0, 64) ∧ mm_sh (mg_n G + 38) = (1, 2, 4096) ∧ mm_sh (mg_n G + 39) = (1, 3, 4096) ∧ mm_sh (mg_n G + 40) = (1, 0, 8) ∧ mm_sh (mg_n G + 41) = (1, 0, 20) ∧ mm_sh (mg_n G + 42) = (1, 0, 20) ∧ mm_sh (mg_n G + 43) = (1, 0, 20) ∧ mm_sh (mg_n G + 44) = (1, 0, 160) ∧ mm_sh (mg_n G + 45) = (1, 0, 140) ∧ mm_sh (mg_n G + 46) = (1, 0, 1120) ∧ mm_sh (mg_n G + 47) = (1, 0, 140) ∧ mm_sh (mg_n G + 48) = (1, 0, 140) ∧ mm_sh (mg_n G + 49) = (1, 0, 1120) ∧ mm_sh (mg_n G + 50) = (1, 2, 700) ∧ mm_sh (mg_n G + 51) = (1, 2, 3) ∧ mm_sh (mg_n G + 52) = (1, 0, 3) ∧ mm_sh (mg_n G + 53) = (1, 0, 3) ∧ mm_sh (mg_n G + 54) = (1, 0, 60) ∧ mm_sh (mg_n G + 55) = (1, 0, 60) ∧ mm_sh (mg_n G + 56) = (1, 0, 60) ∧ mm_sh (mg_n G + 57) = (1, 0, 480) ∧ ∃ t59, mg_r (ms_r (mg_b (ms_r (mg_b (ms_r (mg_b (ms_r (mg_b (ms_r (mg_b (ms_r (mg_b (ms_r (mg_b (ms_r (mg_b (ms_r (mg_b (ms_r (mg_b (ms_r (mg_b (ms_r (mg_b (ms_r (mg_b (ms_r (mg_b (ms_r (mg_b (ms_r (mg_b (ms_r (mg_b (ms_r (mg_b (ms_r (mg_b (ms_r (mg_b (ms_r (mg_b (ms_r (mg_b (ms_r (mg_b (ms_r (mg_b (ms_r (mg_b (ms_r (mg_b (ms_r (mg_b (ms_r (mg_b (ms_r (mg_b (ms_r (mg_b (ms_r (mg_b (ms_r (mg_b (ms_r (mg_b (ms_r (mg_b (ms_r (mg_b (ms_r (mg_b (ms_r (mg_b (ms_r (mg_b (ms_r (mg_b (ms_r (mg_b (ms_r (mg_b (ms_r (mg_b (ms_r (mg_b (ms_r (mg_b (ms_r (mg_b (ms_r (mg_b (ms_r (mg_b (ms_r (mg_b (ms_r (mg_b (ms_r (mg_b (ms_r (mg_b (ms_i (ms_r (mg_b (ms_r (mg_b (ms_r (mg_b (ms_r (mg_b (ms_r (mg_b (ms_r (mg_b (ms_r (mg_b G 1) x 1 (some (mg_n G))) 1) x 3 (some (mg_n G + 1))) 1) x 5 (some (mg_n G + 2))) 1) x 6 (some (mg_n G + 3))) 1) x 7 (some (mg_n G + 4))) 1) x 8 (some (mg_n G + 5))) 1) x 9 (some (mg_n G + 6))) x 17 (-1)) 1) x 20 (some (mg_n G + 7))) 1) x 21 (some (mg_n G + 8))) 1) x 22 (some (mg_n G + 9))) 1) x 23 (some (mg_n G + 10))) 1) x 24 (some (mg_n G + 11))) 1) x 25 (some (mg_n G + 12))) 1) x 26 (some (mg_n G + 13))) 1) x 27 (some (mg_n G + 14))) 1) x 28 (some (mg_n G + 15))) 1) x 29 (some (mg_n G + 16))) 1) x 30 (some (mg_n G + 17))) 1) x 31 (some (mg_n G + 18))) 1) x 32 (some (mg_n G + 19))) 1) x 33 (some (mg_n G + 20))) 1) x 34 (some (mg_n G + 21))) 1) x 35 (some (mg_n G + 22))) 1) x 36 (some (mg_n G + 23))) 1) x 37 (some (mg_n G + 24))) 1) x 38 (some (mg_n G + 25))) 1) x 39 (some (mg_n G + 26))) 1) x 40 (some (mg_n G + 27))) 1) x 43 (some (mg_n G + 28))) 1) x 44 (some (mg_n G + 29))) 1) x 48 (some (mg_n G + 30))) 1) x 52 (some (mg_n G + 31))) 1) x 54 (some (mg_n G + 32))) 1) x 56 (some (mg_n G + 33))) 1) x 57 (some (mg_n G + 34))) 1) x 59 (some (mg_n G + 35))) 1) x 60 (some (mg_n G + 36))) 1) x 61 (some (mg_n G + 37))) 1) x 62 (some (mg_n G + 38))) 1) x 63 (some (mg_n G + 39))) 1) x 64 (some (mg_n G + 40))) 1) x 67 (some (mg_n G + 41))) 1) x 68 (some (mg_n G + 42))) 1) x 69 (some (mg_n G + 43))) 1) x 70 (some (mg_n G + 44))) 1) x 71 (some (mg_n G + 45))) 1) x 73 (some (mg_n G + 46))) 1) x 74 (some (mg_n G + 47))) 1) x 75 (some (mg_n G + 48))) 1) x 76 (some (mg_n G + 49))) 1) x 77 (some (mg_n G + 50))) 1) x 78 (some (mg_n G + 51))) 1) x 79 (some (mg_n G + 52))) 1) x 80 (some (mg_n G + 53))) 1) x 81 (some (mg_n G + 54))) 1) x 82 (some (mg_n G + 55))) 1) x 83 (some (mg_n G + 56))) 1) x 84 (some (mg_n G + 57))) x 40 = some t59 ∧ mm_sh t59 = (1, 0, 2) ∧ vp_in (nI 0) 2 ∧ ∃ t60, mg_r (ms_r (mg_b (ms_r (mg_b (ms_r (mg_b (ms_r (mg_b (ms_r (mg_b (ms_r (mg_b (ms_r (mg_b (ms_r (mg_b (ms_r (mg_b (ms_r (mg_b (ms_r (mg_b (ms_r (mg_b (ms_r (mg_b (ms_r (mg_b (ms_r (mg_b (ms_r (mg_b (ms_r (mg_b (ms_r (mg_b (ms_r (mg_b (ms_r (mg_b (ms_r (mg_b (ms_r (mg_b (ms_r (mg_b (ms_r (mg_b (ms_r (mg_b (ms_r (mg_b (ms_r (mg_b (ms_r (mg_b (ms_r (mg_b (ms_r (mg_b (ms_r (mg_b (ms_r (mg_b (ms_r (mg_b (ms_r (mg_b (ms_r (mg_b (ms_r (mg_b (ms_r (mg_b (ms_r (mg_b (ms_r (mg_b (ms_r (mg_b (ms_r (mg_b (ms_r (mg_b (ms_r (mg_b (ms_r (mg_b (ms_r (mg_b (ms_r (mg_b (ms_r (mg_b (ms_r (mg_b (ms_r (mg_b (ms_r (mg_b (ms_r (mg_b (ms_i (ms_r (mg_b (ms_r (mg_b (ms_r (mg_b (ms_r (mg_b (ms_r (mg_b (ms_r (mg_b (ms_r (mg_b G 1) x 1 (some (mg_n G))) 1) x 3 (some (mg_n G + 1))) 1) x 5 (some (mg_n G + 2))) 1) x 6 (some (mg_n G + 3))) 1) x 7 (some (mg_n G + 4))) 1) x 8 (some (mg_n G + 5))) 1) x 9 (some (mg_n G + 6))) x 17 (-1)) 1) x 20 (some (mg_n G + 7))) 1) x 21 (some (mg_n G + 8))) 1) x 22 (some (mg_n G + 9))) 1) x 23 (some (mg_n G + 10))) 1) x 24 (some (mg_n G + 11))) 1) x 25 (some (mg_n G + 12))) 1) x 26 (some (mg_n G + 13))) 1) x 27 (some (mg_n G + 14))) 1) x 28 (some (mg_n G + 15))) 1) x 29 (some (mg_n G + 16))) 1) x 30 (some (mg_n G + 17))) 1) x 31 (some (mg_n G + 18))) 1) x 32 (some (mg_n G + 19))) 1) x 33 (some (mg_n G + 20))) 1) x 34 (some (mg_n G + 21))) 1) x 35 (some (mg_n G + 22))) 1) x 36 (some (mg_n G + 23))) 1) x 37 (some (mg_n G + 24))) 1) x 38 (some (mg_n G + 25))) 1) x 39 (some (mg_n G + 26))) 1) x 40 (some (mg_n G + 27))) 1) x 43 (some (mg_n G + 28))) 1) x 44 (some (mg_n G + 29))) 1) x 48 (some (mg_n G + 30))) 1) x 52 (some (mg_n G + 31))) 1) x 54 (some (mg_n G + 32))) 1) x 56 (some (mg_n G + 33))) 1) x 57 (some (mg_n G + 34))) 1) x 59 (some (mg_n G + 35))) 1) x 60 (some (mg_n G + 36))) 1) x 61 (some (mg_n G + 37))) 1) x 62 (some (mg_n G + 38))) 1) x 63 (some (mg_n G + 39))) 1) x 64 (some (mg_n G + 40))) 1) x 67 (some (mg_n G + 41))) 1) x 68 (some (mg_n G + 42))) 1) x 69 (some (mg_n G + 43))) 1) x 70 (some (mg_n G + 44))) 1) x 71 (some (mg_n G + 45))) 1) x 73 (some (mg_n G + 46))) 1) x 74 (some (mg_n G + 47))) 1) x 75 (some (mg_n G + 48))) 1) x 76 (some (mg_n G + 49))) 1) x 77 (some (mg_n G + 50))) 1) x 78 (some (mg_n G + 51))) 1) x 79 (some (mg_n G + 52))) 1) x 80 (some (mg_n G + 53))) 1) x 81 (some (mg_n G + 54))) 1) x 82 (some (mg_n G + 55))) 1) x 83 (some (mg_n G + 56))) 1) x 84 (some (mg_n G + 57))) x 9 = some t60 ∧ mm_sh t60 = (1, 3, 20) ∧ mC l κ false (d + 1) 0 0 m_X13_word [.int (nI 114), .int (nI 111), .int (nI 119), .int (nI 0), .int (nI 0), .int (nI 0), .int (nI 0)] (ms_i (ms_r (mg_b (ms_r (mg_b (ms_r (mg_b (ms_r (mg_b (ms_r (mg_b (ms_r (mg_b (ms_r (mg_b (ms_r (mg_b (ms_r (mg_b (ms_r (mg_b (ms_r (mg_b (ms_r (mg_b (ms_r (mg_b (ms_r (mg_b (ms_r (mg_b (ms_r (mg_b (ms_r (mg_b (ms_r (mg_b (ms_r (mg_b (ms_r (mg_b (ms_r (mg_b (ms_r (mg_b (ms_r (mg_b (ms_r (mg_b (ms_r (mg_b (ms_r (mg_b (ms_r (mg_b (ms_r (mg_b (ms_r (mg_b (ms_r (mg_b (ms_r (mg_b (ms_r (mg_b (ms_r (mg_b (ms_r (mg_b (ms_r (mg_b (ms_r (mg_b (ms_r (mg_b (ms_r (mg_b (ms_r (mg_b (ms_r (mg_b (ms_r (mg_b (ms_r (mg_b (ms_r (mg_b (ms_r (mg_b (ms_r (mg_b (ms_r (mg_b (ms_r (mg_b (ms_r (mg_b (ms_r (mg_b (ms_r (mg_b (ms_r (mg_b (ms_i (ms_r (mg_b (ms_r (mg_b (ms_r (mg_b (ms_r (mg_b (ms_r (mg_b (ms_r (mg_b (ms_r (mg_b G 1) x 1 (some (mg_n G))) 1) x 3 (some (mg_n G + 1))) 1) x 5 (some (mg_n G + 2))) 1) x 6 (some (mg_n G + 3))) 1) x 7 (some (mg_n G + 4))) 1) x 8 (some (mg_n G + 5))) 1) x 9 (some (mg_n G + 6))) x 17 (-1)) 1) x 20 (some (mg_n G + 7))) 1) x 21 (some (mg_n G + 8))) 1) x 22 (some (mg_n G + 9))) 1) x 23 (some (mg_n G + 10))) 1) x 24 (some (mg_n G + 11))) 1) x 25 (some (mg_n G + 12))) 1) x 26 (some (mg_n G + 13))) 1) x 27 (some (mg_n G + 14))) 1) x 28 (some (mg_n G + 15))) 1) x 29 (some (mg_n G + 16))) 1) x 30 (some (mg_n G + 17))) 1) x 31 (some (mg_n G + 18))) 1) x 32 (some (mg_n G + 19))) 1) x 33 (some (mg_n G + 20))) 1) x 34 (some (mg_n G + 21))) 1) x 35 (some (mg_n G + 22))) 1) x 36 (some (mg_n G + 23))) 1) x 37 (some (mg_n G + 24))) 1) x 38 (some (mg_n G + 25))) 1) x 39 (some (mg_n G + 26))) 1) x 40 (some (mg_n G + 27))) 1) x 43 (some (mg_n G + 28))) 1) x 44 (some (mg_n G + 29))) 1) x 48 (some (mg_n G + 30))) 1) x 52 (some (mg_n G + 31))) 1) x 54 (some (mg_n G + 32))) 1) x 56 (some (mg_n G + 33))) 1) x 57 (some (mg_n G + 34))) 1) x 59 (some (mg_n G + 35))) 1) x 60 (some (mg_n G + 36))) 1) x 61 (some (mg_n G + 37))) 1) x 62 (some (mg_n G + 38))) 1) x 63 (some (mg_n G + 39))) 1) x 64 (some (mg_n G + 40))) 1) x 67 (some (mg_n G + 41))) 1) x 68 (some (mg_n G + 42))) 1) x 69 (some (mg_n G + 43))) 1) x 70 (some (mg_n G + 44))) 1) x 71 (some (mg_n G + 45))) 1) x 73 (some (mg_n G + 46))) 1) x 74 (some (mg_n G + 47))) 1) x 75 (some (mg_n G + 48))) 1) x 76 (some (mg_n G + 49))) 1) x 77 (some (mg_n G + 50))) 1) x 78 (some (mg_n G + 51))) 1) x 79 (some (mg_n G + 52))) 1) x 80 (some (mg_n G + 53))) 1) x 81 (some (mg_n G + 54))) 1) x 82 (some (mg_n G + 55))) 1) x 83 (some (mg_n G + 56))) 1) x 84 (some (mg_n G + 57))) t59 ((nI 0).toNatClampNeg) (nI 100)) (rL (fun r61 G62 => vp_in (nI 0) 20 ∧ ∃ t63, mg_r G62 x 9 = some t63 ∧ mm_sh t63 = (1, 3, 20) ∧ mC l κ false (d + 1) 0 0 m_X13_word [.int (nI 116), .int (nI 114), .int (nI 105), .int (nI 97), .int (nI 108), .int (nI 0), .int (nI 0)] (ms_l G62 t60 ((nI 0).toNatClampNeg) r61) (rL (fun r64 G65 => vp_in (nI 1) 20 ∧ ∃ t66, mg_r G65 x 9 = some t66 ∧ mm_sh t66 = (1, 3, 20) ∧ mC l κ false (d + 1) 0 0 m_X13_word [.int (nI 103), .int (nI 105), .int (nI 118), .int (nI 101), .int (nI 115), .int (nI 0), .int (nI 0)] (ms_l G65 t63 ((nI 1).toNatClampNeg) r64) (rL (fun r67 G68 => vp_in (nI 2) 20 ∧ ∃ t69, mg_r G68 x 9 = some t69 ∧ mm_sh t69 = (1, 3, 20) ∧ mC l κ false (d + 1) 0 0 m_X13_word [.int (nI 102), .int (nI 117), .int (nI 101), .int (nI 108), .int (nI 0), .int (nI 0), .int (nI 0)] (ms_l G68 t66 ((nI 2).toNatClampNeg) r67) (rL (fun r70 G71 => vp_in (nI 3) 20 ∧ ∃ t72, mg_r G71 x 9 = some t72 ∧ mm_sh t72 = (1, 3, 20) ∧ mC l κ false (d + 1) 0 0 m_X13_word [.int (nI 115), .int (nI 101), .int (nI 116), .int (nI 0), .int (nI 0), .int (nI 0), .int (nI 0)] (ms_l G71 t69 ((nI 3).toNatClampNeg) r70) (rL (fun r73 G74 => vp_in (nI 4) 20 ∧ ∃ t75, mg_r G74 x 9 = some t75 ∧ mm_sh t75 = (1, 3, 20) ∧ mC l κ false (d + 1) 0 0 m_X13_word [.int (nI 97), .int (nI 100), .int (nI 100), .int (nI 0), .int (nI 0), .int (nI 0), .int (nI 0)] (ms_l G74 t72 ((nI 4).toNatClampNeg) r73) (rL (fun r76 G77 => vp_in (nI 5) 20 ∧ ∃ t78, mg_r G77 x 9 = some t78 ∧ mm_sh t78 = (1, 3, 20) ∧ mC l κ false (d + 1) 0 0 m_X13_word [.int (nI 115), .int (nI 117), .int (nI 98), .int (nI 0), .int (nI 0), .int (nI 0), .int (nI 0)] (ms_l G77 t75 ((nI 5).toNatClampNeg) r76) (rL (fun r79 G80 => vp_in (nI 6) 20 ∧ ∃ t81, mg_r G80 x 9 = some t81 ∧ mm_sh t81 = (1, 3, 20) ∧ mC l κ false (d + 1) 0 0 m_X13_word [.int (nI 109), .int (nI 117), .int (nI 108), .int (nI 0), .int (nI 0), .int (nI 0), .int (nI 0)] (ms_l G80 t78 ((nI 6).toNatClampNeg) r79) (rL (fun r82 G83 => vp_in (nI 7) 20 ∧ ∃ t84, mg_r G83 x 9 = some t84 ∧ mm_sh t84 = (1, 3, 20) ∧ mC l κ false (d + 1) 0 0 m_X13_word [.int (nI 100), .int (nI 105), .int (nI 118), .int (nI 0), .int (nI 0), .int (nI 0), .int (nI 0)] (ms_l G83 t81 ((nI 7).toNatClampNeg) r82) (rL (fun r85 G86 => vp_in (nI 8) 20 ∧ ∃ t87, mg_r G86 x 9 = some t87 ∧ mm_sh t87 = (1, 3, 20) ∧ mC l κ false (d + 1) 0 0 m_X13_word [.int (nI 111), .int (nI 117), .int (nI 116), .int (nI 0), .int (nI 0), .int (nI 0), .int (nI 0)] (ms_l G86 t84 ((nI 8).toNatClampNeg) r85) (rL (fun r88 G89 => vp_in (nI 9) 20 ∧ ∃ t90, mg_r G89 x 9 = some t90 ∧ mm_sh t90 = (1, 3, 20) ∧ mC l κ false (d + 1) 0 0 m_X13_word [.int (nI 103), .int (nI 111), .int (nI 0), .int (nI 0), .int (nI 0), .int (nI 0), .int (nI 0)] (ms_l G89 t87 ((nI 9).toNatClampNeg) r88) (rL (fun r91 G92 => vp_in (nI 10) 20 ∧ ∃ t93, mg_r G92 x 9 = some t93 ∧ mm_sh t93 = (1, 3, 20) ∧ mC l κ false (d + 1) 0 0 m_X13_word [.int (nI 105), .int (nI 102), .int (nI 0), .int (nI 0), .int (nI 0), .int (nI 0), .int (nI 0)] (ms_l G92 t90 ((nI 10).toNatClampNeg) r91) (rL (fun r94 G95 => vp_in (nI 11) 20 ∧ ∃ t96, mg_r G95 x 9 = some t96 ∧ mm_sh t96 = (1, 3, 20) ∧ mC l κ false (d + 1) 0 0 m_X13_word [.int (nI 99), .int (nI 97), .int (nI 108), .int (nI 108), .int (nI 0), .int (nI 0), .int (nI 0)] (ms_l G95 t93 ((nI 11).toNatClampNeg) r94) (rL (fun r97 G98 => vp_in (nI 12) 20 ∧ ∃ t99, mg_r G98 x 9 = some t99 ∧ mm_sh t99 = (1, 3, 20) ∧ mC l κ false (d + 1) 0 0 m_X13_word [.int (nI 101), .int (nI 110), .int (nI 100), .int (nI 0), .int (nI 0), .int (nI 0), .int (nI 0)] (ms_l G98 t96 ((nI 12).toNatClampNeg) r97) (rL (fun r100 G101 => vp_in (nI 13) 20 ∧ ∃ t102, mg_r G101 x 9 = some t102 ∧ mm_sh t102 = (1, 3, 20) ∧ mC l κ false (d + 1) 0 0 m_X13_word [.int (nI 115), .int (nI 107), .int (nI 105), .int (nI 112), .int (nI 0), .int (nI 0), .int (nI 0)] (ms_l G101 t99 ((nI 13).toNatClampNeg) r100) (rL (fun r103 G104 => vp_in (nI 14) 20 ∧ ∃ t105, mg_r G104 x 9 = some t105 ∧ mm_sh t105 = (1, 3, 20) ∧ mC l κ false (d + 1) 0 0 m_X13_word [.int (nI 107), .int (nI 97), .int (nI 0), .int (nI 0), .int (nI 0), .int (nI 0), .int (nI 0)] (ms_l G104 t102 ((nI 14).toNatClampNeg) r103) (rL (fun r106 G107 => vp_in (nI 15) 20 ∧ ∃ t108, mg_r G107 x 9 = some t108 ∧ mm_sh t108 = (1, 3, 20) ∧ mC l κ false (d + 1) 0 0 m_X13_word [.int (nI 107), .int (nI 98), .int (nI 0), .int (nI 0), .int (nI 0), .int (nI 0), .int (nI 0)] (ms_l G107 t105 ((nI 15).toNatClampNeg) r106) (rL (fun r109 G110 => vp_in (nI 16) 20 ∧ ∃ t111, mg_r G110 x 9 = some t111 ∧ mm_sh t111 = (1, 3, 20) ∧ mC l κ false (d + 1) 0 0 m_X13_word [.int (nI 107), .int (nI 99), .int (nI 0), .int (nI 0), .int (nI 0), .int (nI 0), .int (nI 0)] (ms_l G110 t108 ((nI 16).toNatClampNeg) r109) (rL (fun r112 G113 => vp_in (nI 17) 20 ∧ ∃ t114, mg_r G113 x 9 = some t114 ∧ mm_sh t114 = (1, 3, 20) ∧ mC l κ false (d + 1) 0 0 m_X13_word [.int (nI 107), .int (nI 100), .int (nI 0), .int (nI 0), .int (nI 0), .int (nI 0), .int (nI 0)] (ms_l G113 t111 ((nI 17).toNatClampNeg) r112) (rL (fun r115 G116 => vp_in (nI 18) 20 ∧ ∃ t117, mg_r G116 x 9 = some t117 ∧ mm_sh t117 = (1, 3, 20) ∧ mC l κ false (d + 1) 0 0 m_X13_word [.int (nI 105), .int (nI 110), .int (nI 0), .int (nI 0), .int (nI 0), .int (nI 0), .int (nI 0)] (ms_l G116 t114 ((nI 18).toNatClampNeg) r115) (rL (fun r118 G119 => vp_in (nI 19) 20 ∧ K (ms_l G119 t117 ((nI 19).toNatClampNeg) r118)))))))))))))))))))))))))))))))))))))))))) : mC l κ false (d + 2) 58 22371 m_X13_init [.ref x] G (rV K) := by
  refine mC.of (by decide) (Nat.le_of_ble_eq_true rfl) [some (.ref x)] rfl ?_
  refine mV_aload_n (k := 0) (by decide +kernel) rfl ?_
  refine mV_obj (idx := 7) (by decide +kernel) (mm_t6 70 (by decide +kernel)) (mm_t1 27 (by decide +kernel)) (mm_t1 28 rfl) (Nat.le_of_ble_eq_true rfl) ?_
  refine mV_aload_n (k := 0) (by decide +kernel) rfl ?_
  refine mV_sipush (n := 2000) (v := nI 2000) (by decide +kernel) (by decide) ?_
  have hs1 := h.1
  replace h := h.2
  refine mV_newax (at0 := .byte) (t := 1) (len := 2000) (n0 := (mg_n G)) (mc := 57) (ms := 20371) (by decide +kernel) rfl rfl (by decide) (mm_t1 113 (by decide +kernel)) (by decide) (by decide) (by decide) hs1 (fun _ => rfl) ?_
  refine mV_pff (r := some (mg_n G)) (by decide +kernel) fk_13_13 rfl (fun _ _ h => by cases h; rfl) hx rfl rfl ?_
  refine mV_aload_n (k := 0) (by decide +kernel) rfl ?_
  refine mV_sipush (n := 2000) (v := nI 2000) (by decide +kernel) (by decide) ?_
  have hs2 := h.1
  replace h := h.2
  refine mV_newax (at0 := .byte) (t := 1) (len := 2000) (n0 := (mg_n G + 1)) (mc := 56) (ms := 18371) (by decide +kernel) rfl rfl (by decide) (mm_t1 113 (by decide +kernel)) (by decide) (by decide) (by decide) hs2 (fun _ => rfl) ?_
  refine mV_pff (r := some (mg_n G + 1)) (by decide +kernel) fk_13_17 rfl (fun _ _ h => by cases h; rfl) hx rfl rfl ?_
  refine mV_aload_n (k := 0) (by decide +kernel) rfl ?_
  refine mV_sipush (n := 403) (v := nI 403) (by decide +kernel) (by decide) ?_
  have hs3 := h.1
  replace h := h.2
  refine mV_newax (at0 := .int) (t := 0) (len := 403) (n0 := (mg_n G + 2)) (mc := 55) (ms := 17968) (by decide +kernel) rfl rfl (by decide) (mm_t1 111 (by decide +kernel)) (by decide) (by decide) (by decide) hs3 (fun _ => rfl) ?_
  refine mV_pff (r := some (mg_n G + 2)) (by decide +kernel) fk_13_20 rfl (fun _ _ h => by cases h; rfl) hx rfl rfl ?_
  refine mV_aload_n (k := 0) (by decide +kernel) rfl ?_
  refine mV_sipush (n := 403) (v := nI 403) (by decide +kernel) (by decide) ?_
  have hs4 := h.1
  replace h := h.2
  refine mV_newax (at0 := .int) (t := 0) (len := 403) (n0 := (mg_n G + 3)) (mc := 54) (ms := 17565) (by decide +kernel) rfl rfl (by decide) (mm_t1 111 (by decide +kernel)) (by decide) (by decide) (by decide) hs4 (fun _ => rfl) ?_
  refine mV_pff (r := some (mg_n G + 3)) (by decide +kernel) fk_13_24 rfl (fun _ _ h => by cases h; rfl) hx rfl rfl ?_
  refine mV_aload_n (k := 0) (by decide +kernel) rfl ?_
  refine mV_sipush (n := 403) (v := nI 403) (by decide +kernel) (by decide) ?_
  have hs5 := h.1
  replace h := h.2
  refine mV_newax (at0 := .int) (t := 0) (len := 403) (n0 := (mg_n G + 4)) (mc := 53) (ms := 17162) (by decide +kernel) rfl rfl (by decide) (mm_t1 111 (by decide +kernel)) (by decide) (by decide) (by decide) hs5 (fun _ => rfl) ?_
  refine mV_pff (r := some (mg_n G + 4)) (by decide +kernel) fk_13_27 rfl (fun _ _ h => by cases h; rfl) hx rfl rfl ?_
  refine mV_aload_n (k := 0) (by decide +kernel) rfl ?_
  refine mV_sipush (n := 403) (v := nI 403) (by decide +kernel) (by decide) ?_
  have hs6 := h.1
  replace h := h.2
  refine mV_newax (at0 := .long) (t := 3) (len := 403) (n0 := (mg_n G + 5)) (mc := 52) (ms := 16759) (by decide +kernel) rfl rfl (by decide) (mm_t1 112 (by decide +kernel)) (by decide) (by decide) (by decide) hs6 (fun _ => rfl) ?_
  refine mV_pff (r := some (mg_n G + 5)) (by decide +kernel) fk_13_30 rfl (fun _ _ h => by cases h; rfl) hx rfl rfl ?_
  refine mV_aload_n (k := 0) (by decide +kernel) rfl ?_
  refine mV_bipush (n := 20) (v := nI 20) (by decide +kernel) (by decide) ?_
  have hs7 := h.1
  replace h := h.2
  refine mV_newax (at0 := .long) (t := 3) (len := 20) (n0 := (mg_n G + 6)) (mc := 51) (ms := 16739) (by decide +kernel) rfl rfl (by decide) (mm_t1 112 (by decide +kernel)) (by decide) (by decide) (by decide) hs7 (fun _ => rfl) ?_
  refine mV_pff (r := some (mg_n G + 6)) (by decide +kernel) fk_13_34 rfl (fun _ _ h => by cases h; rfl) hx rfl rfl ?_
  refine mV_aload_n (k := 0) (by decide +kernel) rfl ?_
  refine mV_iconst (n := -1) (v := (-1)) (by decide +kernel) (by decide) ?_
  refine mV_pfi (by decide +kernel) fk_13_37 hx ?_
  refine mV_aload_n (k := 0) (by decide +kernel) rfl ?_
  refine mV_iconst (n := 5) (v := nI 5) (by decide +kernel) (by decide) ?_
  have hs8 := h.1
  replace h := h.2
  refine mV_newax (at0 := .int) (t := 0) (len := 5) (n0 := (mg_n G + 7)) (mc := 50) (ms := 16734) (by decide +kernel) rfl rfl (by decide) (mm_t1 111 (by decide +kernel)) (by decide) (by decide) (by decide) hs8 (fun _ => rfl) ?_
  refine mV_pff (r := some (mg_n G + 7)) (by decide +kernel) fk_13_40 rfl (fun _ _ h => by cases h; rfl) hx rfl rfl ?_
  refine mV_aload_n (k := 0) (by decide +kernel) rfl ?_
  refine mV_bipush (n := 20) (v := nI 20) (by decide +kernel) (by decide) ?_
  have hs9 := h.1
  replace h := h.2
  refine mV_newax (at0 := .long) (t := 3) (len := 20) (n0 := (mg_n G + 8)) (mc := 49) (ms := 16714) (by decide +kernel) rfl rfl (by decide) (mm_t1 112 (by decide +kernel)) (by decide) (by decide) (by decide) hs9 (fun _ => rfl) ?_
  refine mV_pff (r := some (mg_n G + 8)) (by decide +kernel) fk_13_43 rfl (fun _ _ h => by cases h; rfl) hx rfl rfl ?_
  refine mV_aload_n (k := 0) (by decide +kernel) rfl ?_
  refine mV_bipush (n := 20) (v := nI 20) (by decide +kernel) (by decide) ?_
  have hs10 := h.1
  replace h := h.2
  refine mV_newax (at0 := .int) (t := 0) (len := 20) (n0 := (mg_n G + 9)) (mc := 48) (ms := 16694) (by decide +kernel) rfl rfl (by decide) (mm_t1 111 (by decide +kernel)) (by decide) (by decide) (by decide) hs10 (fun _ => rfl) ?_
  refine mV_pff (r := some (mg_n G + 9)) (by decide +kernel) fk_13_46 rfl (fun _ _ h => by cases h; rfl) hx rfl rfl ?_
  refine mV_aload_n (k := 0) (by decide +kernel) rfl ?_
  refine mV_sipush (n := 320) (v := nI 320) (by decide +kernel) (by decide) ?_
  have hs11 := h.1
  replace h := h.2
  refine mV_newax (at0 := .int) (t := 0) (len := 320) (n0 := (mg_n G + 10)) (mc := 47) (ms := 16374) (by decide +kernel) rfl rfl (by decide) (mm_t1 111 (by decide +kernel)) (by decide) (by decide) (by decide) hs11 (fun _ => rfl) ?_
  refine mV_pff (r := some (mg_n G + 10)) (by decide +kernel) fk_13_49 rfl (fun _ _ h => by cases h; rfl) hx rfl rfl ?_
  refine mV_aload_n (k := 0) (by decide +kernel) rfl ?_
  refine mV_sipush (n := 320) (v := nI 320) (by decide +kernel) (by decide) ?_
  have hs12 := h.1
  replace h := h.2
  refine mV_newax (at0 := .int) (t := 0) (len := 320) (n0 := (mg_n G + 11)) (mc := 46) (ms := 16054) (by decide +kernel) rfl rfl (by decide) (mm_t1 111 (by decide +kernel)) (by decide) (by decide) (by decide) hs12 (fun _ => rfl) ?_
  refine mV_pff (r := some (mg_n G + 11)) (by decide +kernel) fk_13_52 rfl (fun _ _ h => by cases h; rfl) hx rfl rfl ?_
  refine mV_aload_n (k := 0) (by decide +kernel) rfl ?_
  refine mV_sipush (n := 320) (v := nI 320) (by decide +kernel) (by decide) ?_
  have hs13 := h.1
  replace h := h.2
  refine mV_newax (at0 := .int) (t := 0) (len := 320) (n0 := (mg_n G + 12)) (mc := 45) (ms := 15734) (by decide +kernel) rfl rfl (by decide) (mm_t1 111 (by decide +kernel)) (by decide) (by decide) (by decide) hs13 (fun _ => rfl) ?_
  refine mV_pff (r := some (mg_n G + 12)) (by decide +kernel) fk_13_55 rfl (fun _ _ h => by cases h; rfl) hx rfl rfl ?_
  refine mV_aload_n (k := 0) (by decide +kernel) rfl ?_
  refine mV_sipush (n := 320) (v := nI 320) (by decide +kernel) (by decide) ?_
  have hs14 := h.1
  replace h := h.2
  refine mV_newax (at0 := .int) (t := 0) (len := 320) (n0 := (mg_n G + 13)) (mc := 44) (ms := 15414) (by decide +kernel) rfl rfl (by decide) (mm_t1 111 (by decide +kernel)) (by decide) (by decide) (by decide) hs14 (fun _ => rfl) ?_
  refine mV_pff (r := some (mg_n G + 13)) (by decide +kernel) fk_13_58 rfl (fun _ _ h => by cases h; rfl) hx rfl rfl ?_
  refine mV_aload_n (k := 0) (by decide +kernel) rfl ?_
  refine mV_sipush (n := 320) (v := nI 320) (by decide +kernel) (by decide) ?_
  have hs15 := h.1
  replace h := h.2
  refine mV_newax (at0 := .int) (t := 0) (len := 320) (n0 := (mg_n G + 14)) (mc := 43) (ms := 15094) (by decide +kernel) rfl rfl (by decide) (mm_t1 111 (by decide +kernel)) (by decide) (by decide) (by decide) hs15 (fun _ => rfl) ?_
  refine mV_pff (r := some (mg_n G + 14)) (by decide +kernel) fk_13_61 rfl (fun _ _ h => by cases h; rfl) hx rfl rfl ?_
  refine mV_aload_n (k := 0) (by decide +kernel) rfl ?_
  refine mV_sipush (n := 320) (v := nI 320) (by decide +kernel) (by decide) ?_
  have hs16 := h.1
  replace h := h.2
  refine mV_newax (at0 := .int) (t := 0) (len := 320) (n0 := (mg_n G + 15)) (mc := 42) (ms := 14774) (by decide +kernel) rfl rfl (by decide) (mm_t1 111 (by decide +kernel)) (by decide) (by decide) (by decide) hs16 (fun _ => rfl) ?_
  refine mV_pff (r := some (mg_n G + 15)) (by decide +kernel) fk_13_64 rfl (fun _ _ h => by cases h; rfl) hx rfl rfl ?_
  refine mV_aload_n (k := 0) (by decide +kernel) rfl ?_
  refine mV_sipush (n := 320) (v := nI 320) (by decide +kernel) (by decide) ?_
  have hs17 := h.1
  replace h := h.2
  refine mV_newax (at0 := .int) (t := 0) (len := 320) (n0 := (mg_n G + 16)) (mc := 41) (ms := 14454) (by decide +kernel) rfl rfl (by decide) (mm_t1 111 (by decide +kernel)) (by decide) (by decide) (by decide) hs17 (fun _ => rfl) ?_
  refine mV_pff (r := some (mg_n G + 16)) (by decide +kernel) fk_13_67 rfl (fun _ _ h => by cases h; rfl) hx rfl rfl ?_
  refine mV_aload_n (k := 0) (by decide +kernel) rfl ?_
  refine mV_sipush (n := 320) (v := nI 320) (by decide +kernel) (by decide) ?_
  have hs18 := h.1
  replace h := h.2
  refine mV_newax (at0 := .int) (t := 0) (len := 320) (n0 := (mg_n G + 17)) (mc := 40) (ms := 14134) (by decide +kernel) rfl rfl (by decide) (mm_t1 111 (by decide +kernel)) (by decide) (by decide) (by decide) hs18 (fun _ => rfl) ?_
  refine mV_pff (r := some (mg_n G + 17)) (by decide +kernel) fk_13_70 rfl (fun _ _ h => by cases h; rfl) hx rfl rfl ?_
  refine mV_aload_n (k := 0) (by decide +kernel) rfl ?_
  refine mV_sipush (n := 320) (v := nI 320) (by decide +kernel) (by decide) ?_
  have hs19 := h.1
  replace h := h.2
  refine mV_newax (at0 := .int) (t := 0) (len := 320) (n0 := (mg_n G + 18)) (mc := 39) (ms := 13814) (by decide +kernel) rfl rfl (by decide) (mm_t1 111 (by decide +kernel)) (by decide) (by decide) (by decide) hs19 (fun _ => rfl) ?_
  refine mV_pff (r := some (mg_n G + 18)) (by decide +kernel) fk_13_73 rfl (fun _ _ h => by cases h; rfl) hx rfl rfl ?_
  refine mV_aload_n (k := 0) (by decide +kernel) rfl ?_
  refine mV_sipush (n := 320) (v := nI 320) (by decide +kernel) (by decide) ?_
  have hs20 := h.1
  replace h := h.2
  refine mV_newax (at0 := .long) (t := 3) (len := 320) (n0 := (mg_n G + 19)) (mc := 38) (ms := 13494) (by decide +kernel) rfl rfl (by decide) (mm_t1 112 (by decide +kernel)) (by decide) (by decide) (by decide) hs20 (fun _ => rfl) ?_
  refine mV_pff (r := some (mg_n G + 19)) (by decide +kernel) fk_13_76 rfl (fun _ _ h => by cases h; rfl) hx rfl rfl ?_
  refine mV_aload_n (k := 0) (by decide +kernel) rfl ?_
  refine mV_sipush (n := 320) (v := nI 320) (by decide +kernel) (by decide) ?_
  have hs21 := h.1
  replace h := h.2
  refine mV_newax (at0 := .long) (t := 3) (len := 320) (n0 := (mg_n G + 20)) (mc := 37) (ms := 13174) (by decide +kernel) rfl rfl (by decide) (mm_t1 112 (by decide +kernel)) (by decide) (by decide) (by decide) hs21 (fun _ => rfl) ?_
  refine mV_pff (r := some (mg_n G + 20)) (by decide +kernel) fk_13_79 rfl (fun _ _ h => by cases h; rfl) hx rfl rfl ?_
  refine mV_aload_n (k := 0) (by decide +kernel) rfl ?_
  refine mV_bipush (n := 16) (v := nI 16) (by decide +kernel) (by decide) ?_
  have hs22 := h.1
  replace h := h.2
  refine mV_newax (at0 := .int) (t := 0) (len := 16) (n0 := (mg_n G + 21)) (mc := 36) (ms := 13158) (by decide +kernel) rfl rfl (by decide) (mm_t1 111 (by decide +kernel)) (by decide) (by decide) (by decide) hs22 (fun _ => rfl) ?_
  refine mV_pff (r := some (mg_n G + 21)) (by decide +kernel) fk_13_82 rfl (fun _ _ h => by cases h; rfl) hx rfl rfl ?_
  refine mV_aload_n (k := 0) (by decide +kernel) rfl ?_
  refine mV_iconst (n := 2) (v := nI 2) (by decide +kernel) (by decide) ?_
  have hs23 := h.1
  replace h := h.2
  refine mV_newax (at0 := .int) (t := 0) (len := 2) (n0 := (mg_n G + 22)) (mc := 35) (ms := 13156) (by decide +kernel) rfl rfl (by decide) (mm_t1 111 (by decide +kernel)) (by decide) (by decide) (by decide) hs23 (fun _ => rfl) ?_
  refine mV_pff (r := some (mg_n G + 22)) (by decide +kernel) fk_13_85 rfl (fun _ _ h => by cases h; rfl) hx rfl rfl ?_
  refine mV_aload_n (k := 0) (by decide +kernel) rfl ?_
  refine mV_bipush (n := 16) (v := nI 16) (by decide +kernel) (by decide) ?_
  have hs24 := h.1
  replace h := h.2
  refine mV_newax (at0 := .int) (t := 0) (len := 16) (n0 := (mg_n G + 23)) (mc := 34) (ms := 13140) (by decide +kernel) rfl rfl (by decide) (mm_t1 111 (by decide +kernel)) (by decide) (by decide) (by decide) hs24 (fun _ => rfl) ?_
  refine mV_pff (r := some (mg_n G + 23)) (by decide +kernel) fk_13_88 rfl (fun _ _ h => by cases h; rfl) hx rfl rfl ?_
  refine mV_aload_n (k := 0) (by decide +kernel) rfl ?_
  refine mV_bipush (n := 96) (v := nI 96) (by decide +kernel) (by decide) ?_
  have hs25 := h.1
  replace h := h.2
  refine mV_newax (at0 := .int) (t := 0) (len := 96) (n0 := (mg_n G + 24)) (mc := 33) (ms := 13044) (by decide +kernel) rfl rfl (by decide) (mm_t1 111 (by decide +kernel)) (by decide) (by decide) (by decide) hs25 (fun _ => rfl) ?_
  refine mV_pff (r := some (mg_n G + 24)) (by decide +kernel) fk_13_91 rfl (fun _ _ h => by cases h; rfl) hx rfl rfl ?_
  refine mV_aload_n (k := 0) (by decide +kernel) rfl ?_
  refine mV_bipush (n := 16) (v := nI 16) (by decide +kernel) (by decide) ?_
  have hs26 := h.1
  replace h := h.2
  refine mV_newax (at0 := .int) (t := 0) (len := 16) (n0 := (mg_n G + 25)) (mc := 32) (ms := 13028) (by decide +kernel) rfl rfl (by decide) (mm_t1 111 (by decide +kernel)) (by decide) (by decide) (by decide) hs26 (fun _ => rfl) ?_
  refine mV_pff (r := some (mg_n G + 25)) (by decide +kernel) fk_13_94 rfl (fun _ _ h => by cases h; rfl) hx rfl rfl ?_
  refine mV_aload_n (k := 0) (by decide +kernel) rfl ?_
  refine mV_sipush (n := 128) (v := nI 128) (by decide +kernel) (by decide) ?_
  have hs27 := h.1
  replace h := h.2
  refine mV_newax (at0 := .int) (t := 0) (len := 128) (n0 := (mg_n G + 26)) (mc := 31) (ms := 12900) (by decide +kernel) rfl rfl (by decide) (mm_t1 111 (by decide +kernel)) (by decide) (by decide) (by decide) hs27 (fun _ => rfl) ?_
  refine mV_pff (r := some (mg_n G + 26)) (by decide +kernel) fk_13_97 rfl (fun _ _ h => by cases h; rfl) hx rfl rfl ?_
  refine mV_aload_n (k := 0) (by decide +kernel) rfl ?_
  refine mV_iconst (n := 2) (v := nI 2) (by decide +kernel) (by decide) ?_
  have hs28 := h.1
  replace h := h.2
  refine mV_newax (at0 := .int) (t := 0) (len := 2) (n0 := (mg_n G + 27)) (mc := 30) (ms := 12898) (by decide +kernel) rfl rfl (by decide) (mm_t1 111 (by decide +kernel)) (by decide) (by decide) (by decide) hs28 (fun _ => rfl) ?_
  refine mV_pff (r := some (mg_n G + 27)) (by decide +kernel) fk_13_100 rfl (fun _ _ h => by cases h; rfl) hx rfl rfl ?_
  refine mV_aload_n (k := 0) (by decide +kernel) rfl ?_
  refine mV_bipush (n := 20) (v := nI 20) (by decide +kernel) (by decide) ?_
  have hs29 := h.1
  replace h := h.2
  refine mV_newax (at0 := .int) (t := 0) (len := 20) (n0 := (mg_n G + 28)) (mc := 29) (ms := 12878) (by decide +kernel) rfl rfl (by decide) (mm_t1 111 (by decide +kernel)) (by decide) (by decide) (by decide) hs29 (fun _ => rfl) ?_
  refine mV_pff (r := some (mg_n G + 28)) (by decide +kernel) fk_13_103 rfl (fun _ _ h => by cases h; rfl) hx rfl rfl ?_
  refine mV_aload_n (k := 0) (by decide +kernel) rfl ?_
  refine mV_bipush (n := 20) (v := nI 20) (by decide +kernel) (by decide) ?_
  have hs30 := h.1
  replace h := h.2
  refine mV_newax (at0 := .int) (t := 0) (len := 20) (n0 := (mg_n G + 29)) (mc := 28) (ms := 12858) (by decide +kernel) rfl rfl (by decide) (mm_t1 111 (by decide +kernel)) (by decide) (by decide) (by decide) hs30 (fun _ => rfl) ?_
  refine mV_pff (r := some (mg_n G + 29)) (by decide +kernel) fk_13_106 rfl (fun _ _ h => by cases h; rfl) hx rfl rfl ?_
  refine mV_aload_n (k := 0) (by decide +kernel) rfl ?_
  refine mV_iconst (n := 4) (v := nI 4) (by decide +kernel) (by decide) ?_
  have hs31 := h.1
  replace h := h.2
  refine mV_newax (at0 := .int) (t := 0) (len := 4) (n0 := (mg_n G + 30)) (mc := 27) (ms := 12854) (by decide +kernel) rfl rfl (by decide) (mm_t1 111 (by decide +kernel)) (by decide) (by decide) (by decide) hs31 (fun _ => rfl) ?_
  refine mV_pff (r := some (mg_n G + 30)) (by decide +kernel) fk_13_109 rfl (fun _ _ h => by cases h; rfl) hx rfl rfl ?_
  refine mV_aload_n (k := 0) (by decide +kernel) rfl ?_
  refine mV_bipush (n := 8) (v := nI 8) (by decide +kernel) (by decide) ?_
  have hs32 := h.1
  replace h := h.2
  refine mV_newax (at0 := .int) (t := 0) (len := 8) (n0 := (mg_n G + 31)) (mc := 26) (ms := 12846) (by decide +kernel) rfl rfl (by decide) (mm_t1 111 (by decide +kernel)) (by decide) (by decide) (by decide) hs32 (fun _ => rfl) ?_
  refine mV_pff (r := some (mg_n G + 31)) (by decide +kernel) fk_13_112 rfl (fun _ _ h => by cases h; rfl) hx rfl rfl ?_
  refine mV_aload_n (k := 0) (by decide +kernel) rfl ?_
  refine mV_sipush (n := 301) (v := nI 301) (by decide +kernel) (by decide) ?_
  have hs33 := h.1
  replace h := h.2
  refine mV_newax (at0 := .int) (t := 0) (len := 301) (n0 := (mg_n G + 32)) (mc := 25) (ms := 12545) (by decide +kernel) rfl rfl (by decide) (mm_t1 111 (by decide +kernel)) (by decide) (by decide) (by decide) hs33 (fun _ => rfl) ?_
  refine mV_pff (r := some (mg_n G + 32)) (by decide +kernel) fk_13_115 rfl (fun _ _ h => by cases h; rfl) hx rfl rfl ?_
  refine mV_aload_n (k := 0) (by decide +kernel) rfl ?_
  refine mV_bipush (n := 8) (v := nI 8) (by decide +kernel) (by decide) ?_
  have hs34 := h.1
  replace h := h.2
  refine mV_newax (at0 := .int) (t := 0) (len := 8) (n0 := (mg_n G + 33)) (mc := 24) (ms := 12537) (by decide +kernel) rfl rfl (by decide) (mm_t1 111 (by decide +kernel)) (by decide) (by decide) (by decide) hs34 (fun _ => rfl) ?_
  refine mV_pff (r := some (mg_n G + 33)) (by decide +kernel) fk_13_118 rfl (fun _ _ h => by cases h; rfl) hx rfl rfl ?_
  refine mV_aload_n (k := 0) (by decide +kernel) rfl ?_
  refine mV_bipush (n := 8) (v := nI 8) (by decide +kernel) (by decide) ?_
  have hs35 := h.1
  replace h := h.2
  refine mV_newax (at0 := .int) (t := 0) (len := 8) (n0 := (mg_n G + 34)) (mc := 23) (ms := 12529) (by decide +kernel) rfl rfl (by decide) (mm_t1 111 (by decide +kernel)) (by decide) (by decide) (by decide) hs35 (fun _ => rfl) ?_
  refine mV_pff (r := some (mg_n G + 34)) (by decide +kernel) fk_13_121 rfl (fun _ _ h => by cases h; rfl) hx rfl rfl ?_
  refine mV_aload_n (k := 0) (by decide +kernel) rfl ?_
  refine mV_bipush (n := 8) (v := nI 8) (by decide +kernel) (by decide) ?_
  have hs36 := h.1
  replace h := h.2
  refine mV_newax (at0 := .int) (t := 0) (len := 8) (n0 := (mg_n G + 35)) (mc := 22) (ms := 12521) (by decide +kernel) rfl rfl (by decide) (mm_t1 111 (by decide +kernel)) (by decide) (by decide) (by decide) hs36 (fun _ => rfl) ?_
  refine mV_pff (r := some (mg_n G + 35)) (by decide +kernel) fk_13_124 rfl (fun _ _ h => by cases h; rfl) hx rfl rfl ?_
  refine mV_aload_n (k := 0) (by decide +kernel) rfl ?_
  refine mV_bipush (n := 8) (v := nI 8) (by decide +kernel) (by decide) ?_
  have hs37 := h.1
  replace h := h.2
  refine mV_newax (at0 := .int) (t := 0) (len := 8) (n0 := (mg_n G + 36)) (mc := 21) (ms := 12513) (by decide +kernel) rfl rfl (by decide) (mm_t1 111 (by decide +kernel)) (by decide) (by decide) (by decide) hs37 (fun _ => rfl) ?_
  refine mV_pff (r := some (mg_n G + 36)) (by decide +kernel) fk_13_127 rfl (fun _ _ h => by cases h; rfl) hx rfl rfl ?_
  refine mV_aload_n (k := 0) (by decide +kernel) rfl ?_
  refine mV_bipush (n := 64) (v := nI 64) (by decide +kernel) (by decide) ?_
  have hs38 := h.1
  replace h := h.2
  refine mV_newax (at0 := .int) (t := 0) (len := 64) (n0 := (mg_n G + 37)) (mc := 20) (ms := 12449) (by decide +kernel) rfl rfl (by decide) (mm_t1 111 (by decide +kernel)) (by decide) (by decide) (by decide) hs38 (fun _ => rfl) ?_
  refine mV_pff (r := some (mg_n G + 37)) (by decide +kernel) fk_13_130 rfl (fun _ _ h => by cases h; rfl) hx rfl rfl ?_
  refine mV_aload_n (k := 0) (by decide +kernel) rfl ?_
  refine mV_sipush (n := 4096) (v := nI 4096) (by decide +kernel) (by decide) ?_
  have hs39 := h.1
  replace h := h.2
  refine mV_newax (at0 := .boolean) (t := 2) (len := 4096) (n0 := (mg_n G + 38)) (mc := 19) (ms := 8353) (by decide +kernel) rfl rfl (by decide) (mm_t2 1 (by decide +kernel)) (by decide) (by decide) (by decide) hs39 (fun _ => rfl) ?_
  refine mV_pff (r := some (mg_n G + 38)) (by decide +kernel) fk_13_133 rfl (fun _ _ h => by cases h; rfl) hx rfl rfl ?_
  refine mV_aload_n (k := 0) (by decide +kernel) rfl ?_
  refine mV_sipush (n := 4096) (v := nI 4096) (by decide +kernel) (by decide) ?_
  have hs40 := h.1
  replace h := h.2
  refine mV_newax (at0 := .long) (t := 3) (len := 4096) (n0 := (mg_n G + 39)) (mc := 18) (ms := 4257) (by decide +kernel) rfl rfl (by decide) (mm_t1 112 (by decide +kernel)) (by decide) (by decide) (by decide) hs40 (fun _ => rfl) ?_
  refine mV_pff (r := some (mg_n G + 39)) (by decide +kernel) fk_13_137 rfl (fun _ _ h => by cases h; rfl) hx rfl rfl ?_
  refine mV_aload_n (k := 0) (by decide +kernel) rfl ?_
  refine mV_bipush (n := 8) (v := nI 8) (by decide +kernel) (by decide) ?_
  have hs41 := h.1
  replace h := h.2
  refine mV_newax (at0 := .int) (t := 0) (len := 8) (n0 := (mg_n G + 40)) (mc := 17) (ms := 4249) (by decide +kernel) rfl rfl (by decide) (mm_t1 111 (by decide +kernel)) (by decide) (by decide) (by decide) hs41 (fun _ => rfl) ?_
  refine mV_pff (r := some (mg_n G + 40)) (by decide +kernel) fk_13_140 rfl (fun _ _ h => by cases h; rfl) hx rfl rfl ?_
  refine mV_aload_n (k := 0) (by decide +kernel) rfl ?_
  refine mV_bipush (n := 20) (v := nI 20) (by decide +kernel) (by decide) ?_
  have hs42 := h.1
  replace h := h.2
  refine mV_newax (at0 := .int) (t := 0) (len := 20) (n0 := (mg_n G + 41)) (mc := 16) (ms := 4229) (by decide +kernel) rfl rfl (by decide) (mm_t1 111 (by decide +kernel)) (by decide) (by decide) (by decide) hs42 (fun _ => rfl) ?_
  refine mV_pff (r := some (mg_n G + 41)) (by decide +kernel) fk_13_143 rfl (fun _ _ h => by cases h; rfl) hx rfl rfl ?_
  refine mV_aload_n (k := 0) (by decide +kernel) rfl ?_
  refine mV_bipush (n := 20) (v := nI 20) (by decide +kernel) (by decide) ?_
  have hs43 := h.1
  replace h := h.2
  refine mV_newax (at0 := .int) (t := 0) (len := 20) (n0 := (mg_n G + 42)) (mc := 15) (ms := 4209) (by decide +kernel) rfl rfl (by decide) (mm_t1 111 (by decide +kernel)) (by decide) (by decide) (by decide) hs43 (fun _ => rfl) ?_
  refine mV_pff (r := some (mg_n G + 42)) (by decide +kernel) fk_13_146 rfl (fun _ _ h => by cases h; rfl) hx rfl rfl ?_
  refine mV_aload_n (k := 0) (by decide +kernel) rfl ?_
  refine mV_bipush (n := 20) (v := nI 20) (by decide +kernel) (by decide) ?_
  have hs44 := h.1
  replace h := h.2
  refine mV_newax (at0 := .int) (t := 0) (len := 20) (n0 := (mg_n G + 43)) (mc := 14) (ms := 4189) (by decide +kernel) rfl rfl (by decide) (mm_t1 111 (by decide +kernel)) (by decide) (by decide) (by decide) hs44 (fun _ => rfl) ?_
  refine mV_pff (r := some (mg_n G + 43)) (by decide +kernel) fk_13_149 rfl (fun _ _ h => by cases h; rfl) hx rfl rfl ?_
  refine mV_aload_n (k := 0) (by decide +kernel) rfl ?_
  refine mV_sipush (n := 160) (v := nI 160) (by decide +kernel) (by decide) ?_
  have hs45 := h.1
  replace h := h.2
  refine mV_newax (at0 := .int) (t := 0) (len := 160) (n0 := (mg_n G + 44)) (mc := 13) (ms := 4029) (by decide +kernel) rfl rfl (by decide) (mm_t1 111 (by decide +kernel)) (by decide) (by decide) (by decide) hs45 (fun _ => rfl) ?_
  refine mV_pff (r := some (mg_n G + 44)) (by decide +kernel) fk_13_152 rfl (fun _ _ h => by cases h; rfl) hx rfl rfl ?_
  refine mV_aload_n (k := 0) (by decide +kernel) rfl ?_
  refine mV_sipush (n := 140) (v := nI 140) (by decide +kernel) (by decide) ?_
  have hs46 := h.1
  replace h := h.2
  refine mV_newax (at0 := .int) (t := 0) (len := 140) (n0 := (mg_n G + 45)) (mc := 12) (ms := 3889) (by decide +kernel) rfl rfl (by decide) (mm_t1 111 (by decide +kernel)) (by decide) (by decide) (by decide) hs46 (fun _ => rfl) ?_
  refine mV_pff (r := some (mg_n G + 45)) (by decide +kernel) fk_13_155 rfl (fun _ _ h => by cases h; rfl) hx rfl rfl ?_
  refine mV_aload_n (k := 0) (by decide +kernel) rfl ?_
  refine mV_sipush (n := 1120) (v := nI 1120) (by decide +kernel) (by decide) ?_
  have hs47 := h.1
  replace h := h.2
  refine mV_newax (at0 := .int) (t := 0) (len := 1120) (n0 := (mg_n G + 46)) (mc := 11) (ms := 2769) (by decide +kernel) rfl rfl (by decide) (mm_t1 111 (by decide +kernel)) (by decide) (by decide) (by decide) hs47 (fun _ => rfl) ?_
  refine mV_pff (r := some (mg_n G + 46)) (by decide +kernel) fk_13_158 rfl (fun _ _ h => by cases h; rfl) hx rfl rfl ?_
  refine mV_aload_n (k := 0) (by decide +kernel) rfl ?_
  refine mV_sipush (n := 140) (v := nI 140) (by decide +kernel) (by decide) ?_
  have hs48 := h.1
  replace h := h.2
  refine mV_newax (at0 := .int) (t := 0) (len := 140) (n0 := (mg_n G + 47)) (mc := 10) (ms := 2629) (by decide +kernel) rfl rfl (by decide) (mm_t1 111 (by decide +kernel)) (by decide) (by decide) (by decide) hs48 (fun _ => rfl) ?_
  refine mV_pff (r := some (mg_n G + 47)) (by decide +kernel) fk_13_161 rfl (fun _ _ h => by cases h; rfl) hx rfl rfl ?_
  refine mV_aload_n (k := 0) (by decide +kernel) rfl ?_
  refine mV_sipush (n := 140) (v := nI 140) (by decide +kernel) (by decide) ?_
  have hs49 := h.1
  replace h := h.2
  refine mV_newax (at0 := .int) (t := 0) (len := 140) (n0 := (mg_n G + 48)) (mc := 9) (ms := 2489) (by decide +kernel) rfl rfl (by decide) (mm_t1 111 (by decide +kernel)) (by decide) (by decide) (by decide) hs49 (fun _ => rfl) ?_
  refine mV_pff (r := some (mg_n G + 48)) (by decide +kernel) fk_13_164 rfl (fun _ _ h => by cases h; rfl) hx rfl rfl ?_
  refine mV_aload_n (k := 0) (by decide +kernel) rfl ?_
  refine mV_sipush (n := 1120) (v := nI 1120) (by decide +kernel) (by decide) ?_
  have hs50 := h.1
  replace h := h.2
  refine mV_newax (at0 := .int) (t := 0) (len := 1120) (n0 := (mg_n G + 49)) (mc := 8) (ms := 1369) (by decide +kernel) rfl rfl (by decide) (mm_t1 111 (by decide +kernel)) (by decide) (by decide) (by decide) hs50 (fun _ => rfl) ?_
  refine mV_pff (r := some (mg_n G + 49)) (by decide +kernel) fk_13_167 rfl (fun _ _ h => by cases h; rfl) hx rfl rfl ?_
  refine mV_aload_n (k := 0) (by decide +kernel) rfl ?_
  refine mV_sipush (n := 700) (v := nI 700) (by decide +kernel) (by decide) ?_
  have hs51 := h.1
  replace h := h.2
  refine mV_newax (at0 := .boolean) (t := 2) (len := 700) (n0 := (mg_n G + 50)) (mc := 7) (ms := 669) (by decide +kernel) rfl rfl (by decide) (mm_t2 1 (by decide +kernel)) (by decide) (by decide) (by decide) hs51 (fun _ => rfl) ?_
  refine mV_pff (r := some (mg_n G + 50)) (by decide +kernel) fk_13_170 rfl (fun _ _ h => by cases h; rfl) hx rfl rfl ?_
  refine mV_aload_n (k := 0) (by decide +kernel) rfl ?_
  refine mV_iconst (n := 3) (v := nI 3) (by decide +kernel) (by decide) ?_
  have hs52 := h.1
  replace h := h.2
  refine mV_newax (at0 := .boolean) (t := 2) (len := 3) (n0 := (mg_n G + 51)) (mc := 6) (ms := 666) (by decide +kernel) rfl rfl (by decide) (mm_t2 1 (by decide +kernel)) (by decide) (by decide) (by decide) hs52 (fun _ => rfl) ?_
  refine mV_pff (r := some (mg_n G + 51)) (by decide +kernel) fk_13_173 rfl (fun _ _ h => by cases h; rfl) hx rfl rfl ?_
  refine mV_aload_n (k := 0) (by decide +kernel) rfl ?_
  refine mV_iconst (n := 3) (v := nI 3) (by decide +kernel) (by decide) ?_
  have hs53 := h.1
  replace h := h.2
  refine mV_newax (at0 := .int) (t := 0) (len := 3) (n0 := (mg_n G + 52)) (mc := 5) (ms := 663) (by decide +kernel) rfl rfl (by decide) (mm_t1 111 (by decide +kernel)) (by decide) (by decide) (by decide) hs53 (fun _ => rfl) ?_
  refine mV_pff (r := some (mg_n G + 52)) (by decide +kernel) fk_13_176 rfl (fun _ _ h => by cases h; rfl) hx rfl rfl ?_
  refine mV_aload_n (k := 0) (by decide +kernel) rfl ?_
  refine mV_iconst (n := 3) (v := nI 3) (by decide +kernel) (by decide) ?_
  have hs54 := h.1
  replace h := h.2
  refine mV_newax (at0 := .int) (t := 0) (len := 3) (n0 := (mg_n G + 53)) (mc := 4) (ms := 660) (by decide +kernel) rfl rfl (by decide) (mm_t1 111 (by decide +kernel)) (by decide) (by decide) (by decide) hs54 (fun _ => rfl) ?_
  refine mV_pff (r := some (mg_n G + 53)) (by decide +kernel) fk_13_179 rfl (fun _ _ h => by cases h; rfl) hx rfl rfl ?_
  refine mV_aload_n (k := 0) (by decide +kernel) rfl ?_
  refine mV_bipush (n := 60) (v := nI 60) (by decide +kernel) (by decide) ?_
  have hs55 := h.1
  replace h := h.2
  refine mV_newax (at0 := .int) (t := 0) (len := 60) (n0 := (mg_n G + 54)) (mc := 3) (ms := 600) (by decide +kernel) rfl rfl (by decide) (mm_t1 111 (by decide +kernel)) (by decide) (by decide) (by decide) hs55 (fun _ => rfl) ?_
  refine mV_pff (r := some (mg_n G + 54)) (by decide +kernel) fk_13_182 rfl (fun _ _ h => by cases h; rfl) hx rfl rfl ?_
  refine mV_aload_n (k := 0) (by decide +kernel) rfl ?_
  refine mV_bipush (n := 60) (v := nI 60) (by decide +kernel) (by decide) ?_
  have hs56 := h.1
  replace h := h.2
  refine mV_newax (at0 := .int) (t := 0) (len := 60) (n0 := (mg_n G + 55)) (mc := 2) (ms := 540) (by decide +kernel) rfl rfl (by decide) (mm_t1 111 (by decide +kernel)) (by decide) (by decide) (by decide) hs56 (fun _ => rfl) ?_
  refine mV_pff (r := some (mg_n G + 55)) (by decide +kernel) fk_13_185 rfl (fun _ _ h => by cases h; rfl) hx rfl rfl ?_
  refine mV_aload_n (k := 0) (by decide +kernel) rfl ?_
  refine mV_bipush (n := 60) (v := nI 60) (by decide +kernel) (by decide) ?_
  have hs57 := h.1
  replace h := h.2
  refine mV_newax (at0 := .int) (t := 0) (len := 60) (n0 := (mg_n G + 56)) (mc := 1) (ms := 480) (by decide +kernel) rfl rfl (by decide) (mm_t1 111 (by decide +kernel)) (by decide) (by decide) (by decide) hs57 (fun _ => rfl) ?_
  refine mV_pff (r := some (mg_n G + 56)) (by decide +kernel) fk_13_188 rfl (fun _ _ h => by cases h; rfl) hx rfl rfl ?_
  refine mV_aload_n (k := 0) (by decide +kernel) rfl ?_
  refine mV_sipush (n := 480) (v := nI 480) (by decide +kernel) (by decide) ?_
  have hs58 := h.1
  replace h := h.2
  refine mV_newax (at0 := .int) (t := 0) (len := 480) (n0 := (mg_n G + 57)) (mc := 0) (ms := 0) (by decide +kernel) rfl rfl (by decide) (mm_t1 111 (by decide +kernel)) (by decide) (by decide) (by decide) hs58 (fun _ => rfl) ?_
  refine mV_pff (r := some (mg_n G + 57)) (by decide +kernel) fk_13_191 rfl (fun _ _ h => by cases h; rfl) hx rfl rfl ?_
  refine mV_aload_n (k := 0) (by decide +kernel) rfl ?_
  obtain ⟨t59, hrt59, hst59, h⟩ := h
  refine mV_gfr (r := some t59) (by decide +kernel) fk_13_100 hx hrt59 rfl ?_
  refine mV_iconst (n := 0) (v := nI 0) (by decide +kernel) (by decide) ?_
  refine mV_bipush (n := 100) (v := nI 100) (by decide +kernel) (by decide) ?_
  refine mV_ias (by decide +kernel) hst59 h.1 ?_
  replace h := h.2
  refine mV_aload_n (k := 0) (by decide +kernel) rfl ?_
  obtain ⟨t60, hrt60, hst60, h⟩ := h
  refine mV_gfr (r := some t60) (by decide +kernel) fk_13_34 hx hrt60 rfl ?_
  refine mV_iconst (n := 0) (v := nI 0) (by decide +kernel) (by decide) ?_
  refine mV_bipush (n := 114) (v := nI 114) (by decide +kernel) (by decide) ?_
  refine mV_bipush (n := 111) (v := nI 111) (by decide +kernel) (by decide) ?_
  refine mV_bipush (n := 119) (v := nI 119) (by decide +kernel) (by decide) ?_
  refine mV_iconst (n := 0) (v := nI 0) (by decide +kernel) (by decide) ?_
  refine mV_iconst (n := 0) (v := nI 0) (by decide +kernel) (by decide) ?_
  refine mV_iconst (n := 0) (v := nI 0) (by decide +kernel) (by decide) ?_
  refine mV_iconst (n := 0) (v := nI 0) (by decide +kernel) (by decide) ?_
  refine mV_cS (as := [.int (nI 114), .int (nI 111), .int (nI 119), .int (nI 0), .int (nI 0), .int (nI 0), .int (nI 0)]) (rest := [.int (nI 0), .ref t60]) (mc1 := 0) (ms1 := 0) (mc := 0) (ms := 0) (by decide +kernel) md_X13_word lk_13_194 rfl rfl (Nat.le_of_ble_eq_true rfl) (mC.mono (mm_contL (fun r61 G62 hK => ?_)) h)
  replace h := hK
  refine mV_las (by decide +kernel) hst60 h.1 ?_
  replace h := h.2
  refine mV_aload_n (k := 0) (by decide +kernel) rfl ?_
  obtain ⟨t63, hrt63, hst63, h⟩ := h
  refine mV_gfr (r := some t63) (by decide +kernel) fk_13_34 hx hrt63 rfl ?_
  refine mV_iconst (n := 1) (v := nI 1) (by decide +kernel) (by decide) ?_
  refine mV_bipush (n := 116) (v := nI 116) (by decide +kernel) (by decide) ?_
  refine mV_bipush (n := 114) (v := nI 114) (by decide +kernel) (by decide) ?_
  refine mV_bipush (n := 105) (v := nI 105) (by decide +kernel) (by decide) ?_
  refine mV_bipush (n := 97) (v := nI 97) (by decide +kernel) (by decide) ?_
  refine mV_bipush (n := 108) (v := nI 108) (by decide +kernel) (by decide) ?_
  refine mV_iconst (n := 0) (v := nI 0) (by decide +kernel) (by decide) ?_
  refine mV_iconst (n := 0) (v := nI 0) (by decide +kernel) (by decide) ?_
  refine mV_cS (as := [.int (nI 116), .int (nI 114), .int (nI 105), .int (nI 97), .int (nI 108), .int (nI 0), .int (nI 0)]) (rest := [.int (nI 1), .ref t63]) (mc1 := 0) (ms1 := 0) (mc := 0) (ms := 0) (by decide +kernel) md_X13_word lk_13_194 rfl rfl (Nat.le_of_ble_eq_true rfl) (mC.mono (mm_contL (fun r64 G65 hK => ?_)) h)
  replace h := hK
  refine mV_las (by decide +kernel) hst63 h.1 ?_
  replace h := h.2
  refine mV_aload_n (k := 0) (by decide +kernel) rfl ?_
  obtain ⟨t66, hrt66, hst66, h⟩ := h
  refine mV_gfr (r := some t66) (by decide +kernel) fk_13_34 hx hrt66 rfl ?_
  refine mV_iconst (n := 2) (v := nI 2) (by decide +kernel) (by decide) ?_
  refine mV_bipush (n := 103) (v := nI 103) (by decide +kernel) (by decide) ?_
  refine mV_bipush (n := 105) (v := nI 105) (by decide +kernel) (by decide) ?_
  refine mV_bipush (n := 118) (v := nI 118) (by decide +kernel) (by decide) ?_
  refine mV_bipush (n := 101) (v := nI 101) (by decide +kernel) (by decide) ?_
  refine mV_bipush (n := 115) (v := nI 115) (by decide +kernel) (by decide) ?_
  refine mV_iconst (n := 0) (v := nI 0) (by decide +kernel) (by decide) ?_
  refine mV_iconst (n := 0) (v := nI 0) (by decide +kernel) (by decide) ?_
  refine mV_cS (as := [.int (nI 103), .int (nI 105), .int (nI 118), .int (nI 101), .int (nI 115), .int (nI 0), .int (nI 0)]) (rest := [.int (nI 2), .ref t66]) (mc1 := 0) (ms1 := 0) (mc := 0) (ms := 0) (by decide +kernel) md_X13_word lk_13_194 rfl rfl (Nat.le_of_ble_eq_true rfl) (mC.mono (mm_contL (fun r67 G68 hK => ?_)) h)
  replace h := hK
  refine mV_las (by decide +kernel) hst66 h.1 ?_
  replace h := h.2
  refine mV_aload_n (k := 0) (by decide +kernel) rfl ?_
  obtain ⟨t69, hrt69, hst69, h⟩ := h
  refine mV_gfr (r := some t69) (by decide +kernel) fk_13_34 hx hrt69 rfl ?_
  refine mV_iconst (n := 3) (v := nI 3) (by decide +kernel) (by decide) ?_
  refine mV_bipush (n := 102) (v := nI 102) (by decide +kernel) (by decide) ?_
  refine mV_bipush (n := 117) (v := nI 117) (by decide +kernel) (by decide) ?_
  refine mV_bipush (n := 101) (v := nI 101) (by decide +kernel) (by decide) ?_
  refine mV_bipush (n := 108) (v := nI 108) (by decide +kernel) (by decide) ?_
  refine mV_iconst (n := 0) (v := nI 0) (by decide +kernel) (by decide) ?_
  refine mV_iconst (n := 0) (v := nI 0) (by decide +kernel) (by decide) ?_
  refine mV_iconst (n := 0) (v := nI 0) (by decide +kernel) (by decide) ?_
  refine mV_cS (as := [.int (nI 102), .int (nI 117), .int (nI 101), .int (nI 108), .int (nI 0), .int (nI 0), .int (nI 0)]) (rest := [.int (nI 3), .ref t69]) (mc1 := 0) (ms1 := 0) (mc := 0) (ms := 0) (by decide +kernel) md_X13_word lk_13_194 rfl rfl (Nat.le_of_ble_eq_true rfl) (mC.mono (mm_contL (fun r70 G71 hK => ?_)) h)
  replace h := hK
  refine mV_las (by decide +kernel) hst69 h.1 ?_
  replace h := h.2
  refine mV_aload_n (k := 0) (by decide +kernel) rfl ?_
  obtain ⟨t72, hrt72, hst72, h⟩ := h
  refine mV_gfr (r := some t72) (by decide +kernel) fk_13_34 hx hrt72 rfl ?_
  refine mV_iconst (n := 4) (v := nI 4) (by decide +kernel) (by decide) ?_
  refine mV_bipush (n := 115) (v := nI 115) (by decide +kernel) (by decide) ?_
  refine mV_bipush (n := 101) (v := nI 101) (by decide +kernel) (by decide) ?_
  refine mV_bipush (n := 116) (v := nI 116) (by decide +kernel) (by decide) ?_
  refine mV_iconst (n := 0) (v := nI 0) (by decide +kernel) (by decide) ?_
  refine mV_iconst (n := 0) (v := nI 0) (by decide +kernel) (by decide) ?_
  refine mV_iconst (n := 0) (v := nI 0) (by decide +kernel) (by decide) ?_
  refine mV_iconst (n := 0) (v := nI 0) (by decide +kernel) (by decide) ?_
  refine mV_cS (as := [.int (nI 115), .int (nI 101), .int (nI 116), .int (nI 0), .int (nI 0), .int (nI 0), .int (nI 0)]) (rest := [.int (nI 4), .ref t72]) (mc1 := 0) (ms1 := 0) (mc := 0) (ms := 0) (by decide +kernel) md_X13_word lk_13_194 rfl rfl (Nat.le_of_ble_eq_true rfl) (mC.mono (mm_contL (fun r73 G74 hK => ?_)) h)
  replace h := hK
  refine mV_las (by decide +kernel) hst72 h.1 ?_
  replace h := h.2
  refine mV_aload_n (k := 0) (by decide +kernel) rfl ?_
  obtain ⟨t75, hrt75, hst75, h⟩ := h
  refine mV_gfr (r := some t75) (by decide +kernel) fk_13_34 hx hrt75 rfl ?_
  refine mV_iconst (n := 5) (v := nI 5) (by decide +kernel) (by decide) ?_
  refine mV_bipush (n := 97) (v := nI 97) (by decide +kernel) (by decide) ?_
  refine mV_bipush (n := 100) (v := nI 100) (by decide +kernel) (by decide) ?_
  refine mV_bipush (n := 100) (v := nI 100) (by decide +kernel) (by decide) ?_
  refine mV_iconst (n := 0) (v := nI 0) (by decide +kernel) (by decide) ?_
  refine mV_iconst (n := 0) (v := nI 0) (by decide +kernel) (by decide) ?_
  refine mV_iconst (n := 0) (v := nI 0) (by decide +kernel) (by decide) ?_
  refine mV_iconst (n := 0) (v := nI 0) (by decide +kernel) (by decide) ?_
  refine mV_cS (as := [.int (nI 97), .int (nI 100), .int (nI 100), .int (nI 0), .int (nI 0), .int (nI 0), .int (nI 0)]) (rest := [.int (nI 5), .ref t75]) (mc1 := 0) (ms1 := 0) (mc := 0) (ms := 0) (by decide +kernel) md_X13_word lk_13_194 rfl rfl (Nat.le_of_ble_eq_true rfl) (mC.mono (mm_contL (fun r76 G77 hK => ?_)) h)
  replace h := hK
  refine mV_las (by decide +kernel) hst75 h.1 ?_
  replace h := h.2
  refine mV_aload_n (k := 0) (by decide +kernel) rfl ?_
  obtain ⟨t78, hrt78, hst78, h⟩ := h
  refine mV_gfr (r := some t78) (by decide +kernel) fk_13_34 hx hrt78 rfl ?_
  refine mV_bipush (n := 6) (v := nI 6) (by decide +kernel) (by decide) ?_
  refine mV_bipush (n := 115) (v := nI 115) (by decide +kernel) (by decide) ?_
  refine mV_bipush (n := 117) (v := nI 117) (by decide +kernel) (by decide) ?_
  refine mV_bipush (n := 98) (v := nI 98) (by decide +kernel) (by decide) ?_
  refine mV_iconst (n := 0) (v := nI 0) (by decide +kernel) (by decide) ?_
  refine mV_iconst (n := 0) (v := nI 0) (by decide +kernel) (by decide) ?_
  refine mV_iconst (n := 0) (v := nI 0) (by decide +kernel) (by decide) ?_
  refine mV_iconst (n := 0) (v := nI 0) (by decide +kernel) (by decide) ?_
  refine mV_cS (as := [.int (nI 115), .int (nI 117), .int (nI 98), .int (nI 0), .int (nI 0), .int (nI 0), .int (nI 0)]) (rest := [.int (nI 6), .ref t78]) (mc1 := 0) (ms1 := 0) (mc := 0) (ms := 0) (by decide +kernel) md_X13_word lk_13_194 rfl rfl (Nat.le_of_ble_eq_true rfl) (mC.mono (mm_contL (fun r79 G80 hK => ?_)) h)
  replace h := hK
  refine mV_las (by decide +kernel) hst78 h.1 ?_
  replace h := h.2
  refine mV_aload_n (k := 0) (by decide +kernel) rfl ?_
  obtain ⟨t81, hrt81, hst81, h⟩ := h
  refine mV_gfr (r := some t81) (by decide +kernel) fk_13_34 hx hrt81 rfl ?_
  refine mV_bipush (n := 7) (v := nI 7) (by decide +kernel) (by decide) ?_
  refine mV_bipush (n := 109) (v := nI 109) (by decide +kernel) (by decide) ?_
  refine mV_bipush (n := 117) (v := nI 117) (by decide +kernel) (by decide) ?_
  refine mV_bipush (n := 108) (v := nI 108) (by decide +kernel) (by decide) ?_
  refine mV_iconst (n := 0) (v := nI 0) (by decide +kernel) (by decide) ?_
  refine mV_iconst (n := 0) (v := nI 0) (by decide +kernel) (by decide) ?_
  refine mV_iconst (n := 0) (v := nI 0) (by decide +kernel) (by decide) ?_
  refine mV_iconst (n := 0) (v := nI 0) (by decide +kernel) (by decide) ?_
  refine mV_cS (as := [.int (nI 109), .int (nI 117), .int (nI 108), .int (nI 0), .int (nI 0), .int (nI 0), .int (nI 0)]) (rest := [.int (nI 7), .ref t81]) (mc1 := 0) (ms1 := 0) (mc := 0) (ms := 0) (by decide +kernel) md_X13_word lk_13_194 rfl rfl (Nat.le_of_ble_eq_true rfl) (mC.mono (mm_contL (fun r82 G83 hK => ?_)) h)
  replace h := hK
  refine mV_las (by decide +kernel) hst81 h.1 ?_
  replace h := h.2
  refine mV_aload_n (k := 0) (by decide +kernel) rfl ?_
  obtain ⟨t84, hrt84, hst84, h⟩ := h
  refine mV_gfr (r := some t84) (by decide +kernel) fk_13_34 hx hrt84 rfl ?_
  refine mV_bipush (n := 8) (v := nI 8) (by decide +kernel) (by decide) ?_
  refine mV_bipush (n := 100) (v := nI 100) (by decide +kernel) (by decide) ?_
  refine mV_bipush (n := 105) (v := nI 105) (by decide +kernel) (by decide) ?_
  refine mV_bipush (n := 118) (v := nI 118) (by decide +kernel) (by decide) ?_
  refine mV_iconst (n := 0) (v := nI 0) (by decide +kernel) (by decide) ?_
  refine mV_iconst (n := 0) (v := nI 0) (by decide +kernel) (by decide) ?_
  refine mV_iconst (n := 0) (v := nI 0) (by decide +kernel) (by decide) ?_
  refine mV_iconst (n := 0) (v := nI 0) (by decide +kernel) (by decide) ?_
  refine mV_cS (as := [.int (nI 100), .int (nI 105), .int (nI 118), .int (nI 0), .int (nI 0), .int (nI 0), .int (nI 0)]) (rest := [.int (nI 8), .ref t84]) (mc1 := 0) (ms1 := 0) (mc := 0) (ms := 0) (by decide +kernel) md_X13_word lk_13_194 rfl rfl (Nat.le_of_ble_eq_true rfl) (mC.mono (mm_contL (fun r85 G86 hK => ?_)) h)
  replace h := hK
  refine mV_las (by decide +kernel) hst84 h.1 ?_
  replace h := h.2
  refine mV_aload_n (k := 0) (by decide +kernel) rfl ?_
  obtain ⟨t87, hrt87, hst87, h⟩ := h
  refine mV_gfr (r := some t87) (by decide +kernel) fk_13_34 hx hrt87 rfl ?_
  refine mV_bipush (n := 9) (v := nI 9) (by decide +kernel) (by decide) ?_
  refine mV_bipush (n := 111) (v := nI 111) (by decide +kernel) (by decide) ?_
  refine mV_bipush (n := 117) (v := nI 117) (by decide +kernel) (by decide) ?_
  refine mV_bipush (n := 116) (v := nI 116) (by decide +kernel) (by decide) ?_
  refine mV_iconst (n := 0) (v := nI 0) (by decide +kernel) (by decide) ?_
  refine mV_iconst (n := 0) (v := nI 0) (by decide +kernel) (by decide) ?_
  refine mV_iconst (n := 0) (v := nI 0) (by decide +kernel) (by decide) ?_
  refine mV_iconst (n := 0) (v := nI 0) (by decide +kernel) (by decide) ?_
  refine mV_cS (as := [.int (nI 111), .int (nI 117), .int (nI 116), .int (nI 0), .int (nI 0), .int (nI 0), .int (nI 0)]) (rest := [.int (nI 9), .ref t87]) (mc1 := 0) (ms1 := 0) (mc := 0) (ms := 0) (by decide +kernel) md_X13_word lk_13_194 rfl rfl (Nat.le_of_ble_eq_true rfl) (mC.mono (mm_contL (fun r88 G89 hK => ?_)) h)
  replace h := hK
  refine mV_las (by decide +kernel) hst87 h.1 ?_
  replace h := h.2
  refine mV_aload_n (k := 0) (by decide +kernel) rfl ?_
  obtain ⟨t90, hrt90, hst90, h⟩ := h
  refine mV_gfr (r := some t90) (by decide +kernel) fk_13_34 hx hrt90 rfl ?_
  refine mV_bipush (n := 10) (v := nI 10) (by decide +kernel) (by decide) ?_
  refine mV_bipush (n := 103) (v := nI 103) (by decide +kernel) (by decide) ?_
  refine mV_bipush (n := 111) (v := nI 111) (by decide +kernel) (by decide) ?_
  refine mV_iconst (n := 0) (v := nI 0) (by decide +kernel) (by decide) ?_
  refine mV_iconst (n := 0) (v := nI 0) (by decide +kernel) (by decide) ?_
  refine mV_iconst (n := 0) (v := nI 0) (by decide +kernel) (by decide) ?_
  refine mV_iconst (n := 0) (v := nI 0) (by decide +kernel) (by decide) ?_
  refine mV_iconst (n := 0) (v := nI 0) (by decide +kernel) (by decide) ?_
  refine mV_cS (as := [.int (nI 103), .int (nI 111), .int (nI 0), .int (nI 0), .int (nI 0), .int (nI 0), .int (nI 0)]) (rest := [.int (nI 10), .ref t90]) (mc1 := 0) (ms1 := 0) (mc := 0) (ms := 0) (by decide +kernel) md_X13_word lk_13_194 rfl rfl (Nat.le_of_ble_eq_true rfl) (mC.mono (mm_contL (fun r91 G92 hK => ?_)) h)
  replace h := hK
  refine mV_las (by decide +kernel) hst90 h.1 ?_
  replace h := h.2
  refine mV_aload_n (k := 0) (by decide +kernel) rfl ?_
  obtain ⟨t93, hrt93, hst93, h⟩ := h
  refine mV_gfr (r := some t93) (by decide +kernel) fk_13_34 hx hrt93 rfl ?_
  refine mV_bipush (n := 11) (v := nI 11) (by decide +kernel) (by decide) ?_
  refine mV_bipush (n := 105) (v := nI 105) (by decide +kernel) (by decide) ?_
  refine mV_bipush (n := 102) (v := nI 102) (by decide +kernel) (by decide) ?_
  refine mV_iconst (n := 0) (v := nI 0) (by decide +kernel) (by decide) ?_
  refine mV_iconst (n := 0) (v := nI 0) (by decide +kernel) (by decide) ?_
  refine mV_iconst (n := 0) (v := nI 0) (by decide +kernel) (by decide) ?_
  refine mV_iconst (n := 0) (v := nI 0) (by decide +kernel) (by decide) ?_
  refine mV_iconst (n := 0) (v := nI 0) (by decide +kernel) (by decide) ?_
  refine mV_cS (as := [.int (nI 105), .int (nI 102), .int (nI 0), .int (nI 0), .int (nI 0), .int (nI 0), .int (nI 0)]) (rest := [.int (nI 11), .ref t93]) (mc1 := 0) (ms1 := 0) (mc := 0) (ms := 0) (by decide +kernel) md_X13_word lk_13_194 rfl rfl (Nat.le_of_ble_eq_true rfl) (mC.mono (mm_contL (fun r94 G95 hK => ?_)) h)
  replace h := hK
  refine mV_las (by decide +kernel) hst93 h.1 ?_
  replace h := h.2
  refine mV_aload_n (k := 0) (by decide +kernel) rfl ?_
  obtain ⟨t96, hrt96, hst96, h⟩ := h
  refine mV_gfr (r := some t96) (by decide +kernel) fk_13_34 hx hrt96 rfl ?_
  refine mV_bipush (n := 12) (v := nI 12) (by decide +kernel) (by decide) ?_
  refine mV_bipush (n := 99) (v := nI 99) (by decide +kernel) (by decide) ?_
  refine mV_bipush (n := 97) (v := nI 97) (by decide +kernel) (by decide) ?_
  refine mV_bipush (n := 108) (v := nI 108) (by decide +kernel) (by decide) ?_
  refine mV_bipush (n := 108) (v := nI 108) (by decide +kernel) (by decide) ?_
  refine mV_iconst (n := 0) (v := nI 0) (by decide +kernel) (by decide) ?_
  refine mV_iconst (n := 0) (v := nI 0) (by decide +kernel) (by decide) ?_
  refine mV_iconst (n := 0) (v := nI 0) (by decide +kernel) (by decide) ?_
  refine mV_cS (as := [.int (nI 99), .int (nI 97), .int (nI 108), .int (nI 108), .int (nI 0), .int (nI 0), .int (nI 0)]) (rest := [.int (nI 12), .ref t96]) (mc1 := 0) (ms1 := 0) (mc := 0) (ms := 0) (by decide +kernel) md_X13_word lk_13_194 rfl rfl (Nat.le_of_ble_eq_true rfl) (mC.mono (mm_contL (fun r97 G98 hK => ?_)) h)
  replace h := hK
  refine mV_las (by decide +kernel) hst96 h.1 ?_
  replace h := h.2
  refine mV_aload_n (k := 0) (by decide +kernel) rfl ?_
  obtain ⟨t99, hrt99, hst99, h⟩ := h
  refine mV_gfr (r := some t99) (by decide +kernel) fk_13_34 hx hrt99 rfl ?_
  refine mV_bipush (n := 13) (v := nI 13) (by decide +kernel) (by decide) ?_
  refine mV_bipush (n := 101) (v := nI 101) (by decide +kernel) (by decide) ?_
  refine mV_bipush (n := 110) (v := nI 110) (by decide +kernel) (by decide) ?_
  refine mV_bipush (n := 100) (v := nI 100) (by decide +kernel) (by decide) ?_
  refine mV_iconst (n := 0) (v := nI 0) (by decide +kernel) (by decide) ?_
  refine mV_iconst (n := 0) (v := nI 0) (by decide +kernel) (by decide) ?_
  refine mV_iconst (n := 0) (v := nI 0) (by decide +kernel) (by decide) ?_
  refine mV_iconst (n := 0) (v := nI 0) (by decide +kernel) (by decide) ?_
  refine mV_cS (as := [.int (nI 101), .int (nI 110), .int (nI 100), .int (nI 0), .int (nI 0), .int (nI 0), .int (nI 0)]) (rest := [.int (nI 13), .ref t99]) (mc1 := 0) (ms1 := 0) (mc := 0) (ms := 0) (by decide +kernel) md_X13_word lk_13_194 rfl rfl (Nat.le_of_ble_eq_true rfl) (mC.mono (mm_contL (fun r100 G101 hK => ?_)) h)
  replace h := hK
  refine mV_las (by decide +kernel) hst99 h.1 ?_
  replace h := h.2
  refine mV_aload_n (k := 0) (by decide +kernel) rfl ?_
  obtain ⟨t102, hrt102, hst102, h⟩ := h
  refine mV_gfr (r := some t102) (by decide +kernel) fk_13_34 hx hrt102 rfl ?_
  refine mV_bipush (n := 14) (v := nI 14) (by decide +kernel) (by decide) ?_
  refine mV_bipush (n := 115) (v := nI 115) (by decide +kernel) (by decide) ?_
  refine mV_bipush (n := 107) (v := nI 107) (by decide +kernel) (by decide) ?_
  refine mV_bipush (n := 105) (v := nI 105) (by decide +kernel) (by decide) ?_
  refine mV_bipush (n := 112) (v := nI 112) (by decide +kernel) (by decide) ?_
  refine mV_iconst (n := 0) (v := nI 0) (by decide +kernel) (by decide) ?_
  refine mV_iconst (n := 0) (v := nI 0) (by decide +kernel) (by decide) ?_
  refine mV_iconst (n := 0) (v := nI 0) (by decide +kernel) (by decide) ?_
  refine mV_cS (as := [.int (nI 115), .int (nI 107), .int (nI 105), .int (nI 112), .int (nI 0), .int (nI 0), .int (nI 0)]) (rest := [.int (nI 14), .ref t102]) (mc1 := 0) (ms1 := 0) (mc := 0) (ms := 0) (by decide +kernel) md_X13_word lk_13_194 rfl rfl (Nat.le_of_ble_eq_true rfl) (mC.mono (mm_contL (fun r103 G104 hK => ?_)) h)
  replace h := hK
  refine mV_las (by decide +kernel) hst102 h.1 ?_
  replace h := h.2
  refine mV_aload_n (k := 0) (by decide +kernel) rfl ?_
  obtain ⟨t105, hrt105, hst105, h⟩ := h
  refine mV_gfr (r := some t105) (by decide +kernel) fk_13_34 hx hrt105 rfl ?_
  refine mV_bipush (n := 15) (v := nI 15) (by decide +kernel) (by decide) ?_
  refine mV_bipush (n := 107) (v := nI 107) (by decide +kernel) (by decide) ?_
  refine mV_bipush (n := 97) (v := nI 97) (by decide +kernel) (by decide) ?_
  refine mV_iconst (n := 0) (v := nI 0) (by decide +kernel) (by decide) ?_
  refine mV_iconst (n := 0) (v := nI 0) (by decide +kernel) (by decide) ?_
  refine mV_iconst (n := 0) (v := nI 0) (by decide +kernel) (by decide) ?_
  refine mV_iconst (n := 0) (v := nI 0) (by decide +kernel) (by decide) ?_
  refine mV_iconst (n := 0) (v := nI 0) (by decide +kernel) (by decide) ?_
  refine mV_cS (as := [.int (nI 107), .int (nI 97), .int (nI 0), .int (nI 0), .int (nI 0), .int (nI 0), .int (nI 0)]) (rest := [.int (nI 15), .ref t105]) (mc1 := 0) (ms1 := 0) (mc := 0) (ms := 0) (by decide +kernel) md_X13_word lk_13_194 rfl rfl (Nat.le_of_ble_eq_true rfl) (mC.mono (mm_contL (fun r106 G107 hK => ?_)) h)
  replace h := hK
  refine mV_las (by decide +kernel) hst105 h.1 ?_
  replace h := h.2
  refine mV_aload_n (k := 0) (by decide +kernel) rfl ?_
  obtain ⟨t108, hrt108, hst108, h⟩ := h
  refine mV_gfr (r := some t108) (by decide +kernel) fk_13_34 hx hrt108 rfl ?_
  refine mV_bipush (n := 16) (v := nI 16) (by decide +kernel) (by decide) ?_
  refine mV_bipush (n := 107) (v := nI 107) (by decide +kernel) (by decide) ?_
  refine mV_bipush (n := 98) (v := nI 98) (by decide +kernel) (by decide) ?_
  refine mV_iconst (n := 0) (v := nI 0) (by decide +kernel) (by decide) ?_
  refine mV_iconst (n := 0) (v := nI 0) (by decide +kernel) (by decide) ?_
  refine mV_iconst (n := 0) (v := nI 0) (by decide +kernel) (by decide) ?_
  refine mV_iconst (n := 0) (v := nI 0) (by decide +kernel) (by decide) ?_
  refine mV_iconst (n := 0) (v := nI 0) (by decide +kernel) (by decide) ?_
  refine mV_cS (as := [.int (nI 107), .int (nI 98), .int (nI 0), .int (nI 0), .int (nI 0), .int (nI 0), .int (nI 0)]) (rest := [.int (nI 16), .ref t108]) (mc1 := 0) (ms1 := 0) (mc := 0) (ms := 0) (by decide +kernel) md_X13_word lk_13_194 rfl rfl (Nat.le_of_ble_eq_true rfl) (mC.mono (mm_contL (fun r109 G110 hK => ?_)) h)
  replace h := hK
  refine mV_las (by decide +kernel) hst108 h.1 ?_
  replace h := h.2
  refine mV_aload_n (k := 0) (by decide +kernel) rfl ?_
  obtain ⟨t111, hrt111, hst111, h⟩ := h
  refine mV_gfr (r := some t111) (by decide +kernel) fk_13_34 hx hrt111 rfl ?_
  refine mV_bipush (n := 17) (v := nI 17) (by decide +kernel) (by decide) ?_
  refine mV_bipush (n := 107) (v := nI 107) (by decide +kernel) (by decide) ?_
  refine mV_bipush (n := 99) (v := nI 99) (by decide +kernel) (by decide) ?_
  refine mV_iconst (n := 0) (v := nI 0) (by decide +kernel) (by decide) ?_
  refine mV_iconst (n := 0) (v := nI 0) (by decide +kernel) (by decide) ?_
  refine mV_iconst (n := 0) (v := nI 0) (by decide +kernel) (by decide) ?_
  refine mV_iconst (n := 0) (v := nI 0) (by decide +kernel) (by decide) ?_
  refine mV_iconst (n := 0) (v := nI 0) (by decide +kernel) (by decide) ?_
  refine mV_cS (as := [.int (nI 107), .int (nI 99), .int (nI 0), .int (nI 0), .int (nI 0), .int (nI 0), .int (nI 0)]) (rest := [.int (nI 17), .ref t111]) (mc1 := 0) (ms1 := 0) (mc := 0) (ms := 0) (by decide +kernel) md_X13_word lk_13_194 rfl rfl (Nat.le_of_ble_eq_true rfl) (mC.mono (mm_contL (fun r112 G113 hK => ?_)) h)
  replace h := hK
  refine mV_las (by decide +kernel) hst111 h.1 ?_
  replace h := h.2
  refine mV_aload_n (k := 0) (by decide +kernel) rfl ?_
  obtain ⟨t114, hrt114, hst114, h⟩ := h
  refine mV_gfr (r := some t114) (by decide +kernel) fk_13_34 hx hrt114 rfl ?_
  refine mV_bipush (n := 18) (v := nI 18) (by decide +kernel) (by decide) ?_
  refine mV_bipush (n := 107) (v := nI 107) (by decide +kernel) (by decide) ?_
  refine mV_bipush (n := 100) (v := nI 100) (by decide +kernel) (by decide) ?_
  refine mV_iconst (n := 0) (v := nI 0) (by decide +kernel) (by decide) ?_
  refine mV_iconst (n := 0) (v := nI 0) (by decide +kernel) (by decide) ?_
  refine mV_iconst (n := 0) (v := nI 0) (by decide +kernel) (by decide) ?_
  refine mV_iconst (n := 0) (v := nI 0) (by decide +kernel) (by decide) ?_
  refine mV_iconst (n := 0) (v := nI 0) (by decide +kernel) (by decide) ?_
  refine mV_cS (as := [.int (nI 107), .int (nI 100), .int (nI 0), .int (nI 0), .int (nI 0), .int (nI 0), .int (nI 0)]) (rest := [.int (nI 18), .ref t114]) (mc1 := 0) (ms1 := 0) (mc := 0) (ms := 0) (by decide +kernel) md_X13_word lk_13_194 rfl rfl (Nat.le_of_ble_eq_true rfl) (mC.mono (mm_contL (fun r115 G116 hK => ?_)) h)
  replace h := hK
  refine mV_las (by decide +kernel) hst114 h.1 ?_
  replace h := h.2
  refine mV_aload_n (k := 0) (by decide +kernel) rfl ?_
  obtain ⟨t117, hrt117, hst117, h⟩ := h
  refine mV_gfr (r := some t117) (by decide +kernel) fk_13_34 hx hrt117 rfl ?_
  refine mV_bipush (n := 19) (v := nI 19) (by decide +kernel) (by decide) ?_
  refine mV_bipush (n := 105) (v := nI 105) (by decide +kernel) (by decide) ?_
  refine mV_bipush (n := 110) (v := nI 110) (by decide +kernel) (by decide) ?_
  refine mV_iconst (n := 0) (v := nI 0) (by decide +kernel) (by decide) ?_
  refine mV_iconst (n := 0) (v := nI 0) (by decide +kernel) (by decide) ?_
  refine mV_iconst (n := 0) (v := nI 0) (by decide +kernel) (by decide) ?_
  refine mV_iconst (n := 0) (v := nI 0) (by decide +kernel) (by decide) ?_
  refine mV_iconst (n := 0) (v := nI 0) (by decide +kernel) (by decide) ?_
  refine mV_cS (as := [.int (nI 105), .int (nI 110), .int (nI 0), .int (nI 0), .int (nI 0), .int (nI 0), .int (nI 0)]) (rest := [.int (nI 19), .ref t117]) (mc1 := 0) (ms1 := 0) (mc := 0) (ms := 0) (by decide +kernel) md_X13_word lk_13_194 rfl rfl (Nat.le_of_ble_eq_true rfl) (mC.mono (mm_contL (fun r118 G119 hK => ?_)) h)
  replace h := hK
  refine mV_las (by decide +kernel) hst117 h.1 ?_
  replace h := h.2
  exact mV_vret (by decide +kernel) rfl h
