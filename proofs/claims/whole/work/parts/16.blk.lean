set_option maxRecDepth 100000 in
set_option maxHeartbeats 4000000 in
theorem e_X9_bestTrial {l : Launch} {κ : mm_K} {d : Nat} {G : mm_G} {K : Int32 → mm_G → Prop} (a1 : Int32) (a2 : Int32) (a3 : Int32) (h : mC l κ true (d + 4) 0 0 m_X9_narrow [.ref 175, .int a1, .int a2, .int a3] G (rI (fun r1 G2 => ((¬ r1 = 0 → mV l κ true (d + 5) 0 0 m_X9_bestTrial 24 [some (.ref 175), some (.int a1), some (.int a2), some (.int a3), some (.int (-2)), some (.int (nI 121)), some (.int (nI 0)), none] [] G2 (rI K)) ∧ (r1 = 0 → K (-2) G2))))) : mC l κ true (d + 5) 0 0 m_X9_bestTrial [.ref 175, .int a1, .int a2, .int a3] G (rI K) := by
  refine mC.of (by decide) (Nat.le_of_ble_eq_true rfl) [some (.ref 175), some (.int a1), some (.int a2), some (.int a3), none, none, none, none] rfl ?_
  refine mV_aload_n (k := 0) (by decide +kernel) rfl ?_
  refine mV_iload_n (k := 1) (by decide +kernel) rfl ?_
  refine mV_iload_n (k := 2) (by decide +kernel) rfl ?_
  refine mV_iload_n (k := 3) (by decide +kernel) rfl ?_
  refine mV_cV (as := [.int a1, .int a2, .int a3]) (rest := []) (mc1 := 0) (ms1 := 0) (mc := 0) (ms := 0) (by decide +kernel) md_X9_narrow lk_9_121 sh_175 rfl rfl rfl (Nat.le_of_ble_eq_true rfl) (mC.mono (mm_contI (fun r1 G2 hK => ?_)) h)
  replace h := hK
  refine mV_if_ne (off := 6) (tgt := 13) (by decide +kernel) (by decide) (fun hc => ?_) (fun hc => ?_)
  · replace h := h.1 hc
    refine mV_bipush (n := -2) (v := (-2)) (by decide +kernel) (by decide) ?_
    refine mV_istore (i := 4) (ls' := [some (.ref 175), some (.int a1), some (.int a2), some (.int a3), some (.int (-2)), none, none, none]) (by decide +kernel) (Nat.le_of_ble_eq_true rfl) rfl rfl ?_
    refine mV_bipush (n := 121) (v := nI 121) (by decide +kernel) (by decide) ?_
    refine mV_istore (i := 5) (ls' := [some (.ref 175), some (.int a1), some (.int a2), some (.int a3), some (.int (-2)), some (.int (nI 121)), none, none]) (by decide +kernel) (Nat.le_of_ble_eq_true rfl) rfl rfl ?_
    refine mV_iconst (n := 0) (v := nI 0) (by decide +kernel) (by decide) ?_
    refine mV_istore (i := 6) (ls' := [some (.ref 175), some (.int a1), some (.int a2), some (.int a3), some (.int (-2)), some (.int (nI 121)), some (.int (nI 0)), none]) (by decide +kernel) (Nat.le_of_ble_eq_true rfl) rfl rfl ?_
    exact h
  · replace h := h.2 hc
    refine mV_bipush (n := -2) (v := (-2)) (by decide +kernel) (by decide) ?_
    exact mV_iret (by decide +kernel) rfl h
set_option maxRecDepth 100000 in
set_option maxHeartbeats 4000000 in
theorem p_X9_bestTrial_24 {l : Launch} {κ : mm_K} {d : Nat} {G : mm_G} {K : Int32 → mm_G → Prop} (v1 : Int32) (v2 : Int32) (v3 : Int32) (v4 : Int32) (v5 : Int32) (v6 : Int32) (h : (((mg_i G 62 4) ≤ v6 → K v4 G) ∧ (¬ (mg_i G 62 4) ≤ v6 → mC l κ true (d + 4) 0 0 m_X9_group [.ref 175, .int v6] G (rV (fun G2 => mC l κ true (d + 4) 0 0 m_X9_greatestGroup [.ref 175, .int v6] G2 (rI (fun r3 G4 => ((v5 ≤ r3 → mV l κ true (d + 5) 0 0 m_X9_bestTrial 24 [some (.ref 175), some (.int v1), some (.int v2), some (.int v3), some (.int v4), some (.int v5), some (.int (v6 + (nI 1))), none] [] G4 (rI K)) ∧ (¬ v5 ≤ r3 → mV l κ true (d + 5) 0 0 m_X9_bestTrial 24 [some (.ref 175), some (.int v1), some (.int v2), some (.int v3), some (.int v6), some (.int r3), some (.int (v6 + (nI 1))), none] [] G4 (rI K)))))))))) : mV l κ true (d + 5) 0 0 m_X9_bestTrial 24 [some (.ref 175), some (.int v1), some (.int v2), some (.int v3), some (.int v4), some (.int v5), some (.int v6), none] [] G (rI K) := by
  refine mV_iload (i := 6) (by decide +kernel) rfl ?_
  refine mV_aload_n (k := 0) (by decide +kernel) rfl ?_
  refine mV_gfr (r := some 62) (by decide +kernel) fk_9_44 sh_175 (mm_rrs st_175_3) rfl ?_
  refine mV_gfix (x := mg_i G 62 4) (by decide +kernel) fk_9_125 sh_62 rfl ?_
  refine mV_icmp_ge (off := 38) (tgt := 71) (by decide +kernel) (by decide) (fun hc => ?_) (fun hc => ?_)
  · replace h := h.1 hc
    refine mV_iload (i := 4) (by decide +kernel) rfl ?_
    exact mV_iret (by decide +kernel) rfl h
  · replace h := h.2 hc
    refine mV_aload_n (k := 0) (by decide +kernel) rfl ?_
    refine mV_iload (i := 6) (by decide +kernel) rfl ?_
    refine mV_cV (as := [.int v6]) (rest := []) (mc1 := 0) (ms1 := 0) (mc := 0) (ms := 0) (by decide +kernel) md_X9_group lk_9_111 sh_175 rfl rfl rfl (Nat.le_of_ble_eq_true rfl) (mC.mono (mm_contV (fun G2 hK => ?_)) h)
    replace h := hK
    refine mV_aload_n (k := 0) (by decide +kernel) rfl ?_
    refine mV_iload (i := 6) (by decide +kernel) rfl ?_
    refine mV_cV (as := [.int v6]) (rest := []) (mc1 := 0) (ms1 := 0) (mc := 0) (ms := 0) (by decide +kernel) md_X9_greatestGroup lk_9_128 sh_175 rfl rfl rfl (Nat.le_of_ble_eq_true rfl) (mC.mono (mm_contI (fun r3 G4 hK => ?_)) h)
    replace h := hK
    refine mV_istore (i := 7) (ls' := [some (.ref 175), some (.int v1), some (.int v2), some (.int v3), some (.int v4), some (.int v5), some (.int v6), some (.int r3)]) (by decide +kernel) (Nat.le_of_ble_eq_true rfl) rfl rfl ?_
    refine mV_iload (i := 7) (by decide +kernel) rfl ?_
    refine mV_iload (i := 5) (by decide +kernel) rfl ?_
    refine mV_icmp_ge (off := 11) (tgt := 65) (by decide +kernel) (by decide) (fun hc => ?_) (fun hc => ?_)
    · replace h := h.1 hc
      refine mV_iincc (i := 6) (n := 1) (c := nI 1) (ls' := [some (.ref 175), some (.int v1), some (.int v2), some (.int v3), some (.int v4), some (.int v5), some (.int (v6 + (nI 1))), some (.int r3)]) (by decide +kernel) (by decide) rfl (Nat.le_of_ble_eq_true rfl) rfl rfl ?_
      refine mV_goto (off := -44) (tgt := 24) (by decide +kernel) (by decide) ?_
      refine mV_fg [7] (ls' := [some (.ref 175), some (.int v1), some (.int v2), some (.int v3), some (.int v4), some (.int v5), some (.int (v6 + (nI 1))), none]) rfl ?_
      exact h
    · replace h := h.2 hc
      refine mV_iload (i := 7) (by decide +kernel) rfl ?_
      refine mV_istore (i := 5) (ls' := [some (.ref 175), some (.int v1), some (.int v2), some (.int v3), some (.int v4), some (.int r3), some (.int v6), some (.int r3)]) (by decide +kernel) (Nat.le_of_ble_eq_true rfl) rfl rfl ?_
      refine mV_iload (i := 6) (by decide +kernel) rfl ?_
      refine mV_istore (i := 4) (ls' := [some (.ref 175), some (.int v1), some (.int v2), some (.int v3), some (.int v6), some (.int r3), some (.int v6), some (.int r3)]) (by decide +kernel) (Nat.le_of_ble_eq_true rfl) rfl rfl ?_
      refine mV_iincc (i := 6) (n := 1) (c := nI 1) (ls' := [some (.ref 175), some (.int v1), some (.int v2), some (.int v3), some (.int v6), some (.int r3), some (.int (v6 + (nI 1))), some (.int r3)]) (by decide +kernel) (by decide) rfl (Nat.le_of_ble_eq_true rfl) rfl rfl ?_
      refine mV_goto (off := -44) (tgt := 24) (by decide +kernel) (by decide) ?_
      refine mV_fg [7] (ls' := [some (.ref 175), some (.int v1), some (.int v2), some (.int v3), some (.int v6), some (.int r3), some (.int (v6 + (nI 1))), none]) rfl ?_
      exact h
set_option maxRecDepth 100000 in
set_option maxHeartbeats 4000000 in
theorem e_X9_greatestGroup {l : Launch} {κ : mm_K} {d : Nat} {G : mm_G} {K : Int32 → mm_G → Prop} (a1 : Int32) (h : mV l κ true (d + 1) 0 0 m_X9_greatestGroup 2 [some (.ref 175), some (.int a1), some (.int (nI 0)), none, none] [] G (rI K)) : mC l κ true (d + 1) 0 0 m_X9_greatestGroup [.ref 175, .int a1] G (rI K) := by
  refine mC.of (by decide) (Nat.le_of_ble_eq_true rfl) [some (.ref 175), some (.int a1), none, none, none] rfl ?_
  refine mV_iconst (n := 0) (v := nI 0) (by decide +kernel) (by decide) ?_
  refine mV_istore_n (k := 2) (ls' := [some (.ref 175), some (.int a1), some (.int (nI 0)), none, none]) (by decide +kernel) (Nat.le_of_ble_eq_true rfl) rfl rfl ?_
  exact h
set_option maxRecDepth 100000 in
set_option maxHeartbeats 4000000 in
theorem p_X9_greatestGroup_2 {l : Launch} {κ : mm_K} {d : Nat} {G : mm_G} {K : Int32 → mm_G → Prop} (v1 : Int32) (v2 : Int32) (h : (((mg_i G 175 10) ≤ v2 → mV l κ true (d + 1) 0 0 m_X9_greatestGroup 27 [some (.ref 175), some (.int v1), some (.int (nI 0)), some (.int (nI 0)), none] [] G (rI K)) ∧ (¬ (mg_i G 175 10) ≤ v2 → vp_in v2 120 ∧ mV l κ true (d + 1) 0 0 m_X9_greatestGroup 2 [some (.ref 175), some (.int v1), some (.int (v2 + (nI 1))), none, none] [] (ms_i G 181 v2.toNatClampNeg (nI 0)) (rI K)))) : mV l κ true (d + 1) 0 0 m_X9_greatestGroup 2 [some (.ref 175), some (.int v1), some (.int v2), none, none] [] G (rI K) := by
  refine mV_iload_n (k := 2) (by decide +kernel) rfl ?_
  refine mV_aload_n (k := 0) (by decide +kernel) rfl ?_
  refine mV_gfix (x := mg_i G 175 10) (by decide +kernel) fk_9_66 sh_175 rfl ?_
  refine mV_icmp_ge (off := 16) (tgt := 23) (by decide +kernel) (by decide) (fun hc => ?_) (fun hc => ?_)
  · replace h := h.1 hc
    refine mV_iconst (n := 0) (v := nI 0) (by decide +kernel) (by decide) ?_
    refine mV_istore_n (k := 2) (ls' := [some (.ref 175), some (.int v1), some (.int (nI 0)), none, none]) (by decide +kernel) (Nat.le_of_ble_eq_true rfl) rfl rfl ?_
    refine mV_iconst (n := 0) (v := nI 0) (by decide +kernel) (by decide) ?_
    refine mV_istore_n (k := 3) (ls' := [some (.ref 175), some (.int v1), some (.int (nI 0)), some (.int (nI 0)), none]) (by decide +kernel) (Nat.le_of_ble_eq_true rfl) rfl rfl ?_
    exact h
  · replace h := h.2 hc
    refine mV_aload_n (k := 0) (by decide +kernel) rfl ?_
    refine mV_gfr (r := some 181) (by decide +kernel) fk_9_28 sh_175 (mm_rrs st_175_8) rfl ?_
    refine mV_iload_n (k := 2) (by decide +kernel) rfl ?_
    refine mV_iconst (n := 0) (v := nI 0) (by decide +kernel) (by decide) ?_
    refine mV_ias (by decide +kernel) sh_181 h.1 ?_
    replace h := h.2
    refine mV_iincc (i := 2) (n := 1) (c := nI 1) (ls' := [some (.ref 175), some (.int v1), some (.int (v2 + (nI 1))), none, none]) (by decide +kernel) (by decide) rfl (Nat.le_of_ble_eq_true rfl) rfl rfl ?_
    refine mV_goto (off := -18) (tgt := 2) (by decide +kernel) (by decide) ?_
    exact h
set_option maxRecDepth 100000 in
set_option maxHeartbeats 4000000 in
theorem p_X9_greatestGroup_27 {l : Launch} {κ : mm_K} {d : Nat} {G : mm_G} {K : Int32 → mm_G → Prop} (v1 : Int32) (v2 : Int32) (v3 : Int32) (h : (((mg_i G 175 11) ≤ v3 → K v2 G) ∧ (¬ (mg_i G 175 11) ≤ v3 → vp_in v3 120 ∧ vp_in (((mg_i G 177 v3.toNatClampNeg) * (nI 8)) + v1) 960 ∧ vp_in (mg_i G 178 ((((mg_i G 177 v3.toNatClampNeg) * (nI 8)) + v1).toNatClampNeg)) 120 ∧ vp_in (mg_i G 178 ((((mg_i G 177 v3.toNatClampNeg) * (nI 8)) + v1).toNatClampNeg)) 120 ∧ vp_in (mg_i G 178 ((((mg_i G 177 v3.toNatClampNeg) * (nI 8)) + v1).toNatClampNeg)) 120 ∧ mV l κ true (d + 1) 0 0 m_X9_greatestGroup 27 [some (.ref 175), some (.int v1), some (.int (if v2 < (mg_i (ms_i G 181 ((mg_i G 178 ((((mg_i G 177 v3.toNatClampNeg) * (nI 8)) + v1).toNatClampNeg)).toNatClampNeg) ((mg_i G 181 ((mg_i G 178 ((((mg_i G 177 v3.toNatClampNeg) * (nI 8)) + v1).toNatClampNeg)).toNatClampNeg)) + (nI 1))) 181 ((mg_i G 178 ((((mg_i G 177 v3.toNatClampNeg) * (nI 8)) + v1).toNatClampNeg)).toNatClampNeg)) then (mg_i (ms_i G 181 ((mg_i G 178 ((((mg_i G 177 v3.toNatClampNeg) * (nI 8)) + v1).toNatClampNeg)).toNatClampNeg) ((mg_i G 181 ((mg_i G 178 ((((mg_i G 177 v3.toNatClampNeg) * (nI 8)) + v1).toNatClampNeg)).toNatClampNeg)) + (nI 1))) 181 ((mg_i G 178 ((((mg_i G 177 v3.toNatClampNeg) * (nI 8)) + v1).toNatClampNeg)).toNatClampNeg)) else v2)), some (.int (v3 + (nI 1))), none] [] (ms_i G 181 ((mg_i G 178 ((((mg_i G 177 v3.toNatClampNeg) * (nI 8)) + v1).toNatClampNeg)).toNatClampNeg) ((mg_i G 181 ((mg_i G 178 ((((mg_i G 177 v3.toNatClampNeg) * (nI 8)) + v1).toNatClampNeg)).toNatClampNeg)) + (nI 1))) (rI K)))) : mV l κ true (d + 1) 0 0 m_X9_greatestGroup 27 [some (.ref 175), some (.int v1), some (.int v2), some (.int v3), none] [] G (rI K) := by
  refine mV_iload_n (k := 3) (by decide +kernel) rfl ?_
  refine mV_aload_n (k := 0) (by decide +kernel) rfl ?_
  refine mV_gfix (x := mg_i G 175 11) (by decide +kernel) fk_9_105 sh_175 rfl ?_
  refine mV_icmp_ge (off := 50) (tgt := 82) (by decide +kernel) (by decide) (fun hc => ?_) (fun hc => ?_)
  · replace h := h.1 hc
    refine mV_iload_n (k := 2) (by decide +kernel) rfl ?_
    exact mV_iret (by decide +kernel) rfl h
  · replace h := h.2 hc
    refine mV_aload_n (k := 0) (by decide +kernel) rfl ?_
    refine mV_gfr (r := some 178) (by decide +kernel) fk_9_18 sh_175 (mm_rrs st_175_5) rfl ?_
    refine mV_aload_n (k := 0) (by decide +kernel) rfl ?_
    refine mV_gfr (r := some 177) (by decide +kernel) fk_9_15 sh_175 (mm_rrs st_175_1) rfl ?_
    refine mV_iload_n (k := 3) (by decide +kernel) rfl ?_
    refine mV_ialx (x := mg_i G 177 v3.toNatClampNeg) (by decide +kernel) sh_177 h.1 rfl ?_
    replace h := h.2
    refine mV_bipush (n := 8) (v := nI 8) (by decide +kernel) (by decide) ?_
    refine mV_imul (by decide +kernel) ?_
    refine mV_iload_n (k := 1) (by decide +kernel) rfl ?_
    refine mV_iadd (by decide +kernel) ?_
    refine mV_ialx (x := mg_i G 178 ((((mg_i G 177 v3.toNatClampNeg) * (nI 8)) + v1).toNatClampNeg)) (by decide +kernel) sh_178 h.1 rfl ?_
    replace h := h.2
    refine mV_istore (i := 4) (ls' := [some (.ref 175), some (.int v1), some (.int v2), some (.int v3), some (.int (mg_i G 178 ((((mg_i G 177 v3.toNatClampNeg) * (nI 8)) + v1).toNatClampNeg)))]) (by decide +kernel) (Nat.le_of_ble_eq_true rfl) rfl rfl ?_
    refine mV_aload_n (k := 0) (by decide +kernel) rfl ?_
    refine mV_gfr (r := some 181) (by decide +kernel) fk_9_28 sh_175 (mm_rrs st_175_8) rfl ?_
    refine mV_iload (i := 4) (by decide +kernel) rfl ?_
    refine mV_dup2 (by decide +kernel) rfl rfl ?_
    refine mV_ialx (x := mg_i G 181 ((mg_i G 178 ((((mg_i G 177 v3.toNatClampNeg) * (nI 8)) + v1).toNatClampNeg)).toNatClampNeg)) (by decide +kernel) sh_181 h.1 rfl ?_
    replace h := h.2
    refine mV_iconst (n := 1) (v := nI 1) (by decide +kernel) (by decide) ?_
    refine mV_iadd (by decide +kernel) ?_
    refine mV_ias (by decide +kernel) sh_181 h.1 ?_
    replace h := h.2
    refine mV_iload_n (k := 2) (by decide +kernel) rfl ?_
    refine mV_aload_n (k := 0) (by decide +kernel) rfl ?_
    refine mV_gfr (r := some 181) (by decide +kernel) fk_9_28 sh_175 (mm_rrs st_175_8) rfl ?_
    refine mV_iload (i := 4) (by decide +kernel) rfl ?_
    refine mV_ialx (x := mg_i (ms_i G 181 ((mg_i G 178 ((((mg_i G 177 v3.toNatClampNeg) * (nI 8)) + v1).toNatClampNeg)).toNatClampNeg) ((mg_i G 181 ((mg_i G 178 ((((mg_i G 177 v3.toNatClampNeg) * (nI 8)) + v1).toNatClampNeg)).toNatClampNeg)) + (nI 1))) 181 ((mg_i G 178 ((((mg_i G 177 v3.toNatClampNeg) * (nI 8)) + v1).toNatClampNeg)).toNatClampNeg)) (by decide +kernel) sh_181 h.1 rfl ?_
    replace h := h.2
    refine mV_max (by decide +kernel) lk_9_131 (Nat.le_of_ble_eq_true rfl) ?_
    refine mV_istore_n (k := 2) (ls' := [some (.ref 175), some (.int v1), some (.int (if v2 < (mg_i (ms_i G 181 ((mg_i G 178 ((((mg_i G 177 v3.toNatClampNeg) * (nI 8)) + v1).toNatClampNeg)).toNatClampNeg) ((mg_i G 181 ((mg_i G 178 ((((mg_i G 177 v3.toNatClampNeg) * (nI 8)) + v1).toNatClampNeg)).toNatClampNeg)) + (nI 1))) 181 ((mg_i G 178 ((((mg_i G 177 v3.toNatClampNeg) * (nI 8)) + v1).toNatClampNeg)).toNatClampNeg)) then (mg_i (ms_i G 181 ((mg_i G 178 ((((mg_i G 177 v3.toNatClampNeg) * (nI 8)) + v1).toNatClampNeg)).toNatClampNeg) ((mg_i G 181 ((mg_i G 178 ((((mg_i G 177 v3.toNatClampNeg) * (nI 8)) + v1).toNatClampNeg)).toNatClampNeg)) + (nI 1))) 181 ((mg_i G 178 ((((mg_i G 177 v3.toNatClampNeg) * (nI 8)) + v1).toNatClampNeg)).toNatClampNeg)) else v2)), some (.int v3), some (.int (mg_i G 178 ((((mg_i G 177 v3.toNatClampNeg) * (nI 8)) + v1).toNatClampNeg)))]) (by decide +kernel) (Nat.le_of_ble_eq_true rfl) rfl rfl ?_
    refine mV_iincc (i := 3) (n := 1) (c := nI 1) (ls' := [some (.ref 175), some (.int v1), some (.int (if v2 < (mg_i (ms_i G 181 ((mg_i G 178 ((((mg_i G 177 v3.toNatClampNeg) * (nI 8)) + v1).toNatClampNeg)).toNatClampNeg) ((mg_i G 181 ((mg_i G 178 ((((mg_i G 177 v3.toNatClampNeg) * (nI 8)) + v1).toNatClampNeg)).toNatClampNeg)) + (nI 1))) 181 ((mg_i G 178 ((((mg_i G 177 v3.toNatClampNeg) * (nI 8)) + v1).toNatClampNeg)).toNatClampNeg)) then (mg_i (ms_i G 181 ((mg_i G 178 ((((mg_i G 177 v3.toNatClampNeg) * (nI 8)) + v1).toNatClampNeg)).toNatClampNeg) ((mg_i G 181 ((mg_i G 178 ((((mg_i G 177 v3.toNatClampNeg) * (nI 8)) + v1).toNatClampNeg)).toNatClampNeg)) + (nI 1))) 181 ((mg_i G 178 ((((mg_i G 177 v3.toNatClampNeg) * (nI 8)) + v1).toNatClampNeg)).toNatClampNeg)) else v2)), some (.int (v3 + (nI 1))), some (.int (mg_i G 178 ((((mg_i G 177 v3.toNatClampNeg) * (nI 8)) + v1).toNatClampNeg)))]) (by decide +kernel) (by decide) rfl (Nat.le_of_ble_eq_true rfl) rfl rfl ?_
    refine mV_goto (off := -52) (tgt := 27) (by decide +kernel) (by decide) ?_
    refine mV_fg [4] (ls' := [some (.ref 175), some (.int v1), some (.int (if v2 < (mg_i (ms_i G 181 ((mg_i G 178 ((((mg_i G 177 v3.toNatClampNeg) * (nI 8)) + v1).toNatClampNeg)).toNatClampNeg) ((mg_i G 181 ((mg_i G 178 ((((mg_i G 177 v3.toNatClampNeg) * (nI 8)) + v1).toNatClampNeg)).toNatClampNeg)) + (nI 1))) 181 ((mg_i G 178 ((((mg_i G 177 v3.toNatClampNeg) * (nI 8)) + v1).toNatClampNeg)).toNatClampNeg)) then (mg_i (ms_i G 181 ((mg_i G 178 ((((mg_i G 177 v3.toNatClampNeg) * (nI 8)) + v1).toNatClampNeg)).toNatClampNeg) ((mg_i G 181 ((mg_i G 178 ((((mg_i G 177 v3.toNatClampNeg) * (nI 8)) + v1).toNatClampNeg)).toNatClampNeg)) + (nI 1))) 181 ((mg_i G 178 ((((mg_i G 177 v3.toNatClampNeg) * (nI 8)) + v1).toNatClampNeg)).toNatClampNeg)) else v2)), some (.int (v3 + (nI 1))), none]) rfl ?_
    exact h
set_option maxRecDepth 100000 in
set_option maxHeartbeats 4000000 in
theorem e_X9_fewestTrials {l : Launch} {κ : mm_K} {d : Nat} {G : mm_G} {K : Int32 → mm_G → Prop} (a1 : Int32) (a2 : Int32) (a3 : Int32) (h : mC l κ true (d + 4) 0 0 m_X9_narrow [.ref 175, .int a1, .int a2, .int a3] G (rI (fun r1 G2 => mV l κ true (d + 5) 0 0 m_X9_fewestTrials 11 [some (.ref 175), some (.int a1), some (.int a2), some (.int a3), some (.int (nI 0)), none] [] G2 (rI K)))) : mC l κ true (d + 5) 0 0 m_X9_fewestTrials [.ref 175, .int a1, .int a2, .int a3] G (rI K) := by
  refine mC.of (by decide) (Nat.le_of_ble_eq_true rfl) [some (.ref 175), some (.int a1), some (.int a2), some (.int a3), none, none] rfl ?_
  refine mV_aload_n (k := 0) (by decide +kernel) rfl ?_
  refine mV_iload_n (k := 1) (by decide +kernel) rfl ?_
  refine mV_iload_n (k := 2) (by decide +kernel) rfl ?_
  refine mV_iload_n (k := 3) (by decide +kernel) rfl ?_
  refine mV_cV (as := [.int a1, .int a2, .int a3]) (rest := []) (mc1 := 0) (ms1 := 0) (mc := 0) (ms := 0) (by decide +kernel) md_X9_narrow lk_9_121 sh_175 rfl rfl rfl (Nat.le_of_ble_eq_true rfl) (mC.mono (mm_contI (fun r1 G2 hK => ?_)) h)
  replace h := hK
  refine mV_pop (by decide +kernel) rfl ?_
  refine mV_iconst (n := 0) (v := nI 0) (by decide +kernel) (by decide) ?_
  refine mV_istore (i := 4) (ls' := [some (.ref 175), some (.int a1), some (.int a2), some (.int a3), some (.int (nI 0)), none]) (by decide +kernel) (Nat.le_of_ble_eq_true rfl) rfl rfl ?_
  exact h
set_option maxRecDepth 100000 in
set_option maxHeartbeats 4000000 in
theorem p_X9_fewestTrials_11 {l : Launch} {κ : mm_K} {d : Nat} {G : mm_G} {K : Int32 → mm_G → Prop} (v1 : Int32) (v2 : Int32) (v3 : Int32) (v4 : Int32) (h : (((mg_i G 62 4) ≤ v4 → mC l κ true (d + 4) 0 0 m_X9_gatherUnlike [.ref 175] G (rI (fun r1 G2 => mV l κ true (d + 5) 0 0 m_X9_fewestTrials 44 [some (.ref 175), some (.int v1), some (.int v2), some (.int v3), some (.int r1), some (.int (nI 0))] [] G2 (rI K)))) ∧ (¬ (mg_i G 62 4) ≤ v4 → mC l κ true (d + 4) 0 0 m_X9_group [.ref 175, .int v4] G (rV (fun G4 => mV l κ true (d + 5) 0 0 m_X9_fewestTrials 11 [some (.ref 175), some (.int v1), some (.int v2), some (.int v3), some (.int (v4 + (nI 1))), none] [] G4 (rI K)))))) : mV l κ true (d + 5) 0 0 m_X9_fewestTrials 11 [some (.ref 175), some (.int v1), some (.int v2), some (.int v3), some (.int v4), none] [] G (rI K) := by
  refine mV_iload (i := 4) (by decide +kernel) rfl ?_
  refine mV_aload_n (k := 0) (by decide +kernel) rfl ?_
  refine mV_gfr (r := some 62) (by decide +kernel) fk_9_44 sh_175 (mm_rrs st_175_3) rfl ?_
  refine mV_gfix (x := mg_i G 62 4) (by decide +kernel) fk_9_125 sh_62 rfl ?_
  refine mV_icmp_ge (off := 15) (tgt := 35) (by decide +kernel) (by decide) (fun hc => ?_) (fun hc => ?_)
  · replace h := h.1 hc
    refine mV_aload_n (k := 0) (by decide +kernel) rfl ?_
    refine mV_cV (as := []) (rest := []) (mc1 := 0) (ms1 := 0) (mc := 0) (ms := 0) (by decide +kernel) md_X9_gatherUnlike lk_9_136 sh_175 rfl rfl rfl (Nat.le_of_ble_eq_true rfl) (mC.mono (mm_contI (fun r1 G2 hK => ?_)) h)
    replace h := hK
    refine mV_istore (i := 4) (ls' := [some (.ref 175), some (.int v1), some (.int v2), some (.int v3), some (.int r1), none]) (by decide +kernel) (Nat.le_of_ble_eq_true rfl) rfl rfl ?_
    refine mV_iconst (n := 0) (v := nI 0) (by decide +kernel) (by decide) ?_
    refine mV_istore (i := 5) (ls' := [some (.ref 175), some (.int v1), some (.int v2), some (.int v3), some (.int r1), some (.int (nI 0))]) (by decide +kernel) (Nat.le_of_ble_eq_true rfl) rfl rfl ?_
    exact h
  · replace h := h.2 hc
    refine mV_aload_n (k := 0) (by decide +kernel) rfl ?_
    refine mV_iload (i := 4) (by decide +kernel) rfl ?_
    refine mV_cV (as := [.int v4]) (rest := []) (mc1 := 0) (ms1 := 0) (mc := 0) (ms := 0) (by decide +kernel) md_X9_group lk_9_111 sh_175 rfl rfl rfl (Nat.le_of_ble_eq_true rfl) (mC.mono (mm_contV (fun G4 hK => ?_)) h)
    replace h := hK
    refine mV_iincc (i := 4) (n := 1) (c := nI 1) (ls' := [some (.ref 175), some (.int v1), some (.int v2), some (.int v3), some (.int (v4 + (nI 1))), none]) (by decide +kernel) (by decide) rfl (Nat.le_of_ble_eq_true rfl) rfl rfl ?_
    refine mV_goto (off := -21) (tgt := 11) (by decide +kernel) (by decide) ?_
    exact h
set_option maxRecDepth 100000 in
set_option maxHeartbeats 4000000 in
theorem p_X9_fewestTrials_44 {l : Launch} {κ : mm_K} {d : Nat} {G : mm_G} {K : Int32 → mm_G → Prop} (v1 : Int32) (v2 : Int32) (v3 : Int32) (v4 : Int32) (v5 : Int32) (h : (((nI 4) < v5 → K (-2) G) ∧ (¬ (nI 4) < v5 → mC l κ true (d + 4) 0 0 m_X9_settles [.ref 175, .int (nI 0), .int v4, .int v5] G (rI (fun r1 G2 => ((r1 = 0 → mV l κ true (d + 5) 0 0 m_X9_fewestTrials 44 [some (.ref 175), some (.int v1), some (.int v2), some (.int v3), some (.int v4), some (.int (v5 + (nI 1)))] [] G2 (rI K)) ∧ (¬ r1 = 0 → K v5 G2))))))) : mV l κ true (d + 5) 0 0 m_X9_fewestTrials 44 [some (.ref 175), some (.int v1), some (.int v2), some (.int v3), some (.int v4), some (.int v5)] [] G (rI K) := by
  refine mV_iload (i := 5) (by decide +kernel) rfl ?_
  refine mV_iconst (n := 4) (v := nI 4) (by decide +kernel) (by decide) ?_
  refine mV_icmp_gt (off := 24) (tgt := 71) (by decide +kernel) (by decide) (fun hc => ?_) (fun hc => ?_)
  · replace h := h.1 hc
    refine mV_bipush (n := -2) (v := (-2)) (by decide +kernel) (by decide) ?_
    exact mV_iret (by decide +kernel) rfl h
  · replace h := h.2 hc
    refine mV_aload_n (k := 0) (by decide +kernel) rfl ?_
    refine mV_iconst (n := 0) (v := nI 0) (by decide +kernel) (by decide) ?_
    refine mV_iload (i := 4) (by decide +kernel) rfl ?_
    refine mV_iload (i := 5) (by decide +kernel) rfl ?_
    refine mV_cV (as := [.int (nI 0), .int v4, .int v5]) (rest := []) (mc1 := 0) (ms1 := 0) (mc := 0) (ms := 0) (by decide +kernel) md_X9_settles lk_9_140 sh_175 rfl rfl rfl (Nat.le_of_ble_eq_true rfl) (mC.mono (mm_contI (fun r1 G2 hK => ?_)) h)
    replace h := hK
    refine mV_if_eq (off := 6) (tgt := 65) (by decide +kernel) (by decide) (fun hc => ?_) (fun hc => ?_)
    · replace h := h.1 hc
      refine mV_iincc (i := 5) (n := 1) (c := nI 1) (ls' := [some (.ref 175), some (.int v1), some (.int v2), some (.int v3), some (.int v4), some (.int (v5 + (nI 1)))]) (by decide +kernel) (by decide) rfl (Nat.le_of_ble_eq_true rfl) rfl rfl ?_
      refine mV_goto (off := -24) (tgt := 44) (by decide +kernel) (by decide) ?_
      exact h
    · replace h := h.2 hc
      refine mV_iload (i := 5) (by decide +kernel) rfl ?_
      exact mV_iret (by decide +kernel) rfl h
set_option maxRecDepth 100000 in
set_option maxHeartbeats 4000000 in
theorem e_X9_gatherUnlike {l : Launch} {κ : mm_K} {d : Nat} {G : mm_G} {K : Int32 → mm_G → Prop}  (h : mV l κ true (d + 1) 0 0 m_X9_gatherUnlike 4 [some (.ref 175), some (.int (nI 0)), some (.int (nI 0)), none, none] [] G (rI K)) : mC l κ true (d + 1) 0 0 m_X9_gatherUnlike [.ref 175] G (rI K) := by
  refine mC.of (by decide) (Nat.le_of_ble_eq_true rfl) [some (.ref 175), none, none, none, none] rfl ?_
  refine mV_iconst (n := 0) (v := nI 0) (by decide +kernel) (by decide) ?_
  refine mV_istore_n (k := 1) (ls' := [some (.ref 175), some (.int (nI 0)), none, none, none]) (by decide +kernel) (Nat.le_of_ble_eq_true rfl) rfl rfl ?_
  refine mV_iconst (n := 0) (v := nI 0) (by decide +kernel) (by decide) ?_
  refine mV_istore_n (k := 2) (ls' := [some (.ref 175), some (.int (nI 0)), some (.int (nI 0)), none, none]) (by decide +kernel) (Nat.le_of_ble_eq_true rfl) rfl rfl ?_
  exact h
set_option maxRecDepth 100000 in
set_option maxHeartbeats 4000000 in
theorem p_X9_gatherUnlike_4 {l : Launch} {κ : mm_K} {d : Nat} {G : mm_G} {K : Int32 → mm_G → Prop} (v1 : Int32) (v2 : Int32) (h : (((mg_i G 175 11) ≤ v2 → K v1 G) ∧ (¬ (mg_i G 175 11) ≤ v2 → mV l κ true (d + 1) 0 0 m_X9_gatherUnlike 17 [some (.ref 175), some (.int v1), some (.int v2), some (.int (nI 1)), some (.int (nI 0))] [] G (rI K)))) : mV l κ true (d + 1) 0 0 m_X9_gatherUnlike 4 [some (.ref 175), some (.int v1), some (.int v2), none, none] [] G (rI K) := by
  refine mV_iload_n (k := 2) (by decide +kernel) rfl ?_
  refine mV_aload_n (k := 0) (by decide +kernel) rfl ?_
  refine mV_gfix (x := mg_i G 175 11) (by decide +kernel) fk_9_105 sh_175 rfl ?_
  refine mV_icmp_ge (off := 71) (tgt := 80) (by decide +kernel) (by decide) (fun hc => ?_) (fun hc => ?_)
  · replace h := h.1 hc
    refine mV_iload_n (k := 1) (by decide +kernel) rfl ?_
    exact mV_iret (by decide +kernel) rfl h
  · replace h := h.2 hc
    refine mV_iconst (n := 1) (v := nI 1) (by decide +kernel) (by decide) ?_
    refine mV_istore_n (k := 3) (ls' := [some (.ref 175), some (.int v1), some (.int v2), some (.int (nI 1)), none]) (by decide +kernel) (Nat.le_of_ble_eq_true rfl) rfl rfl ?_
    refine mV_iconst (n := 0) (v := nI 0) (by decide +kernel) (by decide) ?_
    refine mV_istore (i := 4) (ls' := [some (.ref 175), some (.int v1), some (.int v2), some (.int (nI 1)), some (.int (nI 0))]) (by decide +kernel) (Nat.le_of_ble_eq_true rfl) rfl rfl ?_
    exact h
set_option maxRecDepth 100000 in
set_option maxHeartbeats 4000000 in
theorem p_X9_gatherUnlike_17 {l : Launch} {κ : mm_K} {d : Nat} {G : mm_G} {K : Int32 → mm_G → Prop} (v1 : Int32) (v2 : Int32) (v3 : Int32) (v4 : Int32) (h : ((v1 ≤ v4 → ((v3 = 0 → mV l κ true (d + 1) 0 0 m_X9_gatherUnlike 4 [some (.ref 175), some (.int v1), some (.int (v2 + (nI 1))), none, none] [] G (rI K)) ∧ (¬ v3 = 0 → vp_in (nI 0) 5 ∧ vp_in v2 120 ∧ vp_in v1 120 ∧ mV l κ true (d + 1) 0 0 m_X9_gatherUnlike 4 [some (.ref 175), some (.int (v1 + (nI 1))), some (.int (v2 + (nI 1))), none, none] [] (ms_i G (183 + (nI 0).toNatClampNeg) v1.toNatClampNeg (mg_i G 177 v2.toNatClampNeg)) (rI K)))) ∧ (¬ v1 ≤ v4 → ((v3 = 0 → ((v3 = 0 → mV l κ true (d + 1) 0 0 m_X9_gatherUnlike 4 [some (.ref 175), some (.int v1), some (.int (v2 + (nI 1))), none, none] [] G (rI K)) ∧ (¬ v3 = 0 → vp_in (nI 0) 5 ∧ vp_in v2 120 ∧ vp_in v1 120 ∧ mV l κ true (d + 1) 0 0 m_X9_gatherUnlike 4 [some (.ref 175), some (.int (v1 + (nI 1))), some (.int (v2 + (nI 1))), none, none] [] (ms_i G (183 + (nI 0).toNatClampNeg) v1.toNatClampNeg (mg_i G 177 v2.toNatClampNeg)) (rI K)))) ∧ (¬ v3 = 0 → vp_in (nI 0) 5 ∧ vp_in v4 120 ∧ vp_in v2 120 ∧ mC l κ true d 0 0 m_X9_areToldApart [.ref 175, .int (mg_i G (183 + (nI 0).toNatClampNeg) v4.toNatClampNeg), .int (mg_i G 177 v2.toNatClampNeg)] G (rI (fun r4 G5 => mV l κ true (d + 1) 0 0 m_X9_gatherUnlike 17 [some (.ref 175), some (.int v1), some (.int v2), some (.int r4), some (.int (v4 + (nI 1)))] [] G5 (rI K)))))))) : mV l κ true (d + 1) 0 0 m_X9_gatherUnlike 17 [some (.ref 175), some (.int v1), some (.int v2), some (.int v3), some (.int v4)] [] G (rI K) := by
  refine mV_iload (i := 4) (by decide +kernel) rfl ?_
  refine mV_iload_n (k := 1) (by decide +kernel) rfl ?_
  refine mV_icmp_ge (off := 33) (tgt := 53) (by decide +kernel) (by decide) (fun hc => ?_) (fun hc => ?_)
  · replace h := h.1 hc
    refine mV_iload_n (k := 3) (by decide +kernel) rfl ?_
    refine mV_if_eq (off := 20) (tgt := 74) (by decide +kernel) (by decide) (fun hc => ?_) (fun hc => ?_)
    · replace h := h.1 hc
      refine mV_iincc (i := 2) (n := 1) (c := nI 1) (ls' := [some (.ref 175), some (.int v1), some (.int (v2 + (nI 1))), some (.int v3), some (.int v4)]) (by decide +kernel) (by decide) rfl (Nat.le_of_ble_eq_true rfl) rfl rfl ?_
      refine mV_goto (off := -73) (tgt := 4) (by decide +kernel) (by decide) ?_
      refine mV_fg [3, 4] (ls' := [some (.ref 175), some (.int v1), some (.int (v2 + (nI 1))), none, none]) rfl ?_
      exact h
    · replace h := h.2 hc
      refine mV_aload_n (k := 0) (by decide +kernel) rfl ?_
      refine mV_gfr (r := some 182) (by decide +kernel) fk_9_33 sh_175 (mm_rrs st_175_9) rfl ?_
      refine mV_iconst (n := 0) (v := nI 0) (by decide +kernel) (by decide) ?_
      have hj1 := h.1
      replace h := h.2
      refine mV_aal (t := 8) (r := some (183 + (nI 0).toNatClampNeg)) (by decide +kernel) sh_182 (by decide) hj1 (mm_rrs (mm_mem5 _ (mm_ixlt hj1)).2) rfl ?_
      refine mV_iload_n (k := 1) (by decide +kernel) rfl ?_
      refine mV_aload_n (k := 0) (by decide +kernel) rfl ?_
      refine mV_gfr (r := some 177) (by decide +kernel) fk_9_15 sh_175 (mm_rrs st_175_1) rfl ?_
      refine mV_iload_n (k := 2) (by decide +kernel) rfl ?_
      refine mV_ialx (x := mg_i G 177 v2.toNatClampNeg) (by decide +kernel) sh_177 h.1 rfl ?_
      replace h := h.2
      refine mV_ias (by decide +kernel) (mm_mem5 _ (mm_ixlt hj1)).1 h.1 ?_
      replace h := h.2
      refine mV_iincc (i := 1) (n := 1) (c := nI 1) (ls' := [some (.ref 175), some (.int (v1 + (nI 1))), some (.int v2), some (.int v3), some (.int v4)]) (by decide +kernel) (by decide) rfl (Nat.le_of_ble_eq_true rfl) rfl rfl ?_
      refine mV_iincc (i := 2) (n := 1) (c := nI 1) (ls' := [some (.ref 175), some (.int (v1 + (nI 1))), some (.int (v2 + (nI 1))), some (.int v3), some (.int v4)]) (by decide +kernel) (by decide) rfl (Nat.le_of_ble_eq_true rfl) rfl rfl ?_
      refine mV_goto (off := -73) (tgt := 4) (by decide +kernel) (by decide) ?_
      refine mV_fg [3, 4] (ls' := [some (.ref 175), some (.int (v1 + (nI 1))), some (.int (v2 + (nI 1))), none, none]) rfl ?_
      exact h
  · replace h := h.2 hc
    refine mV_iload_n (k := 3) (by decide +kernel) rfl ?_
    refine mV_if_eq (off := 29) (tgt := 53) (by decide +kernel) (by decide) (fun hc => ?_) (fun hc => ?_)
    · replace h := h.1 hc
      refine mV_iload_n (k := 3) (by decide +kernel) rfl ?_
      refine mV_if_eq (off := 20) (tgt := 74) (by decide +kernel) (by decide) (fun hc => ?_) (fun hc => ?_)
      · replace h := h.1 hc
        refine mV_iincc (i := 2) (n := 1) (c := nI 1) (ls' := [some (.ref 175), some (.int v1), some (.int (v2 + (nI 1))), some (.int v3), some (.int v4)]) (by decide +kernel) (by decide) rfl (Nat.le_of_ble_eq_true rfl) rfl rfl ?_
        refine mV_goto (off := -73) (tgt := 4) (by decide +kernel) (by decide) ?_
        refine mV_fg [3, 4] (ls' := [some (.ref 175), some (.int v1), some (.int (v2 + (nI 1))), none, none]) rfl ?_
        exact h
      · replace h := h.2 hc
        refine mV_aload_n (k := 0) (by decide +kernel) rfl ?_
        refine mV_gfr (r := some 182) (by decide +kernel) fk_9_33 sh_175 (mm_rrs st_175_9) rfl ?_
        refine mV_iconst (n := 0) (v := nI 0) (by decide +kernel) (by decide) ?_
        have hj2 := h.1
        replace h := h.2
        refine mV_aal (t := 8) (r := some (183 + (nI 0).toNatClampNeg)) (by decide +kernel) sh_182 (by decide) hj2 (mm_rrs (mm_mem5 _ (mm_ixlt hj2)).2) rfl ?_
        refine mV_iload_n (k := 1) (by decide +kernel) rfl ?_
        refine mV_aload_n (k := 0) (by decide +kernel) rfl ?_
        refine mV_gfr (r := some 177) (by decide +kernel) fk_9_15 sh_175 (mm_rrs st_175_1) rfl ?_
        refine mV_iload_n (k := 2) (by decide +kernel) rfl ?_
        refine mV_ialx (x := mg_i G 177 v2.toNatClampNeg) (by decide +kernel) sh_177 h.1 rfl ?_
        replace h := h.2
        refine mV_ias (by decide +kernel) (mm_mem5 _ (mm_ixlt hj2)).1 h.1 ?_
        replace h := h.2
        refine mV_iincc (i := 1) (n := 1) (c := nI 1) (ls' := [some (.ref 175), some (.int (v1 + (nI 1))), some (.int v2), some (.int v3), some (.int v4)]) (by decide +kernel) (by decide) rfl (Nat.le_of_ble_eq_true rfl) rfl rfl ?_
        refine mV_iincc (i := 2) (n := 1) (c := nI 1) (ls' := [some (.ref 175), some (.int (v1 + (nI 1))), some (.int (v2 + (nI 1))), some (.int v3), some (.int v4)]) (by decide +kernel) (by decide) rfl (Nat.le_of_ble_eq_true rfl) rfl rfl ?_
        refine mV_goto (off := -73) (tgt := 4) (by decide +kernel) (by decide) ?_
        refine mV_fg [3, 4] (ls' := [some (.ref 175), some (.int (v1 + (nI 1))), some (.int (v2 + (nI 1))), none, none]) rfl ?_
        exact h
    · replace h := h.2 hc
      refine mV_aload_n (k := 0) (by decide +kernel) rfl ?_
      refine mV_aload_n (k := 0) (by decide +kernel) rfl ?_
      refine mV_gfr (r := some 182) (by decide +kernel) fk_9_33 sh_175 (mm_rrs st_175_9) rfl ?_
      refine mV_iconst (n := 0) (v := nI 0) (by decide +kernel) (by decide) ?_
      have hj3 := h.1
      replace h := h.2
      refine mV_aal (t := 8) (r := some (183 + (nI 0).toNatClampNeg)) (by decide +kernel) sh_182 (by decide) hj3 (mm_rrs (mm_mem5 _ (mm_ixlt hj3)).2) rfl ?_
      refine mV_iload (i := 4) (by decide +kernel) rfl ?_
      refine mV_ialx (x := mg_i G (183 + (nI 0).toNatClampNeg) v4.toNatClampNeg) (by decide +kernel) (mm_mem5 _ (mm_ixlt hj3)).1 h.1 rfl ?_
      replace h := h.2
      refine mV_aload_n (k := 0) (by decide +kernel) rfl ?_
      refine mV_gfr (r := some 177) (by decide +kernel) fk_9_15 sh_175 (mm_rrs st_175_1) rfl ?_
      refine mV_iload_n (k := 2) (by decide +kernel) rfl ?_
      refine mV_ialx (x := mg_i G 177 v2.toNatClampNeg) (by decide +kernel) sh_177 h.1 rfl ?_
      replace h := h.2
      refine mV_cV (as := [.int (mg_i G (183 + (nI 0).toNatClampNeg) v4.toNatClampNeg), .int (mg_i G 177 v2.toNatClampNeg)]) (rest := []) (mc1 := 0) (ms1 := 0) (mc := 0) (ms := 0) (by decide +kernel) md_X9_areToldApart lk_9_144 sh_175 rfl rfl rfl (Nat.le_of_ble_eq_true rfl) (mC.mono (mm_contI (fun r4 G5 hK => ?_)) h)
      replace h := hK
      refine mV_istore_n (k := 3) (ls' := [some (.ref 175), some (.int v1), some (.int v2), some (.int r4), some (.int v4)]) (by decide +kernel) (Nat.le_of_ble_eq_true rfl) rfl rfl ?_
      refine mV_iincc (i := 4) (n := 1) (c := nI 1) (ls' := [some (.ref 175), some (.int v1), some (.int v2), some (.int r4), some (.int (v4 + (nI 1)))]) (by decide +kernel) (by decide) rfl (Nat.le_of_ble_eq_true rfl) rfl rfl ?_
      refine mV_goto (off := -33) (tgt := 17) (by decide +kernel) (by decide) ?_
      exact h
set_option maxRecDepth 100000 in
set_option maxHeartbeats 4000000 in
theorem e_X9_areToldApart {l : Launch} {κ : mm_K} {d : Nat} {G : mm_G} {K : Int32 → mm_G → Prop} (a1 : Int32) (a2 : Int32) (h : mV l κ true d 0 0 m_X9_areToldApart 2 [some (.ref 175), some (.int a1), some (.int a2), some (.int (nI 0))] [] G (rI K)) : mC l κ true d 0 0 m_X9_areToldApart [.ref 175, .int a1, .int a2] G (rI K) := by
  refine mC.of (by decide) (Nat.le_of_ble_eq_true rfl) [some (.ref 175), some (.int a1), some (.int a2), none] rfl ?_
  refine mV_iconst (n := 0) (v := nI 0) (by decide +kernel) (by decide) ?_
  refine mV_istore_n (k := 3) (ls' := [some (.ref 175), some (.int a1), some (.int a2), some (.int (nI 0))]) (by decide +kernel) (Nat.le_of_ble_eq_true rfl) rfl rfl ?_
  exact h
set_option maxRecDepth 100000 in
set_option maxHeartbeats 4000000 in
theorem p_X9_areToldApart_2 {l : Launch} {κ : mm_K} {d : Nat} {G : mm_G} {K : Int32 → mm_G → Prop} (v1 : Int32) (v2 : Int32) (v3 : Int32) (h : (((mg_i G 62 4) ≤ v3 → K (nI 0) G) ∧ (¬ (mg_i G 62 4) ≤ v3 → vp_in ((v1 * (nI 8)) + v3) 960 ∧ vp_in ((v2 * (nI 8)) + v3) 960 ∧ (((mg_i G 178 (((v1 * (nI 8)) + v3).toNatClampNeg)) = (mg_i G 178 (((v2 * (nI 8)) + v3).toNatClampNeg)) → mV l κ true d 0 0 m_X9_areToldApart 2 [some (.ref 175), some (.int v1), some (.int v2), some (.int (v3 + (nI 1)))] [] G (rI K)) ∧ (¬ (mg_i G 178 (((v1 * (nI 8)) + v3).toNatClampNeg)) = (mg_i G 178 (((v2 * (nI 8)) + v3).toNatClampNeg)) → K (nI 1) G))))) : mV l κ true d 0 0 m_X9_areToldApart 2 [some (.ref 175), some (.int v1), some (.int v2), some (.int v3)] [] G (rI K) := by
  refine mV_iload_n (k := 3) (by decide +kernel) rfl ?_
  refine mV_aload_n (k := 0) (by decide +kernel) rfl ?_
  refine mV_gfr (r := some 62) (by decide +kernel) fk_9_44 sh_175 (mm_rrs st_175_3) rfl ?_
  refine mV_gfix (x := mg_i G 62 4) (by decide +kernel) fk_9_125 sh_62 rfl ?_
  refine mV_icmp_ge (off := 36) (tgt := 46) (by decide +kernel) (by decide) (fun hc => ?_) (fun hc => ?_)
  · replace h := h.1 hc
    refine mV_iconst (n := 0) (v := nI 0) (by decide +kernel) (by decide) ?_
    exact mV_zret (by decide +kernel) rfl (by decide) h
  · replace h := h.2 hc
    refine mV_aload_n (k := 0) (by decide +kernel) rfl ?_
    refine mV_gfr (r := some 178) (by decide +kernel) fk_9_18 sh_175 (mm_rrs st_175_5) rfl ?_
    refine mV_iload_n (k := 1) (by decide +kernel) rfl ?_
    refine mV_bipush (n := 8) (v := nI 8) (by decide +kernel) (by decide) ?_
    refine mV_imul (by decide +kernel) ?_
    refine mV_iload_n (k := 3) (by decide +kernel) rfl ?_
    refine mV_iadd (by decide +kernel) ?_
    refine mV_ialx (x := mg_i G 178 (((v1 * (nI 8)) + v3).toNatClampNeg)) (by decide +kernel) sh_178 h.1 rfl ?_
    replace h := h.2
    refine mV_aload_n (k := 0) (by decide +kernel) rfl ?_
    refine mV_gfr (r := some 178) (by decide +kernel) fk_9_18 sh_175 (mm_rrs st_175_5) rfl ?_
    refine mV_iload_n (k := 2) (by decide +kernel) rfl ?_
    refine mV_bipush (n := 8) (v := nI 8) (by decide +kernel) (by decide) ?_
    refine mV_imul (by decide +kernel) ?_
    refine mV_iload_n (k := 3) (by decide +kernel) rfl ?_
    refine mV_iadd (by decide +kernel) ?_
    refine mV_ialx (x := mg_i G 178 (((v2 * (nI 8)) + v3).toNatClampNeg)) (by decide +kernel) sh_178 h.1 rfl ?_
    replace h := h.2
    refine mV_icmp_eq (off := 5) (tgt := 40) (by decide +kernel) (by decide) (fun hc => ?_) (fun hc => ?_)
    · replace h := h.1 hc
      refine mV_iincc (i := 3) (n := 1) (c := nI 1) (ls' := [some (.ref 175), some (.int v1), some (.int v2), some (.int (v3 + (nI 1)))]) (by decide +kernel) (by decide) rfl (Nat.le_of_ble_eq_true rfl) rfl rfl ?_
      refine mV_goto (off := -41) (tgt := 2) (by decide +kernel) (by decide) ?_
      exact h
    · replace h := h.2 hc
      refine mV_iconst (n := 1) (v := nI 1) (by decide +kernel) (by decide) ?_
      exact mV_zret (by decide +kernel) rfl (by decide) h
set_option maxRecDepth 100000 in
set_option maxHeartbeats 4000000 in
theorem e_X9_settles {l : Launch} {κ : mm_K} {d : Nat} {G : mm_G} {K : Int32 → mm_G → Prop} (a1 : Int32) (a2 : Int32) (a3 : Int32) (h : (((nI 1) < a2 → ((a3 ≤ 0 → K (nI 0) G) ∧ (¬ a3 ≤ 0 → ((a1 < (nI 4) → mV l κ true (d + 2) 0 0 m_X9_settles 21 [some (.ref 175), some (.int a1), some (.int a2), some (.int a3), some (.int (nI 0))] [] G (rI K)) ∧ (¬ a1 < (nI 4) → K (nI 0) G))))) ∧ (¬ (nI 1) < a2 → K (nI 1) G))) : mC l κ true (d + 2) 0 0 m_X9_settles [.ref 175, .int a1, .int a2, .int a3] G (rI K) := by
  refine mC.of (by decide) (Nat.le_of_ble_eq_true rfl) [some (.ref 175), some (.int a1), some (.int a2), some (.int a3), none] rfl ?_
  refine mV_iload_n (k := 2) (by decide +kernel) rfl ?_
  refine mV_iconst (n := 1) (v := nI 1) (by decide +kernel) (by decide) ?_
  refine mV_icmp_gt (off := 5) (tgt := 7) (by decide +kernel) (by decide) (fun hc => ?_) (fun hc => ?_)
  · replace h := h.1 hc
    refine mV_iload_n (k := 3) (by decide +kernel) rfl ?_
    refine mV_if_le (off := 8) (tgt := 16) (by decide +kernel) (by decide) (fun hc => ?_) (fun hc => ?_)
    · replace h := h.1 hc
      refine mV_iconst (n := 0) (v := nI 0) (by decide +kernel) (by decide) ?_
      exact mV_zret (by decide +kernel) rfl (by decide) h
    · replace h := h.2 hc
      refine mV_iload_n (k := 1) (by decide +kernel) rfl ?_
      refine mV_iconst (n := 4) (v := nI 4) (by decide +kernel) (by decide) ?_
      refine mV_icmp_lt (off := 5) (tgt := 18) (by decide +kernel) (by decide) (fun hc => ?_) (fun hc => ?_)
      · replace h := h.1 hc
        refine mV_iconst (n := 0) (v := nI 0) (by decide +kernel) (by decide) ?_
        refine mV_istore (i := 4) (ls' := [some (.ref 175), some (.int a1), some (.int a2), some (.int a3), some (.int (nI 0))]) (by decide +kernel) (Nat.le_of_ble_eq_true rfl) rfl rfl ?_
        exact h
      · replace h := h.2 hc
        refine mV_iconst (n := 0) (v := nI 0) (by decide +kernel) (by decide) ?_
        exact mV_zret (by decide +kernel) rfl (by decide) h
  · replace h := h.2 hc
    refine mV_iconst (n := 1) (v := nI 1) (by decide +kernel) (by decide) ?_
    exact mV_zret (by decide +kernel) rfl (by decide) h
set_option maxRecDepth 100000 in
set_option maxHeartbeats 4000000 in
theorem p_X9_settles_21 {l : Launch} {κ : mm_K} {d : Nat} {G : mm_G} {K : Int32 → mm_G → Prop} (v1 : Int32) (v2 : Int32) (v3 : Int32) (v4 : Int32) (h : (((mg_i G 62 4) ≤ v4 → K (nI 0) G) ∧ (¬ (mg_i G 62 4) ≤ v4 → mC l κ true (d + 1) 0 0 m_X9_settlesBy [.ref 175, .int v4, .int v1, .int v2, .int v3] G (rI (fun r1 G2 => ((r1 = 0 → mV l κ true (d + 2) 0 0 m_X9_settles 21 [some (.ref 175), some (.int v1), some (.int v2), some (.int v3), some (.int (v4 + (nI 1)))] [] G2 (rI K)) ∧ (¬ r1 = 0 → K (nI 1) G2))))))) : mV l κ true (d + 2) 0 0 m_X9_settles 21 [some (.ref 175), some (.int v1), some (.int v2), some (.int v3), some (.int v4)] [] G (rI K) := by
  refine mV_iload (i := 4) (by decide +kernel) rfl ?_
  refine mV_aload_n (k := 0) (by decide +kernel) rfl ?_
  refine mV_gfr (r := some 62) (by decide +kernel) fk_9_44 sh_175 (mm_rrs st_175_3) rfl ?_
  refine mV_gfix (x := mg_i G 62 4) (by decide +kernel) fk_9_125 sh_62 rfl ?_
  refine mV_icmp_ge (off := 23) (tgt := 53) (by decide +kernel) (by decide) (fun hc => ?_) (fun hc => ?_)
  · replace h := h.1 hc
    refine mV_iconst (n := 0) (v := nI 0) (by decide +kernel) (by decide) ?_
    exact mV_zret (by decide +kernel) rfl (by decide) h
  · replace h := h.2 hc
    refine mV_aload_n (k := 0) (by decide +kernel) rfl ?_
    refine mV_iload (i := 4) (by decide +kernel) rfl ?_
    refine mV_iload_n (k := 1) (by decide +kernel) rfl ?_
    refine mV_iload_n (k := 2) (by decide +kernel) rfl ?_
    refine mV_iload_n (k := 3) (by decide +kernel) rfl ?_
    refine mV_cV (as := [.int v4, .int v1, .int v2, .int v3]) (rest := []) (mc1 := 0) (ms1 := 0) (mc := 0) (ms := 0) (by decide +kernel) md_X9_settlesBy lk_9_148 sh_175 rfl rfl rfl (Nat.le_of_ble_eq_true rfl) (mC.mono (mm_contI (fun r1 G2 hK => ?_)) h)
    replace h := hK
    refine mV_if_eq (off := 5) (tgt := 47) (by decide +kernel) (by decide) (fun hc => ?_) (fun hc => ?_)
    · replace h := h.1 hc
      refine mV_iincc (i := 4) (n := 1) (c := nI 1) (ls' := [some (.ref 175), some (.int v1), some (.int v2), some (.int v3), some (.int (v4 + (nI 1)))]) (by decide +kernel) (by decide) rfl (Nat.le_of_ble_eq_true rfl) rfl rfl ?_
      refine mV_goto (off := -29) (tgt := 21) (by decide +kernel) (by decide) ?_
      exact h
    · replace h := h.2 hc
      refine mV_iconst (n := 1) (v := nI 1) (by decide +kernel) (by decide) ?_
      exact mV_zret (by decide +kernel) rfl (by decide) h
set_option maxRecDepth 100000 in
set_option maxHeartbeats 4000000 in
theorem e_X9_settlesBy {l : Launch} {κ : mm_K} {d : Nat} {G : mm_G} {K : Int32 → mm_G → Prop} (a1 : Int32) (a2 : Int32) (a3 : Int32) (a4 : Int32) (h : mV l κ true (d + 1) 0 0 m_X9_settlesBy 3 [some (.ref 175), some (.int a1), some (.int a2), some (.int a3), some (.int a4), some (.int (nI 0)), none, none] [] G (rI K)) : mC l κ true (d + 1) 0 0 m_X9_settlesBy [.ref 175, .int a1, .int a2, .int a3, .int a4] G (rI K) := by
  refine mC.of (by decide) (Nat.le_of_ble_eq_true rfl) [some (.ref 175), some (.int a1), some (.int a2), some (.int a3), some (.int a4), none, none, none] rfl ?_
  refine mV_iconst (n := 0) (v := nI 0) (by decide +kernel) (by decide) ?_
  refine mV_istore (i := 5) (ls' := [some (.ref 175), some (.int a1), some (.int a2), some (.int a3), some (.int a4), some (.int (nI 0)), none, none]) (by decide +kernel) (Nat.le_of_ble_eq_true rfl) rfl rfl ?_
  exact h
set_option maxRecDepth 100000 in
set_option maxHeartbeats 4000000 in
theorem p_X9_settlesBy_3 {l : Launch} {κ : mm_K} {d : Nat} {G : mm_G} {K : Int32 → mm_G → Prop} (v1 : Int32) (v2 : Int32) (v3 : Int32) (v4 : Int32) (v5 : Int32) (h : ((v3 ≤ v5 → K (nI 1) G) ∧ (¬ v3 ≤ v5 → vp_in v2 5 ∧ vp_in v5 120 ∧ vp_in (((mg_i G (183 + v2.toNatClampNeg) v5.toNatClampNeg) * (nI 8)) + v1) 960 ∧ mC l κ true d 0 0 m_X9_isFirstOfGroup [.ref 175, .int v1, .int v2, .int v5] G (rI (fun r2 G3 => ((r2 = 0 → mV l κ true (d + 1) 0 0 m_X9_settlesBy 3 [some (.ref 175), some (.int v1), some (.int v2), some (.int v3), some (.int v4), some (.int (v5 + (nI 1))), none, none] [] G3 (rI K)) ∧ (¬ r2 = 0 → mC l κ true d 0 0 m_X9_split [.ref 175, .int v1, .int v2, .int v3, .int (mg_i G 178 ((((mg_i G (183 + v2.toNatClampNeg) v5.toNatClampNeg) * (nI 8)) + v1).toNatClampNeg))] G3 (rI (fun r4 G5 => ((r4 = v3 → K (nI 0) G5) ∧ (¬ r4 = v3 → mC l κ true d 0 0 m_X9_settles [.ref 175, .int (v2 + (nI 1)), .int r4, .int (v4 - (nI 1))] G5 (rI (fun r6 G7 => ((¬ r6 = 0 → mV l κ true (d + 1) 0 0 m_X9_settlesBy 3 [some (.ref 175), some (.int v1), some (.int v2), some (.int v3), some (.int v4), some (.int (v5 + (nI 1))), none, none] [] G7 (rI K)) ∧ (r6 = 0 → K (nI 0) G7))))))))))))))) : mV l κ true (d + 1) 0 0 m_X9_settlesBy 3 [some (.ref 175), some (.int v1), some (.int v2), some (.int v3), some (.int v4), some (.int v5), none, none] [] G (rI K) := by
  refine mV_iload (i := 5) (by decide +kernel) rfl ?_
  refine mV_iload_n (k := 3) (by decide +kernel) rfl ?_
  refine mV_icmp_ge (off := 76) (tgt := 82) (by decide +kernel) (by decide) (fun hc => ?_) (fun hc => ?_)
  · replace h := h.1 hc
    refine mV_iconst (n := 1) (v := nI 1) (by decide +kernel) (by decide) ?_
    exact mV_zret (by decide +kernel) rfl (by decide) h
  · replace h := h.2 hc
    refine mV_aload_n (k := 0) (by decide +kernel) rfl ?_
    refine mV_gfr (r := some 178) (by decide +kernel) fk_9_18 sh_175 (mm_rrs st_175_5) rfl ?_
    refine mV_aload_n (k := 0) (by decide +kernel) rfl ?_
    refine mV_gfr (r := some 182) (by decide +kernel) fk_9_33 sh_175 (mm_rrs st_175_9) rfl ?_
    refine mV_iload_n (k := 2) (by decide +kernel) rfl ?_
    have hj1 := h.1
    replace h := h.2
    refine mV_aal (t := 8) (r := some (183 + v2.toNatClampNeg)) (by decide +kernel) sh_182 (by decide) hj1 (mm_rrs (mm_mem5 _ (mm_ixlt hj1)).2) rfl ?_
    refine mV_iload (i := 5) (by decide +kernel) rfl ?_
    refine mV_ialx (x := mg_i G (183 + v2.toNatClampNeg) v5.toNatClampNeg) (by decide +kernel) (mm_mem5 _ (mm_ixlt hj1)).1 h.1 rfl ?_
    replace h := h.2
    refine mV_bipush (n := 8) (v := nI 8) (by decide +kernel) (by decide) ?_
    refine mV_imul (by decide +kernel) ?_
    refine mV_iload_n (k := 1) (by decide +kernel) rfl ?_
    refine mV_iadd (by decide +kernel) ?_
    refine mV_ialx (x := mg_i G 178 ((((mg_i G (183 + v2.toNatClampNeg) v5.toNatClampNeg) * (nI 8)) + v1).toNatClampNeg)) (by decide +kernel) sh_178 h.1 rfl ?_
    replace h := h.2
    refine mV_istore (i := 6) (ls' := [some (.ref 175), some (.int v1), some (.int v2), some (.int v3), some (.int v4), some (.int v5), some (.int (mg_i G 178 ((((mg_i G (183 + v2.toNatClampNeg) v5.toNatClampNeg) * (nI 8)) + v1).toNatClampNeg))), none]) (by decide +kernel) (Nat.le_of_ble_eq_true rfl) rfl rfl ?_
    refine mV_aload_n (k := 0) (by decide +kernel) rfl ?_
    refine mV_iload_n (k := 1) (by decide +kernel) rfl ?_
    refine mV_iload_n (k := 2) (by decide +kernel) rfl ?_
    refine mV_iload (i := 5) (by decide +kernel) rfl ?_
    refine mV_cV (as := [.int v1, .int v2, .int v5]) (rest := []) (mc1 := 0) (ms1 := 0) (mc := 0) (ms := 0) (by decide +kernel) md_X9_isFirstOfGroup lk_9_152 sh_175 rfl rfl rfl (Nat.le_of_ble_eq_true rfl) (mC.mono (mm_contI (fun r2 G3 hK => ?_)) h)
    replace h := hK
    refine mV_if_eq (off := 38) (tgt := 76) (by decide +kernel) (by decide) (fun hc => ?_) (fun hc => ?_)
    · replace h := h.1 hc
      refine mV_iincc (i := 5) (n := 1) (c := nI 1) (ls' := [some (.ref 175), some (.int v1), some (.int v2), some (.int v3), some (.int v4), some (.int (v5 + (nI 1))), some (.int (mg_i G 178 ((((mg_i G (183 + v2.toNatClampNeg) v5.toNatClampNeg) * (nI 8)) + v1).toNatClampNeg))), none]) (by decide +kernel) (by decide) rfl (Nat.le_of_ble_eq_true rfl) rfl rfl ?_
      refine mV_goto (off := -76) (tgt := 3) (by decide +kernel) (by decide) ?_
      refine mV_fg [6] (ls' := [some (.ref 175), some (.int v1), some (.int v2), some (.int v3), some (.int v4), some (.int (v5 + (nI 1))), none, none]) rfl ?_
      exact h
    · replace h := h.2 hc
      refine mV_aload_n (k := 0) (by decide +kernel) rfl ?_
      refine mV_iload_n (k := 1) (by decide +kernel) rfl ?_
      refine mV_iload_n (k := 2) (by decide +kernel) rfl ?_
      refine mV_iload_n (k := 3) (by decide +kernel) rfl ?_
      refine mV_iload (i := 6) (by decide +kernel) rfl ?_
      refine mV_cV (as := [.int v1, .int v2, .int v3, .int (mg_i G 178 ((((mg_i G (183 + v2.toNatClampNeg) v5.toNatClampNeg) * (nI 8)) + v1).toNatClampNeg))]) (rest := []) (mc1 := 0) (ms1 := 0) (mc := 0) (ms := 0) (by decide +kernel) md_X9_split lk_9_155 sh_175 rfl rfl rfl (Nat.le_of_ble_eq_true rfl) (mC.mono (mm_contI (fun r4 G5 hK => ?_)) h)
      replace h := hK
      refine mV_istore (i := 7) (ls' := [some (.ref 175), some (.int v1), some (.int v2), some (.int v3), some (.int v4), some (.int v5), some (.int (mg_i G 178 ((((mg_i G (183 + v2.toNatClampNeg) v5.toNatClampNeg) * (nI 8)) + v1).toNatClampNeg))), some (.int r4)]) (by decide +kernel) (Nat.le_of_ble_eq_true rfl) rfl rfl ?_
      refine mV_iload (i := 7) (by decide +kernel) rfl ?_
      refine mV_iload_n (k := 3) (by decide +kernel) rfl ?_
      refine mV_icmp_eq (off := 19) (tgt := 74) (by decide +kernel) (by decide) (fun hc => ?_) (fun hc => ?_)
      · replace h := h.1 hc
        refine mV_iconst (n := 0) (v := nI 0) (by decide +kernel) (by decide) ?_
        exact mV_zret (by decide +kernel) rfl (by decide) h
      · replace h := h.2 hc
        refine mV_aload_n (k := 0) (by decide +kernel) rfl ?_
        refine mV_iload_n (k := 2) (by decide +kernel) rfl ?_
        refine mV_iconst (n := 1) (v := nI 1) (by decide +kernel) (by decide) ?_
        refine mV_iadd (by decide +kernel) ?_
        refine mV_iload (i := 7) (by decide +kernel) rfl ?_
        refine mV_iload (i := 4) (by decide +kernel) rfl ?_
        refine mV_iconst (n := 1) (v := nI 1) (by decide +kernel) (by decide) ?_
        refine mV_isub (by decide +kernel) ?_
        refine mV_cV (as := [.int (v2 + (nI 1)), .int r4, .int (v4 - (nI 1))]) (rest := []) (mc1 := 0) (ms1 := 0) (mc := 0) (ms := 0) (by decide +kernel) md_X9_settles lk_9_140 sh_175 rfl rfl rfl (Nat.le_of_ble_eq_true rfl) (mC.mono (mm_contI (fun r6 G7 hK => ?_)) h)
        replace h := hK
        refine mV_if_ne (off := 5) (tgt := 76) (by decide +kernel) (by decide) (fun hc => ?_) (fun hc => ?_)
        · replace h := h.1 hc
          refine mV_iincc (i := 5) (n := 1) (c := nI 1) (ls' := [some (.ref 175), some (.int v1), some (.int v2), some (.int v3), some (.int v4), some (.int (v5 + (nI 1))), some (.int (mg_i G 178 ((((mg_i G (183 + v2.toNatClampNeg) v5.toNatClampNeg) * (nI 8)) + v1).toNatClampNeg))), some (.int r4)]) (by decide +kernel) (by decide) rfl (Nat.le_of_ble_eq_true rfl) rfl rfl ?_
          refine mV_goto (off := -76) (tgt := 3) (by decide +kernel) (by decide) ?_
          refine mV_fg [6, 7] (ls' := [some (.ref 175), some (.int v1), some (.int v2), some (.int v3), some (.int v4), some (.int (v5 + (nI 1))), none, none]) rfl ?_
          exact h
        · replace h := h.2 hc
          refine mV_iconst (n := 0) (v := nI 0) (by decide +kernel) (by decide) ?_
          exact mV_zret (by decide +kernel) rfl (by decide) h
set_option maxRecDepth 100000 in
set_option maxHeartbeats 4000000 in
theorem e_X9_isFirstOfGroup {l : Launch} {κ : mm_K} {d : Nat} {G : mm_G} {K : Int32 → mm_G → Prop} (a1 : Int32) (a2 : Int32) (a3 : Int32) (h : vp_in a2 5 ∧ vp_in a3 120 ∧ vp_in (((mg_i G (183 + a2.toNatClampNeg) a3.toNatClampNeg) * (nI 8)) + a1) 960 ∧ mV l κ true d 0 0 m_X9_isFirstOfGroup 23 [some (.ref 175), some (.int a1), some (.int a2), some (.int a3), some (.int (mg_i G 178 ((((mg_i G (183 + a2.toNatClampNeg) a3.toNatClampNeg) * (nI 8)) + a1).toNatClampNeg))), some (.int (nI 0))] [] G (rI K)) : mC l κ true d 0 0 m_X9_isFirstOfGroup [.ref 175, .int a1, .int a2, .int a3] G (rI K) := by
  refine mC.of (by decide) (Nat.le_of_ble_eq_true rfl) [some (.ref 175), some (.int a1), some (.int a2), some (.int a3), none, none] rfl ?_
  refine mV_aload_n (k := 0) (by decide +kernel) rfl ?_
  refine mV_gfr (r := some 178) (by decide +kernel) fk_9_18 sh_175 (mm_rrs st_175_5) rfl ?_
  refine mV_aload_n (k := 0) (by decide +kernel) rfl ?_
  refine mV_gfr (r := some 182) (by decide +kernel) fk_9_33 sh_175 (mm_rrs st_175_9) rfl ?_
  refine mV_iload_n (k := 2) (by decide +kernel) rfl ?_
  have hj1 := h.1
  replace h := h.2
  refine mV_aal (t := 8) (r := some (183 + a2.toNatClampNeg)) (by decide +kernel) sh_182 (by decide) hj1 (mm_rrs (mm_mem5 _ (mm_ixlt hj1)).2) rfl ?_
  refine mV_iload_n (k := 3) (by decide +kernel) rfl ?_
  refine mV_ialx (x := mg_i G (183 + a2.toNatClampNeg) a3.toNatClampNeg) (by decide +kernel) (mm_mem5 _ (mm_ixlt hj1)).1 h.1 rfl ?_
  replace h := h.2
  refine mV_bipush (n := 8) (v := nI 8) (by decide +kernel) (by decide) ?_
  refine mV_imul (by decide +kernel) ?_
  refine mV_iload_n (k := 1) (by decide +kernel) rfl ?_
  refine mV_iadd (by decide +kernel) ?_
  refine mV_ialx (x := mg_i G 178 ((((mg_i G (183 + a2.toNatClampNeg) a3.toNatClampNeg) * (nI 8)) + a1).toNatClampNeg)) (by decide +kernel) sh_178 h.1 rfl ?_
  replace h := h.2
  refine mV_istore (i := 4) (ls' := [some (.ref 175), some (.int a1), some (.int a2), some (.int a3), some (.int (mg_i G 178 ((((mg_i G (183 + a2.toNatClampNeg) a3.toNatClampNeg) * (nI 8)) + a1).toNatClampNeg))), none]) (by decide +kernel) (Nat.le_of_ble_eq_true rfl) rfl rfl ?_
  refine mV_iconst (n := 0) (v := nI 0) (by decide +kernel) (by decide) ?_
  refine mV_istore (i := 5) (ls' := [some (.ref 175), some (.int a1), some (.int a2), some (.int a3), some (.int (mg_i G 178 ((((mg_i G (183 + a2.toNatClampNeg) a3.toNatClampNeg) * (nI 8)) + a1).toNatClampNeg))), some (.int (nI 0))]) (by decide +kernel) (Nat.le_of_ble_eq_true rfl) rfl rfl ?_
  exact h
set_option maxRecDepth 100000 in
set_option maxHeartbeats 4000000 in
theorem p_X9_isFirstOfGroup_23 {l : Launch} {κ : mm_K} {d : Nat} {G : mm_G} {K : Int32 → mm_G → Prop} (v1 : Int32) (v2 : Int32) (v3 : Int32) (v4 : Int32) (v5 : Int32) (h : ((v3 ≤ v5 → K (nI 1) G) ∧ (¬ v3 ≤ v5 → vp_in v2 5 ∧ vp_in v5 120 ∧ vp_in (((mg_i G (183 + v2.toNatClampNeg) v5.toNatClampNeg) * (nI 8)) + v1) 960 ∧ ((¬ (mg_i G 178 ((((mg_i G (183 + v2.toNatClampNeg) v5.toNatClampNeg) * (nI 8)) + v1).toNatClampNeg)) = v4 → mV l κ true d 0 0 m_X9_isFirstOfGroup 23 [some (.ref 175), some (.int v1), some (.int v2), some (.int v3), some (.int v4), some (.int (v5 + (nI 1)))] [] G (rI K)) ∧ ((mg_i G 178 ((((mg_i G (183 + v2.toNatClampNeg) v5.toNatClampNeg) * (nI 8)) + v1).toNatClampNeg)) = v4 → K (nI 0) G))))) : mV l κ true d 0 0 m_X9_isFirstOfGroup 23 [some (.ref 175), some (.int v1), some (.int v2), some (.int v3), some (.int v4), some (.int v5)] [] G (rI K) := by
  refine mV_iload (i := 5) (by decide +kernel) rfl ?_
  refine mV_iload_n (k := 3) (by decide +kernel) rfl ?_
  refine mV_icmp_ge (off := 35) (tgt := 61) (by decide +kernel) (by decide) (fun hc => ?_) (fun hc => ?_)
  · replace h := h.1 hc
    refine mV_iconst (n := 1) (v := nI 1) (by decide +kernel) (by decide) ?_
    exact mV_zret (by decide +kernel) rfl (by decide) h
  · replace h := h.2 hc
    refine mV_aload_n (k := 0) (by decide +kernel) rfl ?_
    refine mV_gfr (r := some 178) (by decide +kernel) fk_9_18 sh_175 (mm_rrs st_175_5) rfl ?_
    refine mV_aload_n (k := 0) (by decide +kernel) rfl ?_
    refine mV_gfr (r := some 182) (by decide +kernel) fk_9_33 sh_175 (mm_rrs st_175_9) rfl ?_
    refine mV_iload_n (k := 2) (by decide +kernel) rfl ?_
    have hj1 := h.1
    replace h := h.2
    refine mV_aal (t := 8) (r := some (183 + v2.toNatClampNeg)) (by decide +kernel) sh_182 (by decide) hj1 (mm_rrs (mm_mem5 _ (mm_ixlt hj1)).2) rfl ?_
    refine mV_iload (i := 5) (by decide +kernel) rfl ?_
    refine mV_ialx (x := mg_i G (183 + v2.toNatClampNeg) v5.toNatClampNeg) (by decide +kernel) (mm_mem5 _ (mm_ixlt hj1)).1 h.1 rfl ?_
    replace h := h.2
    refine mV_bipush (n := 8) (v := nI 8) (by decide +kernel) (by decide) ?_
    refine mV_imul (by decide +kernel) ?_
    refine mV_iload_n (k := 1) (by decide +kernel) rfl ?_
    refine mV_iadd (by decide +kernel) ?_
    refine mV_ialx (x := mg_i G 178 ((((mg_i G (183 + v2.toNatClampNeg) v5.toNatClampNeg) * (nI 8)) + v1).toNatClampNeg)) (by decide +kernel) sh_178 h.1 rfl ?_
    replace h := h.2
    refine mV_iload (i := 4) (by decide +kernel) rfl ?_
    refine mV_icmp_ne (off := 5) (tgt := 55) (by decide +kernel) (by decide) (fun hc => ?_) (fun hc => ?_)
    · replace h := h.1 hc
      refine mV_iincc (i := 5) (n := 1) (c := nI 1) (ls' := [some (.ref 175), some (.int v1), some (.int v2), some (.int v3), some (.int v4), some (.int (v5 + (nI 1)))]) (by decide +kernel) (by decide) rfl (Nat.le_of_ble_eq_true rfl) rfl rfl ?_
      refine mV_goto (off := -35) (tgt := 23) (by decide +kernel) (by decide) ?_
      exact h
    · replace h := h.2 hc
      refine mV_iconst (n := 0) (v := nI 0) (by decide +kernel) (by decide) ?_
      exact mV_zret (by decide +kernel) rfl (by decide) h
set_option maxRecDepth 100000 in
set_option maxHeartbeats 4000000 in
theorem e_X9_split {l : Launch} {κ : mm_K} {d : Nat} {G : mm_G} {K : Int32 → mm_G → Prop} (a1 : Int32) (a2 : Int32) (a3 : Int32) (a4 : Int32) (h : mV l κ true d 0 0 m_X9_split 6 [some (.ref 175), some (.int a1), some (.int a2), some (.int a3), some (.int a4), some (.int (nI 0)), some (.int (nI 0)), none] [] G (rI K)) : mC l κ true d 0 0 m_X9_split [.ref 175, .int a1, .int a2, .int a3, .int a4] G (rI K) := by
  refine mC.of (by decide) (Nat.le_of_ble_eq_true rfl) [some (.ref 175), some (.int a1), some (.int a2), some (.int a3), some (.int a4), none, none, none] rfl ?_
  refine mV_iconst (n := 0) (v := nI 0) (by decide +kernel) (by decide) ?_
  refine mV_istore (i := 5) (ls' := [some (.ref 175), some (.int a1), some (.int a2), some (.int a3), some (.int a4), some (.int (nI 0)), none, none]) (by decide +kernel) (Nat.le_of_ble_eq_true rfl) rfl rfl ?_
  refine mV_iconst (n := 0) (v := nI 0) (by decide +kernel) (by decide) ?_
  refine mV_istore (i := 6) (ls' := [some (.ref 175), some (.int a1), some (.int a2), some (.int a3), some (.int a4), some (.int (nI 0)), some (.int (nI 0)), none]) (by decide +kernel) (Nat.le_of_ble_eq_true rfl) rfl rfl ?_
  exact h
set_option maxRecDepth 100000 in
set_option maxHeartbeats 4000000 in
theorem p_X9_split_6 {l : Launch} {κ : mm_K} {d : Nat} {G : mm_G} {K : Int32 → mm_G → Prop} (v1 : Int32) (v2 : Int32) (v3 : Int32) (v4 : Int32) (v5 : Int32) (v6 : Int32) (h : ((v3 ≤ v6 → K v5 G) ∧ (¬ v3 ≤ v6 → vp_in v2 5 ∧ vp_in v6 120 ∧ vp_in (((mg_i G (183 + v2.toNatClampNeg) v6.toNatClampNeg) * (nI 8)) + v1) 960 ∧ ((¬ (mg_i G 178 ((((mg_i G (183 + v2.toNatClampNeg) v6.toNatClampNeg) * (nI 8)) + v1).toNatClampNeg)) = v4 → mV l κ true d 0 0 m_X9_split 6 [some (.ref 175), some (.int v1), some (.int v2), some (.int v3), some (.int v4), some (.int v5), some (.int (v6 + (nI 1))), none] [] G (rI K)) ∧ ((mg_i G 178 ((((mg_i G (183 + v2.toNatClampNeg) v6.toNatClampNeg) * (nI 8)) + v1).toNatClampNeg)) = v4 → vp_in (v2 + (nI 1)) 5 ∧ vp_in v5 120 ∧ mV l κ true d 0 0 m_X9_split 6 [some (.ref 175), some (.int v1), some (.int v2), some (.int v3), some (.int v4), some (.int (v5 + (nI 1))), some (.int (v6 + (nI 1))), none] [] (ms_i G (183 + (v2 + (nI 1)).toNatClampNeg) v5.toNatClampNeg (mg_i G (183 + v2.toNatClampNeg) v6.toNatClampNeg)) (rI K)))))) : mV l κ true d 0 0 m_X9_split 6 [some (.ref 175), some (.int v1), some (.int v2), some (.int v3), some (.int v4), some (.int v5), some (.int v6), none] [] G (rI K) := by
  refine mV_iload (i := 6) (by decide +kernel) rfl ?_
  refine mV_iload_n (k := 3) (by decide +kernel) rfl ?_
  refine mV_icmp_ge (off := 53) (tgt := 62) (by decide +kernel) (by decide) (fun hc => ?_) (fun hc => ?_)
  · replace h := h.1 hc
    refine mV_iload (i := 5) (by decide +kernel) rfl ?_
    exact mV_iret (by decide +kernel) rfl h
  · replace h := h.2 hc
    refine mV_aload_n (k := 0) (by decide +kernel) rfl ?_
    refine mV_gfr (r := some 182) (by decide +kernel) fk_9_33 sh_175 (mm_rrs st_175_9) rfl ?_
    refine mV_iload_n (k := 2) (by decide +kernel) rfl ?_
    have hj1 := h.1
    replace h := h.2
    refine mV_aal (t := 8) (r := some (183 + v2.toNatClampNeg)) (by decide +kernel) sh_182 (by decide) hj1 (mm_rrs (mm_mem5 _ (mm_ixlt hj1)).2) rfl ?_
    refine mV_iload (i := 6) (by decide +kernel) rfl ?_
    refine mV_ialx (x := mg_i G (183 + v2.toNatClampNeg) v6.toNatClampNeg) (by decide +kernel) (mm_mem5 _ (mm_ixlt hj1)).1 h.1 rfl ?_
    replace h := h.2
    refine mV_istore (i := 7) (ls' := [some (.ref 175), some (.int v1), some (.int v2), some (.int v3), some (.int v4), some (.int v5), some (.int v6), some (.int (mg_i G (183 + v2.toNatClampNeg) v6.toNatClampNeg))]) (by decide +kernel) (Nat.le_of_ble_eq_true rfl) rfl rfl ?_
    refine mV_aload_n (k := 0) (by decide +kernel) rfl ?_
    refine mV_gfr (r := some 178) (by decide +kernel) fk_9_18 sh_175 (mm_rrs st_175_5) rfl ?_
    refine mV_iload (i := 7) (by decide +kernel) rfl ?_
    refine mV_bipush (n := 8) (v := nI 8) (by decide +kernel) (by decide) ?_
    refine mV_imul (by decide +kernel) ?_
    refine mV_iload_n (k := 1) (by decide +kernel) rfl ?_
    refine mV_iadd (by decide +kernel) ?_
    refine mV_ialx (x := mg_i G 178 ((((mg_i G (183 + v2.toNatClampNeg) v6.toNatClampNeg) * (nI 8)) + v1).toNatClampNeg)) (by decide +kernel) sh_178 h.1 rfl ?_
    replace h := h.2
    refine mV_iload (i := 4) (by decide +kernel) rfl ?_
    refine mV_icmp_ne (off := 19) (tgt := 56) (by decide +kernel) (by decide) (fun hc => ?_) (fun hc => ?_)
    · replace h := h.1 hc
      refine mV_iincc (i := 6) (n := 1) (c := nI 1) (ls' := [some (.ref 175), some (.int v1), some (.int v2), some (.int v3), some (.int v4), some (.int v5), some (.int (v6 + (nI 1))), some (.int (mg_i G (183 + v2.toNatClampNeg) v6.toNatClampNeg))]) (by decide +kernel) (by decide) rfl (Nat.le_of_ble_eq_true rfl) rfl rfl ?_
      refine mV_goto (off := -53) (tgt := 6) (by decide +kernel) (by decide) ?_
      refine mV_fg [7] (ls' := [some (.ref 175), some (.int v1), some (.int v2), some (.int v3), some (.int v4), some (.int v5), some (.int (v6 + (nI 1))), none]) rfl ?_
      exact h
    · replace h := h.2 hc
      refine mV_aload_n (k := 0) (by decide +kernel) rfl ?_
      refine mV_gfr (r := some 182) (by decide +kernel) fk_9_33 sh_175 (mm_rrs st_175_9) rfl ?_
      refine mV_iload_n (k := 2) (by decide +kernel) rfl ?_
      refine mV_iconst (n := 1) (v := nI 1) (by decide +kernel) (by decide) ?_
      refine mV_iadd (by decide +kernel) ?_
      have hj2 := h.1
      replace h := h.2
      refine mV_aal (t := 8) (r := some (183 + (v2 + (nI 1)).toNatClampNeg)) (by decide +kernel) sh_182 (by decide) hj2 (mm_rrs (mm_mem5 _ (mm_ixlt hj2)).2) rfl ?_
      refine mV_iload (i := 5) (by decide +kernel) rfl ?_
      refine mV_iload (i := 7) (by decide +kernel) rfl ?_
      refine mV_ias (by decide +kernel) (mm_mem5 _ (mm_ixlt hj2)).1 h.1 ?_
      replace h := h.2
      refine mV_iincc (i := 5) (n := 1) (c := nI 1) (ls' := [some (.ref 175), some (.int v1), some (.int v2), some (.int v3), some (.int v4), some (.int (v5 + (nI 1))), some (.int v6), some (.int (mg_i G (183 + v2.toNatClampNeg) v6.toNatClampNeg))]) (by decide +kernel) (by decide) rfl (Nat.le_of_ble_eq_true rfl) rfl rfl ?_
      refine mV_iincc (i := 6) (n := 1) (c := nI 1) (ls' := [some (.ref 175), some (.int v1), some (.int v2), some (.int v3), some (.int v4), some (.int (v5 + (nI 1))), some (.int (v6 + (nI 1))), some (.int (mg_i G (183 + v2.toNatClampNeg) v6.toNatClampNeg))]) (by decide +kernel) (by decide) rfl (Nat.le_of_ble_eq_true rfl) rfl rfl ?_
      refine mV_goto (off := -53) (tgt := 6) (by decide +kernel) (by decide) ?_
      refine mV_fg [7] (ls' := [some (.ref 175), some (.int v1), some (.int v2), some (.int v3), some (.int v4), some (.int (v5 + (nI 1))), some (.int (v6 + (nI 1))), none]) rfl ?_
      exact h
set_option maxRecDepth 100000 in
set_option maxHeartbeats 4000000 in
theorem e_X10_addInt {l : Launch} {κ : mm_K} {d : Nat} {G : mm_G} {K : mm_G → Prop} (a1 : Int32) (h : mV l κ true d 0 0 m_X10_addInt 3 [some (.ref 1), some (.int a1), some (.int (nI 24))] [] G (rV K)) : mC l κ true d 0 0 m_X10_addInt [.ref 1, .int a1] G (rV K) := by
  refine mC.of (by decide) (Nat.le_of_ble_eq_true rfl) [some (.ref 1), some (.int a1), none] rfl ?_
  refine mV_bipush (n := 24) (v := nI 24) (by decide +kernel) (by decide) ?_
  refine mV_istore_n (k := 2) (ls' := [some (.ref 1), some (.int a1), some (.int (nI 24))]) (by decide +kernel) (Nat.le_of_ble_eq_true rfl) rfl rfl ?_
  exact h
set_option maxRecDepth 100000 in
set_option maxHeartbeats 4000000 in
theorem p_X10_addInt_3 {l : Launch} {κ : mm_K} {d : Nat} {G : mm_G} {K : mm_G → Prop} (v1 : Int32) (v2 : Int32) (h : ((v2 < 0 → K G) ∧ (¬ v2 < 0 → (((nI 2000) ≤ (mg_i G 1 4) → K G) ∧ (¬ (nI 2000) ≤ (mg_i G 1 4) → vp_in (mg_i G 1 4) 2000 ∧ mV l κ true d 0 0 m_X10_addInt 3 [some (.ref 1), some (.int v1), some (.int (v2 + (-8)))] [] (ms_i (ms_i G 2 ((mg_i G 1 4).toNatClampNeg) (((v1.toUInt32 >>> (v2.toUInt32 &&& Int32.toUInt32 31)).toInt32) &&& (nI 255))) 1 4 ((mg_i G 1 4) + (nI 1))) (rV K)))))) : mV l κ true d 0 0 m_X10_addInt 3 [some (.ref 1), some (.int v1), some (.int v2)] [] G (rV K) := by
  refine mV_iload_n (k := 2) (by decide +kernel) rfl ?_
  refine mV_if_lt (off := 45) (tgt := 49) (by decide +kernel) (by decide) (fun hc => ?_) (fun hc => ?_)
  · replace h := h.1 hc
    exact mV_vret (by decide +kernel) rfl h
  · replace h := h.2 hc
    refine mV_aload_n (k := 0) (by decide +kernel) rfl ?_
    refine mV_gfix (x := mg_i G 1 4) (by decide +kernel) fk_10_44 sh_1 rfl ?_
    refine mV_sipush (n := 2000) (v := nI 2000) (by decide +kernel) (by decide) ?_
    refine mV_icmp_ge (off := 35) (tgt := 49) (by decide +kernel) (by decide) (fun hc => ?_) (fun hc => ?_)
    · replace h := h.1 hc
      exact mV_vret (by decide +kernel) rfl h
    · replace h := h.2 hc
      refine mV_aload_n (k := 0) (by decide +kernel) rfl ?_
      refine mV_gfr (r := some 2) (by decide +kernel) fk_10_9 sh_1 (mm_rrs st_1_0) rfl ?_
      refine mV_aload_n (k := 0) (by decide +kernel) rfl ?_
      refine mV_gfix (x := mg_i G 1 4) (by decide +kernel) fk_10_44 sh_1 rfl ?_
      refine mV_iload_n (k := 1) (by decide +kernel) rfl ?_
      refine mV_iload_n (k := 2) (by decide +kernel) rfl ?_
      refine mV_iushr (by decide +kernel) ?_
      refine mV_sipush (n := 255) (v := nI 255) (by decide +kernel) (by decide) ?_
      refine mV_iand (by decide +kernel) ?_
      refine mV_ias (by decide +kernel) sh_2 h.1 ?_
      replace h := h.2
      refine mV_aload_n (k := 0) (by decide +kernel) rfl ?_
      refine mV_dup (by decide +kernel) rfl ?_
      refine mV_gfix (x := mg_i G 1 4) (by decide +kernel) fk_10_44 sh_1 rfl ?_
      refine mV_iconst (n := 1) (v := nI 1) (by decide +kernel) (by decide) ?_
      refine mV_iadd (by decide +kernel) ?_
      refine mV_pfi (by decide +kernel) fk_10_44 sh_1 ?_
      refine mV_iincc (i := 2) (n := -8) (c := (-8)) (ls' := [some (.ref 1), some (.int v1), some (.int (v2 + (-8)))]) (by decide +kernel) (by decide) rfl (Nat.le_of_ble_eq_true rfl) rfl rfl ?_
      refine mV_goto (off := -43) (tgt := 3) (by decide +kernel) (by decide) ?_
      exact h
set_option maxRecDepth 100000 in
set_option maxHeartbeats 4000000 in
theorem e_X10_scan {l : Launch} {κ : mm_K} {d : Nat} {G : mm_G} {K : mm_G → Prop}  (h : mV l κ true (d + 3) 0 0 m_X10_scan 4 [some (.ref 1), some (.int (nI 0)), some (.int (nI 0))] [] G (rV K)) : mC l κ true (d + 3) 0 0 m_X10_scan [.ref 1] G (rV K) := by
  refine mC.of (by decide) (Nat.le_of_ble_eq_true rfl) [some (.ref 1), none, none] rfl ?_
  refine mV_iconst (n := 0) (v := nI 0) (by decide +kernel) (by decide) ?_
  refine mV_istore_n (k := 1) (ls' := [some (.ref 1), some (.int (nI 0)), none]) (by decide +kernel) (Nat.le_of_ble_eq_true rfl) rfl rfl ?_
  refine mV_iconst (n := 0) (v := nI 0) (by decide +kernel) (by decide) ?_
  refine mV_istore_n (k := 2) (ls' := [some (.ref 1), some (.int (nI 0)), some (.int (nI 0))]) (by decide +kernel) (Nat.le_of_ble_eq_true rfl) rfl rfl ?_
  exact h
set_option maxRecDepth 100000 in
set_option maxHeartbeats 4000000 in
theorem p_X10_scan_4 {l : Launch} {κ : mm_K} {d : Nat} {G : mm_G} {K : mm_G → Prop} (v1 : Int32) (v2 : Int32) (h : (((nI 400) < v2 → K G) ∧ (¬ (nI 400) < v2 → mC l κ true (d + 2) 0 0 m_X10_pastBlanks [.ref 1, .int v1] G (rI (fun r1 G2 => mC l κ true (d + 2) 0 0 m_X10_scanToken [.ref 1, .int v2, .int r1] G2 (rI (fun r3 G4 => vp_in v2 401 ∧ (((mg_i G4 3 v2.toNatClampNeg) = 0 → K G4) ∧ (¬ (mg_i G4 3 v2.toNatClampNeg) = 0 → vp_in v2 401 ∧ ((¬ (mg_i G4 3 v2.toNatClampNeg) = (nI 1) → mV l κ true (d + 3) 0 0 m_X10_scan 4 [some (.ref 1), some (.int r3), some (.int (v2 + (nI 1)))] [] G4 (rV K)) ∧ ((mg_i G4 3 v2.toNatClampNeg) = (nI 1) → K G4))))))))))) : mV l κ true (d + 3) 0 0 m_X10_scan 4 [some (.ref 1), some (.int v1), some (.int v2)] [] G (rV K) := by
  refine mV_iload_n (k := 2) (by decide +kernel) rfl ?_
  refine mV_sipush (n := 400) (v := nI 400) (by decide +kernel) (by decide) ?_
  refine mV_icmp_gt (off := 40) (tgt := 48) (by decide +kernel) (by decide) (fun hc => ?_) (fun hc => ?_)
  · replace h := h.1 hc
    exact mV_vret (by decide +kernel) rfl h
  · replace h := h.2 hc
    refine mV_aload_n (k := 0) (by decide +kernel) rfl ?_
    refine mV_iload_n (k := 2) (by decide +kernel) rfl ?_
    refine mV_aload_n (k := 0) (by decide +kernel) rfl ?_
    refine mV_iload_n (k := 1) (by decide +kernel) rfl ?_
    refine mV_cV (as := [.int v1]) (rest := [.int v2, .ref 1]) (mc1 := 0) (ms1 := 0) (mc := 0) (ms := 0) (by decide +kernel) md_X10_pastBlanks lk_10_47 sh_1 rfl rfl rfl (Nat.le_of_ble_eq_true rfl) (mC.mono (mm_contI (fun r1 G2 hK => ?_)) h)
    replace h := hK
    refine mV_cV (as := [.int v2, .int r1]) (rest := []) (mc1 := 0) (ms1 := 0) (mc := 0) (ms := 0) (by decide +kernel) md_X10_scanToken lk_10_51 sh_1 rfl rfl rfl (Nat.le_of_ble_eq_true rfl) (mC.mono (mm_contI (fun r3 G4 hK => ?_)) h)
    replace h := hK
    refine mV_istore_n (k := 1) (ls' := [some (.ref 1), some (.int r3), some (.int v2)]) (by decide +kernel) (Nat.le_of_ble_eq_true rfl) rfl rfl ?_
    refine mV_aload_n (k := 0) (by decide +kernel) rfl ?_
    refine mV_gfr (r := some 3) (by decide +kernel) fk_10_15 sh_1 (mm_rrs st_1_1) rfl ?_
    refine mV_iload_n (k := 2) (by decide +kernel) rfl ?_
    refine mV_ialx (x := mg_i G4 3 v2.toNatClampNeg) (by decide +kernel) sh_3 h.1 rfl ?_
    replace h := h.2
    refine mV_if_eq (off := 13) (tgt := 41) (by decide +kernel) (by decide) (fun hc => ?_) (fun hc => ?_)
    · replace h := h.1 hc
      exact mV_vret (by decide +kernel) rfl h
    · replace h := h.2 hc
      refine mV_aload_n (k := 0) (by decide +kernel) rfl ?_
      refine mV_gfr (r := some 3) (by decide +kernel) fk_10_15 sh_1 (mm_rrs st_1_1) rfl ?_
      refine mV_iload_n (k := 2) (by decide +kernel) rfl ?_
      refine mV_ialx (x := mg_i G4 3 v2.toNatClampNeg) (by decide +kernel) sh_3 h.1 rfl ?_
      replace h := h.2
      refine mV_iconst (n := 1) (v := nI 1) (by decide +kernel) (by decide) ?_
      refine mV_icmp_ne (off := 4) (tgt := 42) (by decide +kernel) (by decide) (fun hc => ?_) (fun hc => ?_)
      · replace h := h.1 hc
        refine mV_iincc (i := 2) (n := 1) (c := nI 1) (ls' := [some (.ref 1), some (.int r3), some (.int (v2 + (nI 1)))]) (by decide +kernel) (by decide) rfl (Nat.le_of_ble_eq_true rfl) rfl rfl ?_
        refine mV_goto (off := -41) (tgt := 4) (by decide +kernel) (by decide) ?_
        exact h
      · replace h := h.2 hc
        exact mV_vret (by decide +kernel) rfl h
set_option maxRecDepth 100000 in
set_option maxHeartbeats 4000000 in
theorem e_X10_scanToken {l : Launch} {κ : mm_K} {d : Nat} {G : mm_G} {K : Int32 → mm_G → Prop} (a1 : Int32) (a2 : Int32) (h : vp_in a1 401 ∧ vp_in a1 401 ∧ ((a2 < (mg_i G 1 4) → mC l κ true (d + 1) 0 0 m_X10_isLetter [.ref 1, .int a2] (ms_l (ms_i G 4 a1.toNatClampNeg a2) 5 a1.toNatClampNeg (lN 0)) (rI (fun r1 G2 => ((r1 = 0 → mC l κ true (d + 1) 0 0 m_X10_isDigit [.ref 1, .int a2] G2 (rI (fun r3 G4 => ((r3 = 0 → mC l κ true (d + 1) 0 0 m_X10_scanSign [.ref 1, .int a1, .int a2] G4 (rI (fun r5 G6 => K r5 G6))) ∧ (¬ r3 = 0 → mC l κ true (d + 1) 0 0 m_X10_scanDigits [.ref 1, .int a1, .int a2] G4 (rI (fun r7 G8 => K r7 G8))))))) ∧ (¬ r1 = 0 → mC l κ true (d + 1) 0 0 m_X10_scanLetters [.ref 1, .int a1, .int a2] G2 (rI (fun r9 G10 => K r9 G10))))))) ∧ (¬ a2 < (mg_i G 1 4) → vp_in a1 401 ∧ K a2 (ms_i (ms_l (ms_i G 4 a1.toNatClampNeg a2) 5 a1.toNatClampNeg (lN 0)) 3 a1.toNatClampNeg (nI 0))))) : mC l κ true (d + 2) 0 0 m_X10_scanToken [.ref 1, .int a1, .int a2] G (rI K) := by
  refine mC.of (by decide) (Nat.le_of_ble_eq_true rfl) [some (.ref 1), some (.int a1), some (.int a2)] rfl ?_
  refine mV_aload_n (k := 0) (by decide +kernel) rfl ?_
  refine mV_gfr (r := some 4) (by decide +kernel) fk_10_18 sh_1 (mm_rrs st_1_2) rfl ?_
  refine mV_iload_n (k := 1) (by decide +kernel) rfl ?_
  refine mV_iload_n (k := 2) (by decide +kernel) rfl ?_
  refine mV_ias (by decide +kernel) sh_4 h.1 ?_
  replace h := h.2
  refine mV_aload_n (k := 0) (by decide +kernel) rfl ?_
  refine mV_gfr (r := some 5) (by decide +kernel) fk_10_21 sh_1 (mm_rrs st_1_3) rfl ?_
  refine mV_iload_n (k := 1) (by decide +kernel) rfl ?_
  refine mV_lconst (n := 0) (v := lN 0) (by decide +kernel) (by decide) ?_
  refine mV_las (by decide +kernel) sh_5 h.1 ?_
  replace h := h.2
  refine mV_iload_n (k := 2) (by decide +kernel) rfl ?_
  refine mV_aload_n (k := 0) (by decide +kernel) rfl ?_
  refine mV_gfix (x := mg_i G 1 4) (by decide +kernel) fk_10_44 sh_1 rfl ?_
  refine mV_icmp_lt (off := 12) (tgt := 31) (by decide +kernel) (by decide) (fun hc => ?_) (fun hc => ?_)
  · replace h := h.1 hc
    refine mV_aload_n (k := 0) (by decide +kernel) rfl ?_
    refine mV_iload_n (k := 2) (by decide +kernel) rfl ?_
    refine mV_cV (as := [.int a2]) (rest := []) (mc1 := 0) (ms1 := 0) (mc := 0) (ms := 0) (by decide +kernel) md_X10_isLetter lk_10_55 sh_1 rfl rfl rfl (Nat.le_of_ble_eq_true rfl) (mC.mono (mm_contI (fun r1 G2 hK => ?_)) h)
    replace h := hK
    refine mV_if_eq (off := 10) (tgt := 46) (by decide +kernel) (by decide) (fun hc => ?_) (fun hc => ?_)
    · replace h := h.1 hc
      refine mV_aload_n (k := 0) (by decide +kernel) rfl ?_
      refine mV_iload_n (k := 2) (by decide +kernel) rfl ?_
      refine mV_cV (as := [.int a2]) (rest := []) (mc1 := 0) (ms1 := 0) (mc := 0) (ms := 0) (by decide +kernel) md_X10_isDigit lk_10_62 sh_1 rfl rfl rfl (Nat.le_of_ble_eq_true rfl) (mC.mono (mm_contI (fun r3 G4 hK => ?_)) h)
      replace h := hK
      refine mV_if_eq (off := 12) (tgt := 63) (by decide +kernel) (by decide) (fun hc => ?_) (fun hc => ?_)
      · replace h := h.1 hc
        refine mV_aload_n (k := 0) (by decide +kernel) rfl ?_
        refine mV_iload_n (k := 1) (by decide +kernel) rfl ?_
        refine mV_iload_n (k := 2) (by decide +kernel) rfl ?_
        refine mV_cV (as := [.int a1, .int a2]) (rest := []) (mc1 := 0) (ms1 := 0) (mc := 0) (ms := 0) (by decide +kernel) md_X10_scanSign lk_10_68 sh_1 rfl rfl rfl (Nat.le_of_ble_eq_true rfl) (mC.mono (mm_contI (fun r5 G6 hK => ?_)) h)
        replace h := hK
        exact mV_iret (by decide +kernel) rfl h
      · replace h := h.2 hc
        refine mV_aload_n (k := 0) (by decide +kernel) rfl ?_
        refine mV_iload_n (k := 1) (by decide +kernel) rfl ?_
        refine mV_iload_n (k := 2) (by decide +kernel) rfl ?_
        refine mV_cV (as := [.int a1, .int a2]) (rest := []) (mc1 := 0) (ms1 := 0) (mc := 0) (ms := 0) (by decide +kernel) md_X10_scanDigits lk_10_65 sh_1 rfl rfl rfl (Nat.le_of_ble_eq_true rfl) (mC.mono (mm_contI (fun r7 G8 hK => ?_)) h)
        replace h := hK
        refine mV_goto (off := 9) (tgt := 69) (by decide +kernel) (by decide) ?_
        exact mV_iret (by decide +kernel) rfl h
    · replace h := h.2 hc
      refine mV_aload_n (k := 0) (by decide +kernel) rfl ?_
      refine mV_iload_n (k := 1) (by decide +kernel) rfl ?_
      refine mV_iload_n (k := 2) (by decide +kernel) rfl ?_
      refine mV_cV (as := [.int a1, .int a2]) (rest := []) (mc1 := 0) (ms1 := 0) (mc := 0) (ms := 0) (by decide +kernel) md_X10_scanLetters lk_10_59 sh_1 rfl rfl rfl (Nat.le_of_ble_eq_true rfl) (mC.mono (mm_contI (fun r9 G10 hK => ?_)) h)
      replace h := hK
      exact mV_iret (by decide +kernel) rfl h
  · replace h := h.2 hc
    refine mV_aload_n (k := 0) (by decide +kernel) rfl ?_
    refine mV_gfr (r := some 3) (by decide +kernel) fk_10_15 sh_1 (mm_rrs st_1_1) rfl ?_
    refine mV_iload_n (k := 1) (by decide +kernel) rfl ?_
    refine mV_iconst (n := 0) (v := nI 0) (by decide +kernel) (by decide) ?_
    refine mV_ias (by decide +kernel) sh_3 h.1 ?_
    replace h := h.2
    refine mV_iload_n (k := 2) (by decide +kernel) rfl ?_
    exact mV_iret (by decide +kernel) rfl h
set_option maxRecDepth 100000 in
set_option maxHeartbeats 4000000 in
theorem e_X10_scanLetters {l : Launch} {κ : mm_K} {d : Nat} {G : mm_G} {K : Int32 → mm_G → Prop} (a1 : Int32) (a2 : Int32) (h : mV l κ true (d + 1) 0 0 m_X10_scanLetters 5 [some (.ref 1), some (.int a1), some (.int a2), some (.long (lN 0)), none, some (.int a2), none] [] G (rI K)) : mC l κ true (d + 1) 0 0 m_X10_scanLetters [.ref 1, .int a1, .int a2] G (rI K) := by
  refine mC.of (by decide) (Nat.le_of_ble_eq_true rfl) [some (.ref 1), some (.int a1), some (.int a2), none, none, none, none] rfl ?_
  refine mV_lconst (n := 0) (v := lN 0) (by decide +kernel) (by decide) ?_
  refine mV_lstore_n (k := 3) (ls' := [some (.ref 1), some (.int a1), some (.int a2), some (.long (lN 0)), none, none, none]) (by decide +kernel) (Nat.le_of_ble_eq_true rfl) rfl rfl ?_
  refine mV_iload_n (k := 2) (by decide +kernel) rfl ?_
  refine mV_istore (i := 5) (ls' := [some (.ref 1), some (.int a1), some (.int a2), some (.long (lN 0)), none, some (.int a2), none]) (by decide +kernel) (Nat.le_of_ble_eq_true rfl) rfl rfl ?_
  exact h
set_option maxRecDepth 100000 in
set_option maxHeartbeats 4000000 in
theorem p_X10_scanLetters_5 {l : Launch} {κ : mm_K} {d : Nat} {G : mm_G} {K : Int32 → mm_G → Prop} (v1 : Int32) (v2 : Int32) (v3 : Int64) (v5 : Int32) (h : (((mg_i G 1 4) ≤ v5 → vp_in v1 401 ∧ (((v5 - v2) ≤ (nI 8) → vp_in v1 401 ∧ mV l κ true (d + 1) 0 0 m_X10_scanLetters 71 [some (.ref 1), some (.int v1), some (.int v2), some (.long v3), none, some (.int v5), some (.int (nI 0))] [] (ms_i (ms_l G 5 v1.toNatClampNeg v3) 3 v1.toNatClampNeg (nI 2)) (rI K)) ∧ (¬ (v5 - v2) ≤ (nI 8) → vp_in v1 401 ∧ mV l κ true (d + 1) 0 0 m_X10_scanLetters 71 [some (.ref 1), some (.int v1), some (.int v2), some (.long v3), none, some (.int v5), some (.int (nI 0))] [] (ms_i (ms_l G 5 v1.toNatClampNeg v3) 3 v1.toNatClampNeg (nI 1)) (rI K)))) ∧ (¬ (mg_i G 1 4) ≤ v5 → mC l κ true d 0 0 m_X10_isLetter [.ref 1, .int v5] G (rI (fun r1 G2 => ((r1 = 0 → vp_in v1 401 ∧ (((v5 - v2) ≤ (nI 8) → vp_in v1 401 ∧ mV l κ true (d + 1) 0 0 m_X10_scanLetters 71 [some (.ref 1), some (.int v1), some (.int v2), some (.long v3), none, some (.int v5), some (.int (nI 0))] [] (ms_i (ms_l G2 5 v1.toNatClampNeg v3) 3 v1.toNatClampNeg (nI 2)) (rI K)) ∧ (¬ (v5 - v2) ≤ (nI 8) → vp_in v1 401 ∧ mV l κ true (d + 1) 0 0 m_X10_scanLetters 71 [some (.ref 1), some (.int v1), some (.int v2), some (.long v3), none, some (.int v5), some (.int (nI 0))] [] (ms_i (ms_l G2 5 v1.toNatClampNeg v3) 3 v1.toNatClampNeg (nI 1)) (rI K)))) ∧ (¬ r1 = 0 → vp_in v5 2000 ∧ mC l κ true d 0 0 m_X10_spelled [.long v3, .int (mg_i G2 2 v5.toNatClampNeg)] G2 (rL (fun r3 G4 => mV l κ true (d + 1) 0 0 m_X10_scanLetters 5 [some (.ref 1), some (.int v1), some (.int v2), some (.long r3), none, some (.int (v5 + (nI 1))), none] [] G4 (rI K)))))))))) : mV l κ true (d + 1) 0 0 m_X10_scanLetters 5 [some (.ref 1), some (.int v1), some (.int v2), some (.long v3), none, some (.int v5), none] [] G (rI K) := by
  refine mV_iload (i := 5) (by decide +kernel) rfl ?_
  refine mV_aload_n (k := 0) (by decide +kernel) rfl ?_
  refine mV_gfix (x := mg_i G 1 4) (by decide +kernel) fk_10_44 sh_1 rfl ?_
  refine mV_icmp_ge (off := 30) (tgt := 41) (by decide +kernel) (by decide) (fun hc => ?_) (fun hc => ?_)
  · replace h := h.1 hc
    refine mV_aload_n (k := 0) (by decide +kernel) rfl ?_
    refine mV_gfr (r := some 5) (by decide +kernel) fk_10_21 sh_1 (mm_rrs st_1_3) rfl ?_
    refine mV_iload_n (k := 1) (by decide +kernel) rfl ?_
    refine mV_lload_n (k := 3) (by decide +kernel) rfl ?_
    refine mV_las (by decide +kernel) sh_5 h.1 ?_
    replace h := h.2
    refine mV_aload_n (k := 0) (by decide +kernel) rfl ?_
    refine mV_gfr (r := some 3) (by decide +kernel) fk_10_15 sh_1 (mm_rrs st_1_1) rfl ?_
    refine mV_iload_n (k := 1) (by decide +kernel) rfl ?_
    refine mV_iload (i := 5) (by decide +kernel) rfl ?_
    refine mV_iload_n (k := 2) (by decide +kernel) rfl ?_
    refine mV_isub (by decide +kernel) ?_
    refine mV_bipush (n := 8) (v := nI 8) (by decide +kernel) (by decide) ?_
    refine mV_icmp_le (off := 7) (tgt := 66) (by decide +kernel) (by decide) (fun hc => ?_) (fun hc => ?_)
    · replace h := h.1 hc
      refine mV_iconst (n := 2) (v := nI 2) (by decide +kernel) (by decide) ?_
      refine mV_ias (by decide +kernel) sh_3 h.1 ?_
      replace h := h.2
      refine mV_iconst (n := 0) (v := nI 0) (by decide +kernel) (by decide) ?_
      refine mV_istore (i := 6) (ls' := [some (.ref 1), some (.int v1), some (.int v2), some (.long v3), none, some (.int v5), some (.int (nI 0))]) (by decide +kernel) (Nat.le_of_ble_eq_true rfl) rfl rfl ?_
      exact h
    · replace h := h.2 hc
      refine mV_iconst (n := 1) (v := nI 1) (by decide +kernel) (by decide) ?_
      refine mV_goto (off := 4) (tgt := 67) (by decide +kernel) (by decide) ?_
      refine mV_ias (by decide +kernel) sh_3 h.1 ?_
      replace h := h.2
      refine mV_iconst (n := 0) (v := nI 0) (by decide +kernel) (by decide) ?_
      refine mV_istore (i := 6) (ls' := [some (.ref 1), some (.int v1), some (.int v2), some (.long v3), none, some (.int v5), some (.int (nI 0))]) (by decide +kernel) (Nat.le_of_ble_eq_true rfl) rfl rfl ?_
      exact h
  · replace h := h.2 hc
    refine mV_aload_n (k := 0) (by decide +kernel) rfl ?_
    refine mV_iload (i := 5) (by decide +kernel) rfl ?_
    refine mV_cV (as := [.int v5]) (rest := []) (mc1 := 0) (ms1 := 0) (mc := 0) (ms := 0) (by decide +kernel) md_X10_isLetter lk_10_55 sh_1 rfl rfl rfl (Nat.le_of_ble_eq_true rfl) (mC.mono (mm_contI (fun r1 G2 hK => ?_)) h)
    replace h := hK
    refine mV_if_eq (off := 21) (tgt := 41) (by decide +kernel) (by decide) (fun hc => ?_) (fun hc => ?_)
    · replace h := h.1 hc
      refine mV_aload_n (k := 0) (by decide +kernel) rfl ?_
      refine mV_gfr (r := some 5) (by decide +kernel) fk_10_21 sh_1 (mm_rrs st_1_3) rfl ?_
      refine mV_iload_n (k := 1) (by decide +kernel) rfl ?_
      refine mV_lload_n (k := 3) (by decide +kernel) rfl ?_
      refine mV_las (by decide +kernel) sh_5 h.1 ?_
      replace h := h.2
      refine mV_aload_n (k := 0) (by decide +kernel) rfl ?_
      refine mV_gfr (r := some 3) (by decide +kernel) fk_10_15 sh_1 (mm_rrs st_1_1) rfl ?_
      refine mV_iload_n (k := 1) (by decide +kernel) rfl ?_
      refine mV_iload (i := 5) (by decide +kernel) rfl ?_
      refine mV_iload_n (k := 2) (by decide +kernel) rfl ?_
      refine mV_isub (by decide +kernel) ?_
      refine mV_bipush (n := 8) (v := nI 8) (by decide +kernel) (by decide) ?_
      refine mV_icmp_le (off := 7) (tgt := 66) (by decide +kernel) (by decide) (fun hc => ?_) (fun hc => ?_)
      · replace h := h.1 hc
        refine mV_iconst (n := 2) (v := nI 2) (by decide +kernel) (by decide) ?_
        refine mV_ias (by decide +kernel) sh_3 h.1 ?_
        replace h := h.2
        refine mV_iconst (n := 0) (v := nI 0) (by decide +kernel) (by decide) ?_
        refine mV_istore (i := 6) (ls' := [some (.ref 1), some (.int v1), some (.int v2), some (.long v3), none, some (.int v5), some (.int (nI 0))]) (by decide +kernel) (Nat.le_of_ble_eq_true rfl) rfl rfl ?_
        exact h
      · replace h := h.2 hc
        refine mV_iconst (n := 1) (v := nI 1) (by decide +kernel) (by decide) ?_
        refine mV_goto (off := 4) (tgt := 67) (by decide +kernel) (by decide) ?_
        refine mV_ias (by decide +kernel) sh_3 h.1 ?_
        replace h := h.2
        refine mV_iconst (n := 0) (v := nI 0) (by decide +kernel) (by decide) ?_
        refine mV_istore (i := 6) (ls' := [some (.ref 1), some (.int v1), some (.int v2), some (.long v3), none, some (.int v5), some (.int (nI 0))]) (by decide +kernel) (Nat.le_of_ble_eq_true rfl) rfl rfl ?_
        exact h
    · replace h := h.2 hc
      refine mV_lload_n (k := 3) (by decide +kernel) rfl ?_
      refine mV_aload_n (k := 0) (by decide +kernel) rfl ?_
      refine mV_gfr (r := some 2) (by decide +kernel) fk_10_9 sh_1 (mm_rrs st_1_0) rfl ?_
      refine mV_iload (i := 5) (by decide +kernel) rfl ?_
      refine mV_ialx (x := mg_i G2 2 v5.toNatClampNeg) (by decide +kernel) sh_2 h.1 rfl ?_
      replace h := h.2
      refine mV_cS (as := [.long v3, .int (mg_i G2 2 v5.toNatClampNeg)]) (rest := []) (mc1 := 0) (ms1 := 0) (mc := 0) (ms := 0) (by decide +kernel) md_X10_spelled lk_10_40 rfl rfl (Nat.le_of_ble_eq_true rfl) (mC.mono (mm_contL (fun r3 G4 hK => ?_)) h)
      replace h := hK
      refine mV_lstore_n (k := 3) (ls' := [some (.ref 1), some (.int v1), some (.int v2), some (.long r3), none, some (.int v5), none]) (by decide +kernel) (Nat.le_of_ble_eq_true rfl) rfl rfl ?_
      refine mV_iincc (i := 5) (n := 1) (c := nI 1) (ls' := [some (.ref 1), some (.int v1), some (.int v2), some (.long r3), none, some (.int (v5 + (nI 1))), none]) (by decide +kernel) (by decide) rfl (Nat.le_of_ble_eq_true rfl) rfl rfl ?_
      refine mV_goto (off := -33) (tgt := 5) (by decide +kernel) (by decide) ?_
      exact h
set_option maxRecDepth 100000 in
set_option maxHeartbeats 4000000 in
theorem p_X10_scanLetters_71 {l : Launch} {κ : mm_K} {d : Nat} {G : mm_G} {K : Int32 → mm_G → Prop} (v1 : Int32) (v2 : Int32) (v3 : Int64) (v5 : Int32) (v6 : Int32) (h : (((nI 20) ≤ v6 → K v5 G) ∧ (¬ (nI 20) ≤ v6 → vp_in v1 401 ∧ ((¬ (mg_i G 3 v1.toNatClampNeg) = (nI 2) → K v5 G) ∧ ((mg_i G 3 v1.toNatClampNeg) = (nI 2) → vp_in v6 20 ∧ ((¬ (lg_cmp (mg_l G 6 v6.toNatClampNeg) v3) = 0 → mV l κ true (d + 1) 0 0 m_X10_scanLetters 71 [some (.ref 1), some (.int v1), some (.int v2), some (.long v3), none, some (.int v5), some (.int (v6 + (nI 1)))] [] G (rI K)) ∧ ((lg_cmp (mg_l G 6 v6.toNatClampNeg) v3) = 0 → vp_in v1 401 ∧ mV l κ true (d + 1) 0 0 m_X10_scanLetters 71 [some (.ref 1), some (.int v1), some (.int v2), some (.long v3), none, some (.int v5), some (.int (v6 + (nI 1)))] [] (ms_i G 3 v1.toNatClampNeg ((nI 20) + v6)) (rI K)))))))) : mV l κ true (d + 1) 0 0 m_X10_scanLetters 71 [some (.ref 1), some (.int v1), some (.int v2), some (.long v3), none, some (.int v5), some (.int v6)] [] G (rI K) := by
  refine mV_iload (i := 6) (by decide +kernel) rfl ?_
  refine mV_bipush (n := 20) (v := nI 20) (by decide +kernel) (by decide) ?_
  refine mV_icmp_ge (off := 42) (tgt := 117) (by decide +kernel) (by decide) (fun hc => ?_) (fun hc => ?_)
  · replace h := h.1 hc
    refine mV_iload (i := 5) (by decide +kernel) rfl ?_
    exact mV_iret (by decide +kernel) rfl h
  · replace h := h.2 hc
    refine mV_aload_n (k := 0) (by decide +kernel) rfl ?_
    refine mV_gfr (r := some 3) (by decide +kernel) fk_10_15 sh_1 (mm_rrs st_1_1) rfl ?_
    refine mV_iload_n (k := 1) (by decide +kernel) rfl ?_
    refine mV_ialx (x := mg_i G 3 v1.toNatClampNeg) (by decide +kernel) sh_3 h.1 rfl ?_
    replace h := h.2
    refine mV_iconst (n := 2) (v := nI 2) (by decide +kernel) (by decide) ?_
    refine mV_icmp_ne (off := 32) (tgt := 117) (by decide +kernel) (by decide) (fun hc => ?_) (fun hc => ?_)
    · replace h := h.1 hc
      refine mV_iload (i := 5) (by decide +kernel) rfl ?_
      exact mV_iret (by decide +kernel) rfl h
    · replace h := h.2 hc
      refine mV_aload_n (k := 0) (by decide +kernel) rfl ?_
      refine mV_gfr (r := some 6) (by decide +kernel) fk_10_25 sh_1 (mm_rrs st_1_5) rfl ?_
      refine mV_iload (i := 6) (by decide +kernel) rfl ?_
      refine mV_lalx (x := mg_l G 6 v6.toNatClampNeg) (by decide +kernel) sh_6 h.1 rfl ?_
      replace h := h.2
      refine mV_lload_n (k := 3) (by decide +kernel) rfl ?_
      refine mV_lcmp (by decide +kernel) ?_
      refine mV_if_ne (off := 14) (tgt := 111) (by decide +kernel) (by decide) (fun hc => ?_) (fun hc => ?_)
      · replace h := h.1 hc
        refine mV_iincc (i := 6) (n := 1) (c := nI 1) (ls' := [some (.ref 1), some (.int v1), some (.int v2), some (.long v3), none, some (.int v5), some (.int (v6 + (nI 1)))]) (by decide +kernel) (by decide) rfl (Nat.le_of_ble_eq_true rfl) rfl rfl ?_
        refine mV_goto (off := -43) (tgt := 71) (by decide +kernel) (by decide) ?_
        exact h
      · replace h := h.2 hc
        refine mV_aload_n (k := 0) (by decide +kernel) rfl ?_
        refine mV_gfr (r := some 3) (by decide +kernel) fk_10_15 sh_1 (mm_rrs st_1_1) rfl ?_
        refine mV_iload_n (k := 1) (by decide +kernel) rfl ?_
        refine mV_bipush (n := 20) (v := nI 20) (by decide +kernel) (by decide) ?_
        refine mV_iload (i := 6) (by decide +kernel) rfl ?_
        refine mV_iadd (by decide +kernel) ?_
        refine mV_ias (by decide +kernel) sh_3 h.1 ?_
        replace h := h.2
        refine mV_iincc (i := 6) (n := 1) (c := nI 1) (ls' := [some (.ref 1), some (.int v1), some (.int v2), some (.long v3), none, some (.int v5), some (.int (v6 + (nI 1)))]) (by decide +kernel) (by decide) rfl (Nat.le_of_ble_eq_true rfl) rfl rfl ?_
        refine mV_goto (off := -43) (tgt := 71) (by decide +kernel) (by decide) ?_
        exact h
set_option maxRecDepth 100000 in
set_option maxHeartbeats 4000000 in
theorem e_X10_scanDigits {l : Launch} {κ : mm_K} {d : Nat} {G : mm_G} {K : Int32 → mm_G → Prop} (a1 : Int32) (a2 : Int32) (h : mV l κ true (d + 1) 0 0 m_X10_scanDigits 5 [some (.ref 1), some (.int a1), some (.int a2), some (.int (nI 0)), some (.int a2)] [] G (rI K)) : mC l κ true (d + 1) 0 0 m_X10_scanDigits [.ref 1, .int a1, .int a2] G (rI K) := by
  refine mC.of (by decide) (Nat.le_of_ble_eq_true rfl) [some (.ref 1), some (.int a1), some (.int a2), none, none] rfl ?_
  refine mV_iconst (n := 0) (v := nI 0) (by decide +kernel) (by decide) ?_
  refine mV_istore_n (k := 3) (ls' := [some (.ref 1), some (.int a1), some (.int a2), some (.int (nI 0)), none]) (by decide +kernel) (Nat.le_of_ble_eq_true rfl) rfl rfl ?_
  refine mV_iload_n (k := 2) (by decide +kernel) rfl ?_
  refine mV_istore (i := 4) (ls' := [some (.ref 1), some (.int a1), some (.int a2), some (.int (nI 0)), some (.int a2)]) (by decide +kernel) (Nat.le_of_ble_eq_true rfl) rfl rfl ?_
  exact h
set_option maxRecDepth 100000 in
set_option maxHeartbeats 4000000 in
theorem p_X10_scanDigits_5 {l : Launch} {κ : mm_K} {d : Nat} {G : mm_G} {K : Int32 → mm_G → Prop} (v1 : Int32) (v2 : Int32) (v3 : Int32) (v4 : Int32) (h : (((mg_i G 1 4) ≤ v4 → vp_in v1 401 ∧ (((v4 - v2) ≤ (nI 4) → vp_in v1 401 ∧ K v4 (ms_i (ms_l G 5 v1.toNatClampNeg v3.toInt64) 3 v1.toNatClampNeg (nI 3))) ∧ (¬ (v4 - v2) ≤ (nI 4) → vp_in v1 401 ∧ K v4 (ms_i (ms_l G 5 v1.toNatClampNeg v3.toInt64) 3 v1.toNatClampNeg (nI 1))))) ∧ (¬ (mg_i G 1 4) ≤ v4 → mC l κ true d 0 0 m_X10_isDigit [.ref 1, .int v4] G (rI (fun r1 G2 => ((r1 = 0 → vp_in v1 401 ∧ (((v4 - v2) ≤ (nI 4) → vp_in v1 401 ∧ K v4 (ms_i (ms_l G2 5 v1.toNatClampNeg v3.toInt64) 3 v1.toNatClampNeg (nI 3))) ∧ (¬ (v4 - v2) ≤ (nI 4) → vp_in v1 401 ∧ K v4 (ms_i (ms_l G2 5 v1.toNatClampNeg v3.toInt64) 3 v1.toNatClampNeg (nI 1))))) ∧ (¬ r1 = 0 → vp_in v4 2000 ∧ mV l κ true (d + 1) 0 0 m_X10_scanDigits 5 [some (.ref 1), some (.int v1), some (.int v2), some (.int (((v3 * (nI 10)) + (mg_i G2 2 v4.toNatClampNeg)) - (nI 48))), some (.int (v4 + (nI 1)))] [] G2 (rI K)))))))) : mV l κ true (d + 1) 0 0 m_X10_scanDigits 5 [some (.ref 1), some (.int v1), some (.int v2), some (.int v3), some (.int v4)] [] G (rI K) := by
  refine mV_iload (i := 4) (by decide +kernel) rfl ?_
  refine mV_aload_n (k := 0) (by decide +kernel) rfl ?_
  refine mV_gfix (x := mg_i G 1 4) (by decide +kernel) fk_10_44 sh_1 rfl ?_
  refine mV_icmp_ge (off := 34) (tgt := 45) (by decide +kernel) (by decide) (fun hc => ?_) (fun hc => ?_)
  · replace h := h.1 hc
    refine mV_aload_n (k := 0) (by decide +kernel) rfl ?_
    refine mV_gfr (r := some 5) (by decide +kernel) fk_10_21 sh_1 (mm_rrs st_1_3) rfl ?_
    refine mV_iload_n (k := 1) (by decide +kernel) rfl ?_
    refine mV_iload_n (k := 3) (by decide +kernel) rfl ?_
    refine mV_i2l (by decide +kernel) ?_
    refine mV_las (by decide +kernel) sh_5 h.1 ?_
    replace h := h.2
    refine mV_aload_n (k := 0) (by decide +kernel) rfl ?_
    refine mV_gfr (r := some 3) (by decide +kernel) fk_10_15 sh_1 (mm_rrs st_1_1) rfl ?_
    refine mV_iload_n (k := 1) (by decide +kernel) rfl ?_
    refine mV_iload (i := 4) (by decide +kernel) rfl ?_
    refine mV_iload_n (k := 2) (by decide +kernel) rfl ?_
    refine mV_isub (by decide +kernel) ?_
    refine mV_iconst (n := 4) (v := nI 4) (by decide +kernel) (by decide) ?_
    refine mV_icmp_le (off := 7) (tgt := 70) (by decide +kernel) (by decide) (fun hc => ?_) (fun hc => ?_)
    · replace h := h.1 hc
      refine mV_iconst (n := 3) (v := nI 3) (by decide +kernel) (by decide) ?_
      refine mV_ias (by decide +kernel) sh_3 h.1 ?_
      replace h := h.2
      refine mV_iload (i := 4) (by decide +kernel) rfl ?_
      exact mV_iret (by decide +kernel) rfl h
    · replace h := h.2 hc
      refine mV_iconst (n := 1) (v := nI 1) (by decide +kernel) (by decide) ?_
      refine mV_goto (off := 4) (tgt := 71) (by decide +kernel) (by decide) ?_
      refine mV_ias (by decide +kernel) sh_3 h.1 ?_
      replace h := h.2
      refine mV_iload (i := 4) (by decide +kernel) rfl ?_
      exact mV_iret (by decide +kernel) rfl h
  · replace h := h.2 hc
    refine mV_aload_n (k := 0) (by decide +kernel) rfl ?_
    refine mV_iload (i := 4) (by decide +kernel) rfl ?_
    refine mV_cV (as := [.int v4]) (rest := []) (mc1 := 0) (ms1 := 0) (mc := 0) (ms := 0) (by decide +kernel) md_X10_isDigit lk_10_62 sh_1 rfl rfl rfl (Nat.le_of_ble_eq_true rfl) (mC.mono (mm_contI (fun r1 G2 hK => ?_)) h)
    replace h := hK
    refine mV_if_eq (off := 25) (tgt := 45) (by decide +kernel) (by decide) (fun hc => ?_) (fun hc => ?_)
    · replace h := h.1 hc
      refine mV_aload_n (k := 0) (by decide +kernel) rfl ?_
      refine mV_gfr (r := some 5) (by decide +kernel) fk_10_21 sh_1 (mm_rrs st_1_3) rfl ?_
      refine mV_iload_n (k := 1) (by decide +kernel) rfl ?_
      refine mV_iload_n (k := 3) (by decide +kernel) rfl ?_
      refine mV_i2l (by decide +kernel) ?_
      refine mV_las (by decide +kernel) sh_5 h.1 ?_
      replace h := h.2
      refine mV_aload_n (k := 0) (by decide +kernel) rfl ?_
      refine mV_gfr (r := some 3) (by decide +kernel) fk_10_15 sh_1 (mm_rrs st_1_1) rfl ?_
      refine mV_iload_n (k := 1) (by decide +kernel) rfl ?_
      refine mV_iload (i := 4) (by decide +kernel) rfl ?_
      refine mV_iload_n (k := 2) (by decide +kernel) rfl ?_
      refine mV_isub (by decide +kernel) ?_
      refine mV_iconst (n := 4) (v := nI 4) (by decide +kernel) (by decide) ?_
      refine mV_icmp_le (off := 7) (tgt := 70) (by decide +kernel) (by decide) (fun hc => ?_) (fun hc => ?_)
      · replace h := h.1 hc
        refine mV_iconst (n := 3) (v := nI 3) (by decide +kernel) (by decide) ?_
        refine mV_ias (by decide +kernel) sh_3 h.1 ?_
        replace h := h.2
        refine mV_iload (i := 4) (by decide +kernel) rfl ?_
        exact mV_iret (by decide +kernel) rfl h
      · replace h := h.2 hc
        refine mV_iconst (n := 1) (v := nI 1) (by decide +kernel) (by decide) ?_
        refine mV_goto (off := 4) (tgt := 71) (by decide +kernel) (by decide) ?_
        refine mV_ias (by decide +kernel) sh_3 h.1 ?_
        replace h := h.2
        refine mV_iload (i := 4) (by decide +kernel) rfl ?_
        exact mV_iret (by decide +kernel) rfl h
    · replace h := h.2 hc
      refine mV_iload_n (k := 3) (by decide +kernel) rfl ?_
      refine mV_bipush (n := 10) (v := nI 10) (by decide +kernel) (by decide) ?_
      refine mV_imul (by decide +kernel) ?_
      refine mV_aload_n (k := 0) (by decide +kernel) rfl ?_
      refine mV_gfr (r := some 2) (by decide +kernel) fk_10_9 sh_1 (mm_rrs st_1_0) rfl ?_
      refine mV_iload (i := 4) (by decide +kernel) rfl ?_
      refine mV_ialx (x := mg_i G2 2 v4.toNatClampNeg) (by decide +kernel) sh_2 h.1 rfl ?_
      replace h := h.2
      refine mV_iadd (by decide +kernel) ?_
      refine mV_bipush (n := 48) (v := nI 48) (by decide +kernel) (by decide) ?_
      refine mV_isub (by decide +kernel) ?_
      refine mV_istore_n (k := 3) (ls' := [some (.ref 1), some (.int v1), some (.int v2), some (.int (((v3 * (nI 10)) + (mg_i G2 2 v4.toNatClampNeg)) - (nI 48))), some (.int v4)]) (by decide +kernel) (Nat.le_of_ble_eq_true rfl) rfl rfl ?_
      refine mV_iincc (i := 4) (n := 1) (c := nI 1) (ls' := [some (.ref 1), some (.int v1), some (.int v2), some (.int (((v3 * (nI 10)) + (mg_i G2 2 v4.toNatClampNeg)) - (nI 48))), some (.int (v4 + (nI 1)))]) (by decide +kernel) (by decide) rfl (Nat.le_of_ble_eq_true rfl) rfl rfl ?_
      refine mV_goto (off := -37) (tgt := 5) (by decide +kernel) (by decide) ?_
      exact h
set_option maxRecDepth 100000 in
set_option maxHeartbeats 4000000 in
theorem e_X10_scanSign {l : Launch} {κ : mm_K} {d : Nat} {G : mm_G} {K : Int32 → mm_G → Prop} (a1 : Int32) (a2 : Int32) (h : (((mg_i G 1 4) ≤ (a2 + (nI 1)) → mV l κ true d 0 0 m_X10_scanSign 29 [some (.ref 1), some (.int a1), some (.int a2), some (.int (nI 0))] [] G (rI K)) ∧ (¬ (mg_i G 1 4) ≤ (a2 + (nI 1)) → vp_in (a2 + (nI 1)) 2000 ∧ ((¬ (mg_i G 2 ((a2 + (nI 1)).toNatClampNeg)) = (nI 61) → mV l κ true d 0 0 m_X10_scanSign 29 [some (.ref 1), some (.int a1), some (.int a2), some (.int (nI 0))] [] G (rI K)) ∧ ((mg_i G 2 ((a2 + (nI 1)).toNatClampNeg)) = (nI 61) → mV l κ true d 0 0 m_X10_scanSign 29 [some (.ref 1), some (.int a1), some (.int a2), some (.int (nI 1))] [] G (rI K)))))) : mC l κ true d 0 0 m_X10_scanSign [.ref 1, .int a1, .int a2] G (rI K) := by
  refine mC.of (by decide) (Nat.le_of_ble_eq_true rfl) [some (.ref 1), some (.int a1), some (.int a2), none] rfl ?_
  refine mV_iload_n (k := 2) (by decide +kernel) rfl ?_
  refine mV_iconst (n := 1) (v := nI 1) (by decide +kernel) (by decide) ?_
  refine mV_iadd (by decide +kernel) ?_
  refine mV_aload_n (k := 0) (by decide +kernel) rfl ?_
  refine mV_gfix (x := mg_i G 1 4) (by decide +kernel) fk_10_44 sh_1 rfl ?_
  refine mV_icmp_ge (off := 20) (tgt := 27) (by decide +kernel) (by decide) (fun hc => ?_) (fun hc => ?_)
  · replace h := h.1 hc
    refine mV_iconst (n := 0) (v := nI 0) (by decide +kernel) (by decide) ?_
    refine mV_istore_n (k := 3) (ls' := [some (.ref 1), some (.int a1), some (.int a2), some (.int (nI 0))]) (by decide +kernel) (Nat.le_of_ble_eq_true rfl) rfl rfl ?_
    exact h
  · replace h := h.2 hc
    refine mV_aload_n (k := 0) (by decide +kernel) rfl ?_
    refine mV_gfr (r := some 2) (by decide +kernel) fk_10_9 sh_1 (mm_rrs st_1_0) rfl ?_
    refine mV_iload_n (k := 2) (by decide +kernel) rfl ?_
    refine mV_iconst (n := 1) (v := nI 1) (by decide +kernel) (by decide) ?_
    refine mV_iadd (by decide +kernel) ?_
    refine mV_ialx (x := mg_i G 2 ((a2 + (nI 1)).toNatClampNeg)) (by decide +kernel) sh_2 h.1 rfl ?_
    replace h := h.2
    refine mV_bipush (n := 61) (v := nI 61) (by decide +kernel) (by decide) ?_
    refine mV_icmp_ne (off := 7) (tgt := 27) (by decide +kernel) (by decide) (fun hc => ?_) (fun hc => ?_)
    · replace h := h.1 hc
      refine mV_iconst (n := 0) (v := nI 0) (by decide +kernel) (by decide) ?_
      refine mV_istore_n (k := 3) (ls' := [some (.ref 1), some (.int a1), some (.int a2), some (.int (nI 0))]) (by decide +kernel) (Nat.le_of_ble_eq_true rfl) rfl rfl ?_
      exact h
    · replace h := h.2 hc
      refine mV_iconst (n := 1) (v := nI 1) (by decide +kernel) (by decide) ?_
      refine mV_goto (off := 4) (tgt := 28) (by decide +kernel) (by decide) ?_
      refine mV_istore_n (k := 3) (ls' := [some (.ref 1), some (.int a1), some (.int a2), some (.int (nI 1))]) (by decide +kernel) (Nat.le_of_ble_eq_true rfl) rfl rfl ?_
      exact h
set_option maxRecDepth 100000 in
set_option maxHeartbeats 4000000 in
theorem p_X10_scanSign_29 {l : Launch} {κ : mm_K} {d : Nat} {G : mm_G} {K : Int32 → mm_G → Prop} (v1 : Int32) (v2 : Int32) (v3 : Int32) (h : vp_in v2 2000 ∧ (((mg_i G 2 v2.toNatClampNeg) = nI 33 → ((v3 = 0 → vp_in v1 401 ∧ K (v2 + (nI 2)) (ms_i G 3 v1.toNatClampNeg (nI 1))) ∧ (¬ v3 = 0 → vp_in v1 401 ∧ K (v2 + (nI 2)) (ms_i G 3 v1.toNatClampNeg (nI 11))))) ∧ ((mg_i G 2 v2.toNatClampNeg) = nI 45 → vp_in v1 401 ∧ K (v2 + (nI 1)) (ms_i G 3 v1.toNatClampNeg (nI 8))) ∧ ((mg_i G 2 v2.toNatClampNeg) = nI 58 → vp_in v1 401 ∧ K (v2 + (nI 1)) (ms_i G 3 v1.toNatClampNeg (nI 5))) ∧ ((mg_i G 2 v2.toNatClampNeg) = nI 59 → vp_in v1 401 ∧ K (v2 + (nI 1)) (ms_i G 3 v1.toNatClampNeg (nI 4))) ∧ ((mg_i G 2 v2.toNatClampNeg) = nI 60 → ((v3 = 0 → vp_in v1 401 ∧ ((v3 = 0 → K (v2 + (nI 1)) (ms_i G 3 v1.toNatClampNeg ((nI 10) + (nI 2)))) ∧ (¬ v3 = 0 → K (v2 + (nI 2)) (ms_i G 3 v1.toNatClampNeg ((nI 10) + (nI 2)))))) ∧ (¬ v3 = 0 → vp_in v1 401 ∧ ((v3 = 0 → K (v2 + (nI 1)) (ms_i G 3 v1.toNatClampNeg ((nI 10) + (nI 3)))) ∧ (¬ v3 = 0 → K (v2 + (nI 2)) (ms_i G 3 v1.toNatClampNeg ((nI 10) + (nI 3)))))))) ∧ ((mg_i G 2 v2.toNatClampNeg) = nI 61 → ((v3 = 0 → vp_in v1 401 ∧ K (v2 + (nI 2)) (ms_i G 3 v1.toNatClampNeg (nI 1))) ∧ (¬ v3 = 0 → vp_in v1 401 ∧ K (v2 + (nI 2)) (ms_i G 3 v1.toNatClampNeg (nI 10))))) ∧ ((mg_i G 2 v2.toNatClampNeg) = nI 123 → vp_in v1 401 ∧ K (v2 + (nI 1)) (ms_i G 3 v1.toNatClampNeg (nI 6))) ∧ ((mg_i G 2 v2.toNatClampNeg) = nI 125 → vp_in v1 401 ∧ K (v2 + (nI 1)) (ms_i G 3 v1.toNatClampNeg (nI 7))) ∧ ((¬ (mg_i G 2 v2.toNatClampNeg) = nI 33 ∧ ¬ (mg_i G 2 v2.toNatClampNeg) = nI 45 ∧ ¬ (mg_i G 2 v2.toNatClampNeg) = nI 58 ∧ ¬ (mg_i G 2 v2.toNatClampNeg) = nI 59 ∧ ¬ (mg_i G 2 v2.toNatClampNeg) = nI 60 ∧ ¬ (mg_i G 2 v2.toNatClampNeg) = nI 61 ∧ ¬ (mg_i G 2 v2.toNatClampNeg) = nI 123 ∧ ¬ (mg_i G 2 v2.toNatClampNeg) = nI 125) → vp_in v1 401 ∧ K (v2 + (nI 1)) (ms_i G 3 v1.toNatClampNeg (nI 1))))) : mV l κ true d 0 0 m_X10_scanSign 29 [some (.ref 1), some (.int v1), some (.int v2), some (.int v3)] [] G (rI K) := by
  refine mV_aload_n (k := 0) (by decide +kernel) rfl ?_
  refine mV_gfr (r := some 2) (by decide +kernel) fk_10_9 sh_1 (mm_rrs st_1_0) rfl ?_
  refine mV_iload_n (k := 2) (by decide +kernel) rfl ?_
  refine mV_ialx (x := mg_i G 2 v2.toNatClampNeg) (by decide +kernel) sh_2 h.1 rfl ?_
  replace h := h.2
  by_cases hk33 : (mg_i G 2 v2.toNatClampNeg) = nI 33
  · replace h := h.1 hk33
    refine mV_lookup (dflt := 203) (ps := #[(33, 183), (45, 119), (58, 84), (59, 73), (60, 131), (61, 163), (123, 95), (125, 107)]) (len := 73) (off := 183) (tgt := 218) (by decide +kernel) (by decide) (by rw [hk33]; decide) (by decide) ?_
    refine mV_aload_n (k := 0) (by decide +kernel) rfl ?_
    refine mV_gfr (r := some 3) (by decide +kernel) fk_10_15 sh_1 (mm_rrs st_1_1) rfl ?_
    refine mV_iload_n (k := 1) (by decide +kernel) rfl ?_
    refine mV_iload_n (k := 3) (by decide +kernel) rfl ?_
    refine mV_if_eq (off := 8) (tgt := 232) (by decide +kernel) (by decide) (fun hc => ?_) (fun hc => ?_)
    · replace h := h.1 hc
      refine mV_iconst (n := 1) (v := nI 1) (by decide +kernel) (by decide) ?_
      refine mV_ias (by decide +kernel) sh_3 h.1 ?_
      replace h := h.2
      refine mV_iload_n (k := 2) (by decide +kernel) rfl ?_
      refine mV_iconst (n := 2) (v := nI 2) (by decide +kernel) (by decide) ?_
      refine mV_iadd (by decide +kernel) ?_
      exact mV_iret (by decide +kernel) rfl h
    · replace h := h.2 hc
      refine mV_bipush (n := 11) (v := nI 11) (by decide +kernel) (by decide) ?_
      refine mV_goto (off := 4) (tgt := 233) (by decide +kernel) (by decide) ?_
      refine mV_ias (by decide +kernel) sh_3 h.1 ?_
      replace h := h.2
      refine mV_iload_n (k := 2) (by decide +kernel) rfl ?_
      refine mV_iconst (n := 2) (v := nI 2) (by decide +kernel) (by decide) ?_
      refine mV_iadd (by decide +kernel) ?_
      exact mV_iret (by decide +kernel) rfl h
  by_cases hk45 : (mg_i G 2 v2.toNatClampNeg) = nI 45
  · replace h := h.2.1 hk45
    refine mV_lookup (dflt := 203) (ps := #[(33, 183), (45, 119), (58, 84), (59, 73), (60, 131), (61, 163), (123, 95), (125, 107)]) (len := 73) (off := 119) (tgt := 154) (by decide +kernel) (by decide) (by rw [hk45]; decide) (by decide) ?_
    refine mV_aload_n (k := 0) (by decide +kernel) rfl ?_
    refine mV_gfr (r := some 3) (by decide +kernel) fk_10_15 sh_1 (mm_rrs st_1_1) rfl ?_
    refine mV_iload_n (k := 1) (by decide +kernel) rfl ?_
    refine mV_bipush (n := 8) (v := nI 8) (by decide +kernel) (by decide) ?_
    refine mV_ias (by decide +kernel) sh_3 h.1 ?_
    replace h := h.2
    refine mV_iload_n (k := 2) (by decide +kernel) rfl ?_
    refine mV_iconst (n := 1) (v := nI 1) (by decide +kernel) (by decide) ?_
    refine mV_iadd (by decide +kernel) ?_
    exact mV_iret (by decide +kernel) rfl h
  by_cases hk58 : (mg_i G 2 v2.toNatClampNeg) = nI 58
  · replace h := h.2.2.1 hk58
    refine mV_lookup (dflt := 203) (ps := #[(33, 183), (45, 119), (58, 84), (59, 73), (60, 131), (61, 163), (123, 95), (125, 107)]) (len := 73) (off := 84) (tgt := 119) (by decide +kernel) (by decide) (by rw [hk58]; decide) (by decide) ?_
    refine mV_aload_n (k := 0) (by decide +kernel) rfl ?_
    refine mV_gfr (r := some 3) (by decide +kernel) fk_10_15 sh_1 (mm_rrs st_1_1) rfl ?_
    refine mV_iload_n (k := 1) (by decide +kernel) rfl ?_
    refine mV_iconst (n := 5) (v := nI 5) (by decide +kernel) (by decide) ?_
    refine mV_ias (by decide +kernel) sh_3 h.1 ?_
    replace h := h.2
    refine mV_iload_n (k := 2) (by decide +kernel) rfl ?_
    refine mV_iconst (n := 1) (v := nI 1) (by decide +kernel) (by decide) ?_
    refine mV_iadd (by decide +kernel) ?_
    exact mV_iret (by decide +kernel) rfl h
  by_cases hk59 : (mg_i G 2 v2.toNatClampNeg) = nI 59
  · replace h := h.2.2.2.1 hk59
    refine mV_lookup (dflt := 203) (ps := #[(33, 183), (45, 119), (58, 84), (59, 73), (60, 131), (61, 163), (123, 95), (125, 107)]) (len := 73) (off := 73) (tgt := 108) (by decide +kernel) (by decide) (by rw [hk59]; decide) (by decide) ?_
    refine mV_aload_n (k := 0) (by decide +kernel) rfl ?_
    refine mV_gfr (r := some 3) (by decide +kernel) fk_10_15 sh_1 (mm_rrs st_1_1) rfl ?_
    refine mV_iload_n (k := 1) (by decide +kernel) rfl ?_
    refine mV_iconst (n := 4) (v := nI 4) (by decide +kernel) (by decide) ?_
    refine mV_ias (by decide +kernel) sh_3 h.1 ?_
    replace h := h.2
    refine mV_iload_n (k := 2) (by decide +kernel) rfl ?_
    refine mV_iconst (n := 1) (v := nI 1) (by decide +kernel) (by decide) ?_
    refine mV_iadd (by decide +kernel) ?_
    exact mV_iret (by decide +kernel) rfl h
  by_cases hk60 : (mg_i G 2 v2.toNatClampNeg) = nI 60
  · replace h := h.2.2.2.2.1 hk60
    refine mV_lookup (dflt := 203) (ps := #[(33, 183), (45, 119), (58, 84), (59, 73), (60, 131), (61, 163), (123, 95), (125, 107)]) (len := 73) (off := 131) (tgt := 166) (by decide +kernel) (by decide) (by rw [hk60]; decide) (by decide) ?_
    refine mV_aload_n (k := 0) (by decide +kernel) rfl ?_
    refine mV_gfr (r := some 3) (by decide +kernel) fk_10_15 sh_1 (mm_rrs st_1_1) rfl ?_
    refine mV_iload_n (k := 1) (by decide +kernel) rfl ?_
    refine mV_bipush (n := 10) (v := nI 10) (by decide +kernel) (by decide) ?_
    refine mV_iload_n (k := 3) (by decide +kernel) rfl ?_
    refine mV_if_eq (off := 7) (tgt := 181) (by decide +kernel) (by decide) (fun hc => ?_) (fun hc => ?_)
    · replace h := h.1 hc
      refine mV_iconst (n := 2) (v := nI 2) (by decide +kernel) (by decide) ?_
      refine mV_iadd (by decide +kernel) ?_
      refine mV_ias (by decide +kernel) sh_3 h.1 ?_
      replace h := h.2
      refine mV_iload_n (k := 3) (by decide +kernel) rfl ?_
      refine mV_if_eq (off := 9) (tgt := 194) (by decide +kernel) (by decide) (fun hc => ?_) (fun hc => ?_)
      · replace h := h.1 hc
        refine mV_iload_n (k := 2) (by decide +kernel) rfl ?_
        refine mV_iconst (n := 1) (v := nI 1) (by decide +kernel) (by decide) ?_
        refine mV_iadd (by decide +kernel) ?_
        exact mV_iret (by decide +kernel) rfl h
      · replace h := h.2 hc
        refine mV_iload_n (k := 2) (by decide +kernel) rfl ?_
        refine mV_iconst (n := 2) (v := nI 2) (by decide +kernel) (by decide) ?_
        refine mV_iadd (by decide +kernel) ?_
        refine mV_goto (off := 6) (tgt := 197) (by decide +kernel) (by decide) ?_
        exact mV_iret (by decide +kernel) rfl h
    · replace h := h.2 hc
      refine mV_iconst (n := 3) (v := nI 3) (by decide +kernel) (by decide) ?_
      refine mV_goto (off := 4) (tgt := 182) (by decide +kernel) (by decide) ?_
      refine mV_iadd (by decide +kernel) ?_
      refine mV_ias (by decide +kernel) sh_3 h.1 ?_
      replace h := h.2
      refine mV_iload_n (k := 3) (by decide +kernel) rfl ?_
      refine mV_if_eq (off := 9) (tgt := 194) (by decide +kernel) (by decide) (fun hc => ?_) (fun hc => ?_)
      · replace h := h.1 hc
        refine mV_iload_n (k := 2) (by decide +kernel) rfl ?_
        refine mV_iconst (n := 1) (v := nI 1) (by decide +kernel) (by decide) ?_
        refine mV_iadd (by decide +kernel) ?_
        exact mV_iret (by decide +kernel) rfl h
      · replace h := h.2 hc
        refine mV_iload_n (k := 2) (by decide +kernel) rfl ?_
        refine mV_iconst (n := 2) (v := nI 2) (by decide +kernel) (by decide) ?_
        refine mV_iadd (by decide +kernel) ?_
        refine mV_goto (off := 6) (tgt := 197) (by decide +kernel) (by decide) ?_
        exact mV_iret (by decide +kernel) rfl h
  by_cases hk61 : (mg_i G 2 v2.toNatClampNeg) = nI 61
  · replace h := h.2.2.2.2.2.1 hk61
    refine mV_lookup (dflt := 203) (ps := #[(33, 183), (45, 119), (58, 84), (59, 73), (60, 131), (61, 163), (123, 95), (125, 107)]) (len := 73) (off := 163) (tgt := 198) (by decide +kernel) (by decide) (by rw [hk61]; decide) (by decide) ?_
    refine mV_aload_n (k := 0) (by decide +kernel) rfl ?_
    refine mV_gfr (r := some 3) (by decide +kernel) fk_10_15 sh_1 (mm_rrs st_1_1) rfl ?_
    refine mV_iload_n (k := 1) (by decide +kernel) rfl ?_
    refine mV_iload_n (k := 3) (by decide +kernel) rfl ?_
    refine mV_if_eq (off := 8) (tgt := 212) (by decide +kernel) (by decide) (fun hc => ?_) (fun hc => ?_)
    · replace h := h.1 hc
      refine mV_iconst (n := 1) (v := nI 1) (by decide +kernel) (by decide) ?_
      refine mV_ias (by decide +kernel) sh_3 h.1 ?_
      replace h := h.2
      refine mV_iload_n (k := 2) (by decide +kernel) rfl ?_
      refine mV_iconst (n := 2) (v := nI 2) (by decide +kernel) (by decide) ?_
      refine mV_iadd (by decide +kernel) ?_
      exact mV_iret (by decide +kernel) rfl h
    · replace h := h.2 hc
      refine mV_bipush (n := 10) (v := nI 10) (by decide +kernel) (by decide) ?_
      refine mV_goto (off := 4) (tgt := 213) (by decide +kernel) (by decide) ?_
      refine mV_ias (by decide +kernel) sh_3 h.1 ?_
      replace h := h.2
      refine mV_iload_n (k := 2) (by decide +kernel) rfl ?_
      refine mV_iconst (n := 2) (v := nI 2) (by decide +kernel) (by decide) ?_
      refine mV_iadd (by decide +kernel) ?_
      exact mV_iret (by decide +kernel) rfl h
  by_cases hk123 : (mg_i G 2 v2.toNatClampNeg) = nI 123
  · replace h := h.2.2.2.2.2.2.1 hk123
    refine mV_lookup (dflt := 203) (ps := #[(33, 183), (45, 119), (58, 84), (59, 73), (60, 131), (61, 163), (123, 95), (125, 107)]) (len := 73) (off := 95) (tgt := 130) (by decide +kernel) (by decide) (by rw [hk123]; decide) (by decide) ?_
    refine mV_aload_n (k := 0) (by decide +kernel) rfl ?_
    refine mV_gfr (r := some 3) (by decide +kernel) fk_10_15 sh_1 (mm_rrs st_1_1) rfl ?_
    refine mV_iload_n (k := 1) (by decide +kernel) rfl ?_
    refine mV_bipush (n := 6) (v := nI 6) (by decide +kernel) (by decide) ?_
    refine mV_ias (by decide +kernel) sh_3 h.1 ?_
    replace h := h.2
    refine mV_iload_n (k := 2) (by decide +kernel) rfl ?_
    refine mV_iconst (n := 1) (v := nI 1) (by decide +kernel) (by decide) ?_
    refine mV_iadd (by decide +kernel) ?_
    exact mV_iret (by decide +kernel) rfl h
  by_cases hk125 : (mg_i G 2 v2.toNatClampNeg) = nI 125
  · replace h := h.2.2.2.2.2.2.2.1 hk125
    refine mV_lookup (dflt := 203) (ps := #[(33, 183), (45, 119), (58, 84), (59, 73), (60, 131), (61, 163), (123, 95), (125, 107)]) (len := 73) (off := 107) (tgt := 142) (by decide +kernel) (by decide) (by rw [hk125]; decide) (by decide) ?_
    refine mV_aload_n (k := 0) (by decide +kernel) rfl ?_
    refine mV_gfr (r := some 3) (by decide +kernel) fk_10_15 sh_1 (mm_rrs st_1_1) rfl ?_
    refine mV_iload_n (k := 1) (by decide +kernel) rfl ?_
    refine mV_bipush (n := 7) (v := nI 7) (by decide +kernel) (by decide) ?_
    refine mV_ias (by decide +kernel) sh_3 h.1 ?_
    replace h := h.2
    refine mV_iload_n (k := 2) (by decide +kernel) rfl ?_
    refine mV_iconst (n := 1) (v := nI 1) (by decide +kernel) (by decide) ?_
    refine mV_iadd (by decide +kernel) ?_
    exact mV_iret (by decide +kernel) rfl h
  replace h := h.2.2.2.2.2.2.2.2 ⟨hk33, hk45, hk58, hk59, hk60, hk61, hk123, hk125⟩
  refine mV_lookup (dflt := 203) (ps := #[(33, 183), (45, 119), (58, 84), (59, 73), (60, 131), (61, 163), (123, 95), (125, 107)]) (len := 73) (off := 203) (tgt := 238) (by decide +kernel) (by decide) (by simp [Op.lookupswitch.offset, show ¬ (33 : Int) = (mg_i G 2 v2.toNatClampNeg).toInt from fun e => hk33 (mm_eqI (k := 33) e.symm (by decide)), show ¬ (45 : Int) = (mg_i G 2 v2.toNatClampNeg).toInt from fun e => hk45 (mm_eqI (k := 45) e.symm (by decide)), show ¬ (58 : Int) = (mg_i G 2 v2.toNatClampNeg).toInt from fun e => hk58 (mm_eqI (k := 58) e.symm (by decide)), show ¬ (59 : Int) = (mg_i G 2 v2.toNatClampNeg).toInt from fun e => hk59 (mm_eqI (k := 59) e.symm (by decide)), show ¬ (60 : Int) = (mg_i G 2 v2.toNatClampNeg).toInt from fun e => hk60 (mm_eqI (k := 60) e.symm (by decide)), show ¬ (61 : Int) = (mg_i G 2 v2.toNatClampNeg).toInt from fun e => hk61 (mm_eqI (k := 61) e.symm (by decide)), show ¬ (123 : Int) = (mg_i G 2 v2.toNatClampNeg).toInt from fun e => hk123 (mm_eqI (k := 123) e.symm (by decide)), show ¬ (125 : Int) = (mg_i G 2 v2.toNatClampNeg).toInt from fun e => hk125 (mm_eqI (k := 125) e.symm (by decide))]) (by decide) ?_
  refine mV_aload_n (k := 0) (by decide +kernel) rfl ?_
  refine mV_gfr (r := some 3) (by decide +kernel) fk_10_15 sh_1 (mm_rrs st_1_1) rfl ?_
  refine mV_iload_n (k := 1) (by decide +kernel) rfl ?_
  refine mV_iconst (n := 1) (v := nI 1) (by decide +kernel) (by decide) ?_
  refine mV_ias (by decide +kernel) sh_3 h.1 ?_
  replace h := h.2
  refine mV_iload_n (k := 2) (by decide +kernel) rfl ?_
  refine mV_iconst (n := 1) (v := nI 1) (by decide +kernel) (by decide) ?_
  refine mV_iadd (by decide +kernel) ?_
  exact mV_iret (by decide +kernel) rfl h
set_option maxRecDepth 100000 in
set_option maxHeartbeats 4000000 in
theorem e_X10_pastBlanks {l : Launch} {κ : mm_K} {d : Nat} {G : mm_G} {K : Int32 → mm_G → Prop} (a1 : Int32) (h : mV l κ true (d + 1) 0 0 m_X10_pastBlanks 2 [some (.ref 1), some (.int a1), some (.int a1)] [] G (rI K)) : mC l κ true (d + 1) 0 0 m_X10_pastBlanks [.ref 1, .int a1] G (rI K) := by
  refine mC.of (by decide) (Nat.le_of_ble_eq_true rfl) [some (.ref 1), some (.int a1), none] rfl ?_
  refine mV_iload_n (k := 1) (by decide +kernel) rfl ?_
  refine mV_istore_n (k := 2) (ls' := [some (.ref 1), some (.int a1), some (.int a1)]) (by decide +kernel) (Nat.le_of_ble_eq_true rfl) rfl rfl ?_
  exact h
set_option maxRecDepth 100000 in
set_option maxHeartbeats 4000000 in
theorem p_X10_pastBlanks_2 {l : Launch} {κ : mm_K} {d : Nat} {G : mm_G} {K : Int32 → mm_G → Prop} (v1 : Int32) (v2 : Int32) (h : (((mg_i G 1 4) ≤ v2 → K v2 G) ∧ (¬ (mg_i G 1 4) ≤ v2 → vp_in v2 2000 ∧ mC l κ true d 0 0 m_X10_isBlank [.int (mg_i G 2 v2.toNatClampNeg)] G (rI (fun r1 G2 => ((r1 = 0 → K v2 G2) ∧ (¬ r1 = 0 → mV l κ true (d + 1) 0 0 m_X10_pastBlanks 2 [some (.ref 1), some (.int v1), some (.int (v2 + (nI 1)))] [] G2 (rI K)))))))) : mV l κ true (d + 1) 0 0 m_X10_pastBlanks 2 [some (.ref 1), some (.int v1), some (.int v2)] [] G (rI K) := by
  refine mV_iload_n (k := 2) (by decide +kernel) rfl ?_
  refine mV_aload_n (k := 0) (by decide +kernel) rfl ?_
  refine mV_gfix (x := mg_i G 1 4) (by decide +kernel) fk_10_44 sh_1 rfl ?_
  refine mV_icmp_ge (off := 21) (tgt := 28) (by decide +kernel) (by decide) (fun hc => ?_) (fun hc => ?_)
  · replace h := h.1 hc
    refine mV_iload_n (k := 2) (by decide +kernel) rfl ?_
    exact mV_iret (by decide +kernel) rfl h
  · replace h := h.2 hc
    refine mV_aload_n (k := 0) (by decide +kernel) rfl ?_
    refine mV_gfr (r := some 2) (by decide +kernel) fk_10_9 sh_1 (mm_rrs st_1_0) rfl ?_
    refine mV_iload_n (k := 2) (by decide +kernel) rfl ?_
    refine mV_ialx (x := mg_i G 2 v2.toNatClampNeg) (by decide +kernel) sh_2 h.1 rfl ?_
    replace h := h.2
    refine mV_cS (as := [.int (mg_i G 2 v2.toNatClampNeg)]) (rest := []) (mc1 := 0) (ms1 := 0) (mc := 0) (ms := 0) (by decide +kernel) md_X10_isBlank lk_10_71 rfl rfl (Nat.le_of_ble_eq_true rfl) (mC.mono (mm_contI (fun r1 G2 hK => ?_)) h)
    replace h := hK
    refine mV_if_eq (off := 9) (tgt := 28) (by decide +kernel) (by decide) (fun hc => ?_) (fun hc => ?_)
    · replace h := h.1 hc
      refine mV_iload_n (k := 2) (by decide +kernel) rfl ?_
      exact mV_iret (by decide +kernel) rfl h
    · replace h := h.2 hc
      refine mV_iincc (i := 2) (n := 1) (c := nI 1) (ls' := [some (.ref 1), some (.int v1), some (.int (v2 + (nI 1)))]) (by decide +kernel) (by decide) rfl (Nat.le_of_ble_eq_true rfl) rfl rfl ?_
      refine mV_goto (off := -23) (tgt := 2) (by decide +kernel) (by decide) ?_
      exact h
set_option maxRecDepth 100000 in
set_option maxHeartbeats 4000000 in
theorem e_X10_isLetter {l : Launch} {κ : mm_K} {d : Nat} {G : mm_G} {K : Int32 → mm_G → Prop} (a1 : Int32) (h : vp_in a1 2000 ∧ (((mg_i G 2 a1.toNatClampNeg) < (nI 97) → K (nI 0) G) ∧ (¬ (mg_i G 2 a1.toNatClampNeg) < (nI 97) → vp_in a1 2000 ∧ (((nI 122) < (mg_i G 2 a1.toNatClampNeg) → K (nI 0) G) ∧ (¬ (nI 122) < (mg_i G 2 a1.toNatClampNeg) → K (nI 1) G))))) : mC l κ true d 0 0 m_X10_isLetter [.ref 1, .int a1] G (rI K) := by
  refine mC.of (by decide) (Nat.le_of_ble_eq_true rfl) [some (.ref 1), some (.int a1)] rfl ?_
  refine mV_aload_n (k := 0) (by decide +kernel) rfl ?_
  refine mV_gfr (r := some 2) (by decide +kernel) fk_10_9 sh_1 (mm_rrs st_1_0) rfl ?_
  refine mV_iload_n (k := 1) (by decide +kernel) rfl ?_
  refine mV_ialx (x := mg_i G 2 a1.toNatClampNeg) (by decide +kernel) sh_2 h.1 rfl ?_
  replace h := h.2
  refine mV_bipush (n := 97) (v := nI 97) (by decide +kernel) (by decide) ?_
  refine mV_icmp_lt (off := 18) (tgt := 26) (by decide +kernel) (by decide) (fun hc => ?_) (fun hc => ?_)
  · replace h := h.1 hc
    refine mV_iconst (n := 0) (v := nI 0) (by decide +kernel) (by decide) ?_
    exact mV_zret (by decide +kernel) rfl (by decide) h
  · replace h := h.2 hc
    refine mV_aload_n (k := 0) (by decide +kernel) rfl ?_
    refine mV_gfr (r := some 2) (by decide +kernel) fk_10_9 sh_1 (mm_rrs st_1_0) rfl ?_
    refine mV_iload_n (k := 1) (by decide +kernel) rfl ?_
    refine mV_ialx (x := mg_i G 2 a1.toNatClampNeg) (by decide +kernel) sh_2 h.1 rfl ?_
    replace h := h.2
    refine mV_bipush (n := 122) (v := nI 122) (by decide +kernel) (by decide) ?_
    refine mV_icmp_gt (off := 7) (tgt := 26) (by decide +kernel) (by decide) (fun hc => ?_) (fun hc => ?_)
    · replace h := h.1 hc
      refine mV_iconst (n := 0) (v := nI 0) (by decide +kernel) (by decide) ?_
      exact mV_zret (by decide +kernel) rfl (by decide) h
    · replace h := h.2 hc
      refine mV_iconst (n := 1) (v := nI 1) (by decide +kernel) (by decide) ?_
      refine mV_goto (off := 4) (tgt := 27) (by decide +kernel) (by decide) ?_
      exact mV_zret (by decide +kernel) rfl (by decide) h
set_option maxRecDepth 100000 in
set_option maxHeartbeats 4000000 in
theorem e_X10_isDigit {l : Launch} {κ : mm_K} {d : Nat} {G : mm_G} {K : Int32 → mm_G → Prop} (a1 : Int32) (h : vp_in a1 2000 ∧ (((mg_i G 2 a1.toNatClampNeg) < (nI 48) → K (nI 0) G) ∧ (¬ (mg_i G 2 a1.toNatClampNeg) < (nI 48) → vp_in a1 2000 ∧ (((nI 57) < (mg_i G 2 a1.toNatClampNeg) → K (nI 0) G) ∧ (¬ (nI 57) < (mg_i G 2 a1.toNatClampNeg) → K (nI 1) G))))) : mC l κ true d 0 0 m_X10_isDigit [.ref 1, .int a1] G (rI K) := by
  refine mC.of (by decide) (Nat.le_of_ble_eq_true rfl) [some (.ref 1), some (.int a1)] rfl ?_
  refine mV_aload_n (k := 0) (by decide +kernel) rfl ?_
  refine mV_gfr (r := some 2) (by decide +kernel) fk_10_9 sh_1 (mm_rrs st_1_0) rfl ?_
  refine mV_iload_n (k := 1) (by decide +kernel) rfl ?_
  refine mV_ialx (x := mg_i G 2 a1.toNatClampNeg) (by decide +kernel) sh_2 h.1 rfl ?_
  replace h := h.2
  refine mV_bipush (n := 48) (v := nI 48) (by decide +kernel) (by decide) ?_
  refine mV_icmp_lt (off := 18) (tgt := 26) (by decide +kernel) (by decide) (fun hc => ?_) (fun hc => ?_)
  · replace h := h.1 hc
    refine mV_iconst (n := 0) (v := nI 0) (by decide +kernel) (by decide) ?_
    exact mV_zret (by decide +kernel) rfl (by decide) h
  · replace h := h.2 hc
    refine mV_aload_n (k := 0) (by decide +kernel) rfl ?_
    refine mV_gfr (r := some 2) (by decide +kernel) fk_10_9 sh_1 (mm_rrs st_1_0) rfl ?_
    refine mV_iload_n (k := 1) (by decide +kernel) rfl ?_
    refine mV_ialx (x := mg_i G 2 a1.toNatClampNeg) (by decide +kernel) sh_2 h.1 rfl ?_
    replace h := h.2
    refine mV_bipush (n := 57) (v := nI 57) (by decide +kernel) (by decide) ?_
    refine mV_icmp_gt (off := 7) (tgt := 26) (by decide +kernel) (by decide) (fun hc => ?_) (fun hc => ?_)
    · replace h := h.1 hc
      refine mV_iconst (n := 0) (v := nI 0) (by decide +kernel) (by decide) ?_
      exact mV_zret (by decide +kernel) rfl (by decide) h
    · replace h := h.2 hc
      refine mV_iconst (n := 1) (v := nI 1) (by decide +kernel) (by decide) ?_
      refine mV_goto (off := 4) (tgt := 27) (by decide +kernel) (by decide) ?_
      exact mV_zret (by decide +kernel) rfl (by decide) h
set_option maxRecDepth 100000 in
set_option maxHeartbeats 4000000 in
theorem e_X10_isBlank {l : Launch} {κ : mm_K} {d : Nat} {G : mm_G} {K : Int32 → mm_G → Prop} (a1 : Int32) (h : ((a1 = (nI 9) → K (nI 1) G) ∧ (¬ a1 = (nI 9) → ((a1 = (nI 10) → K (nI 1) G) ∧ (¬ a1 = (nI 10) → ((a1 = (nI 13) → K (nI 1) G) ∧ (¬ a1 = (nI 13) → ((¬ a1 = (nI 32) → K (nI 0) G) ∧ (a1 = (nI 32) → K (nI 1) G))))))))) : mC l κ true d 0 0 m_X10_isBlank [.int a1] G (rI K) := by
  refine mC.of (by decide) (Nat.le_of_ble_eq_true rfl) [some (.int a1)] rfl ?_
  refine mV_iload_n (k := 0) (by decide +kernel) rfl ?_
  refine mV_bipush (n := 9) (v := nI 9) (by decide +kernel) (by decide) ?_
  refine mV_icmp_eq (off := 21) (tgt := 24) (by decide +kernel) (by decide) (fun hc => ?_) (fun hc => ?_)
  · replace h := h.1 hc
    refine mV_iconst (n := 1) (v := nI 1) (by decide +kernel) (by decide) ?_
    refine mV_goto (off := 4) (tgt := 29) (by decide +kernel) (by decide) ?_
    exact mV_zret (by decide +kernel) rfl (by decide) h
  · replace h := h.2 hc
    refine mV_iload_n (k := 0) (by decide +kernel) rfl ?_
    refine mV_bipush (n := 10) (v := nI 10) (by decide +kernel) (by decide) ?_
    refine mV_icmp_eq (off := 15) (tgt := 24) (by decide +kernel) (by decide) (fun hc => ?_) (fun hc => ?_)
    · replace h := h.1 hc
      refine mV_iconst (n := 1) (v := nI 1) (by decide +kernel) (by decide) ?_
      refine mV_goto (off := 4) (tgt := 29) (by decide +kernel) (by decide) ?_
      exact mV_zret (by decide +kernel) rfl (by decide) h
    · replace h := h.2 hc
      refine mV_iload_n (k := 0) (by decide +kernel) rfl ?_
      refine mV_bipush (n := 13) (v := nI 13) (by decide +kernel) (by decide) ?_
      refine mV_icmp_eq (off := 9) (tgt := 24) (by decide +kernel) (by decide) (fun hc => ?_) (fun hc => ?_)
      · replace h := h.1 hc
        refine mV_iconst (n := 1) (v := nI 1) (by decide +kernel) (by decide) ?_
        refine mV_goto (off := 4) (tgt := 29) (by decide +kernel) (by decide) ?_
        exact mV_zret (by decide +kernel) rfl (by decide) h
      · replace h := h.2 hc
        refine mV_iload_n (k := 0) (by decide +kernel) rfl ?_
        refine mV_bipush (n := 32) (v := nI 32) (by decide +kernel) (by decide) ?_
        refine mV_icmp_ne (off := 7) (tgt := 28) (by decide +kernel) (by decide) (fun hc => ?_) (fun hc => ?_)
        · replace h := h.1 hc
          refine mV_iconst (n := 0) (v := nI 0) (by decide +kernel) (by decide) ?_
          exact mV_zret (by decide +kernel) rfl (by decide) h
        · replace h := h.2 hc
          refine mV_iconst (n := 1) (v := nI 1) (by decide +kernel) (by decide) ?_
          refine mV_goto (off := 4) (tgt := 29) (by decide +kernel) (by decide) ?_
          exact mV_zret (by decide +kernel) rfl (by decide) h
set_option maxRecDepth 100000 in
set_option maxHeartbeats 4000000 in
theorem e_X10_spelled {l : Launch} {κ : mm_K} {d : Nat} {G : mm_G} {K : Int64 → mm_G → Prop} (a1 : Int64) (a2 : Int32) (h : K ((a1 * (lN 27)) + (((a2 - (nI 97)) + (nI 1)).toInt64)) G) : mC l κ true d 0 0 m_X10_spelled [.long a1, .int a2] G (rL K) := by
  refine mC.of (by decide) (Nat.le_of_ble_eq_true rfl) [some (.long a1), none, some (.int a2)] rfl ?_
  refine mV_lload_n (k := 0) (by decide +kernel) rfl ?_
  refine mV_ldc2 (idx := 74) (v := lN 27) (by decide +kernel) (mm_t1 87 (by decide +kernel)) ?_
  refine mV_lmul (by decide +kernel) ?_
  refine mV_iload_n (k := 2) (by decide +kernel) rfl ?_
  refine mV_bipush (n := 97) (v := nI 97) (by decide +kernel) (by decide) ?_
  refine mV_isub (by decide +kernel) ?_
  refine mV_iconst (n := 1) (v := nI 1) (by decide +kernel) (by decide) ?_
  refine mV_iadd (by decide +kernel) ?_
  refine mV_i2l (by decide +kernel) ?_
  refine mV_ladd (by decide +kernel) ?_
  exact mV_lret (by decide +kernel) rfl h
set_option maxRecDepth 100000 in
set_option maxHeartbeats 4000000 in
theorem e_X11_clear {l : Launch} {κ : mm_K} {d : Nat} {G : mm_G} {K : mm_G → Prop}  (h : K (ms_i (ms_i G 20 4 (nI 0)) 20 5 (nI 100))) : mC l κ true d 0 0 m_X11_clear [.ref 20] G (rV K) := by
  refine mC.of (by decide) (Nat.le_of_ble_eq_true rfl) [some (.ref 20)] rfl ?_
  refine mV_aload_n (k := 0) (by decide +kernel) rfl ?_
  refine mV_iconst (n := 0) (v := nI 0) (by decide +kernel) (by decide) ?_
  refine mV_pfi (by decide +kernel) fk_11_35 sh_20 ?_
  refine mV_aload_n (k := 0) (by decide +kernel) rfl ?_
  refine mV_bipush (n := 100) (v := nI 100) (by decide +kernel) (by decide) ?_
  refine mV_pfi (by decide +kernel) fk_11_30 sh_20 ?_
  exact mV_vret (by decide +kernel) rfl h
set_option maxRecDepth 100000 in
set_option maxHeartbeats 4000000 in
theorem e_X11_copy {l : Launch} {κ : mm_K} {d : Nat} {G : mm_G} {K : mm_G → Prop}  (h : mV l κ true (d + 1) 0 0 m_X11_copy 18 [some (.ref 62), some (.ref 20), some (.int (nI 0)), none] [] (ms_i (ms_i G 62 4 (mg_i G 20 4)) 62 5 (mg_i G 20 5)) (rV K)) : mC l κ true (d + 1) 0 0 m_X11_copy [.ref 62, .ref 20] G (rV K) := by
  refine mC.of (by decide) (Nat.le_of_ble_eq_true rfl) [some (.ref 62), some (.ref 20), none, none] rfl ?_
  refine mV_aload_n (k := 0) (by decide +kernel) rfl ?_
  refine mV_aload_n (k := 1) (by decide +kernel) rfl ?_
  refine mV_gfix (x := mg_i G 20 4) (by decide +kernel) fk_11_35 sh_20 rfl ?_
  refine mV_pfi (by decide +kernel) fk_11_35 sh_62 ?_
  refine mV_aload_n (k := 0) (by decide +kernel) rfl ?_
  refine mV_aload_n (k := 1) (by decide +kernel) rfl ?_
  refine mV_gfix (x := mg_i G 20 5) (by decide +kernel) fk_11_30 sh_20 rfl ?_
  refine mV_pfi (by decide +kernel) fk_11_30 sh_62 ?_
  refine mV_iconst (n := 0) (v := nI 0) (by decide +kernel) (by decide) ?_
  refine mV_istore_n (k := 2) (ls' := [some (.ref 62), some (.ref 20), some (.int (nI 0)), none]) (by decide +kernel) (Nat.le_of_ble_eq_true rfl) rfl rfl ?_
  exact h
set_option maxRecDepth 100000 in
set_option maxHeartbeats 4000000 in
theorem p_X11_copy_18 {l : Launch} {κ : mm_K} {d : Nat} {G : mm_G} {K : mm_G → Prop} (v2 : Int32) (h : (((mg_i G 62 4) ≤ v2 → K G) ∧ (¬ (mg_i G 62 4) ≤ v2 → vp_in v2 8 ∧ vp_in v2 8 ∧ vp_in v2 8 ∧ vp_in v2 8 ∧ mV l κ true (d + 1) 0 0 m_X11_copy 52 [some (.ref 62), some (.ref 20), some (.int v2), some (.int (nI 0))] [] (ms_i (ms_i G 72 v2.toNatClampNeg (mg_i G 30 v2.toNatClampNeg)) 74 v2.toNatClampNeg (vp_nar .boolean (mg_i G 32 v2.toNatClampNeg))) (rV K)))) : mV l κ true (d + 1) 0 0 m_X11_copy 18 [some (.ref 62), some (.ref 20), some (.int v2), none] [] G (rV K) := by
  refine mV_iload_n (k := 2) (by decide +kernel) rfl ?_
  refine mV_aload_n (k := 0) (by decide +kernel) rfl ?_
  refine mV_gfix (x := mg_i G 62 4) (by decide +kernel) fk_11_35 sh_62 rfl ?_
  refine mV_icmp_ge (off := 82) (tgt := 105) (by decide +kernel) (by decide) (fun hc => ?_) (fun hc => ?_)
  · replace h := h.1 hc
    exact mV_vret (by decide +kernel) rfl h
  · replace h := h.2 hc
    refine mV_aload_n (k := 0) (by decide +kernel) rfl ?_
    refine mV_gfr (r := some 72) (by decide +kernel) fk_11_16 sh_62 (mm_rrs st_62_1) rfl ?_
    refine mV_iload_n (k := 2) (by decide +kernel) rfl ?_
    refine mV_aload_n (k := 1) (by decide +kernel) rfl ?_
    refine mV_gfr (r := some 30) (by decide +kernel) fk_11_16 sh_20 (mm_rrs st_20_1) rfl ?_
    refine mV_iload_n (k := 2) (by decide +kernel) rfl ?_
    refine mV_ialx (x := mg_i G 30 v2.toNatClampNeg) (by decide +kernel) sh_30 h.1 rfl ?_
    replace h := h.2
    refine mV_ias (by decide +kernel) sh_72 h.1 ?_
    replace h := h.2
    refine mV_aload_n (k := 0) (by decide +kernel) rfl ?_
    refine mV_gfr (r := some 74) (by decide +kernel) fk_11_26 sh_62 (mm_rrs st_62_3) rfl ?_
    refine mV_iload_n (k := 2) (by decide +kernel) rfl ?_
    refine mV_aload_n (k := 1) (by decide +kernel) rfl ?_
    refine mV_gfr (r := some 32) (by decide +kernel) fk_11_26 sh_20 (mm_rrs st_20_3) rfl ?_
    refine mV_iload_n (k := 2) (by decide +kernel) rfl ?_
    refine mV_zalx (x := mg_i G 32 v2.toNatClampNeg) (by decide +kernel) sh_32 h.1 rfl ?_
    replace h := h.2
    refine mV_zas (by decide +kernel) sh_74 h.1 ?_
    replace h := h.2
    refine mV_iconst (n := 0) (v := nI 0) (by decide +kernel) (by decide) ?_
    refine mV_istore_n (k := 3) (ls' := [some (.ref 62), some (.ref 20), some (.int v2), some (.int (nI 0))]) (by decide +kernel) (Nat.le_of_ble_eq_true rfl) rfl rfl ?_
    exact h
set_option maxRecDepth 100000 in
set_option maxHeartbeats 4000000 in
theorem p_X11_copy_52 {l : Launch} {κ : mm_K} {d : Nat} {G : mm_G} {K : mm_G → Prop} (v2 : Int32) (v3 : Int32) (h : vp_in v2 8 ∧ (((mg_i G 72 v2.toNatClampNeg) ≤ v3 → vp_in v2 8 ∧ vp_in v2 8 ∧ mC l κ true d 0 0 m_X0_copy [.ref (75 + 2 * v2.toNatClampNeg), .ref (33 + 2 * v2.toNatClampNeg)] G (rV (fun G4 => mV l κ true (d + 1) 0 0 m_X11_copy 18 [some (.ref 62), some (.ref 20), some (.int (v2 + (nI 1))), none] [] G4 (rV K)))) ∧ (¬ (mg_i G 72 v2.toNatClampNeg) ≤ v3 → vp_in v2 8 ∧ vp_in v2 8 ∧ vp_in v3 6 ∧ vp_in v3 6 ∧ mV l κ true (d + 1) 0 0 m_X11_copy 52 [some (.ref 62), some (.ref 20), some (.int v2), some (.int (v3 + (nI 1)))] [] (ms_i G (64 + v2.toNatClampNeg) v3.toNatClampNeg (mg_i G (22 + v2.toNatClampNeg) v3.toNatClampNeg)) (rV K)))) : mV l κ true (d + 1) 0 0 m_X11_copy 52 [some (.ref 62), some (.ref 20), some (.int v2), some (.int v3)] [] G (rV K) := by
  refine mV_iload_n (k := 3) (by decide +kernel) rfl ?_
  refine mV_aload_n (k := 0) (by decide +kernel) rfl ?_
  refine mV_gfr (r := some 72) (by decide +kernel) fk_11_16 sh_62 (mm_rrs st_62_1) rfl ?_
  refine mV_iload_n (k := 2) (by decide +kernel) rfl ?_
  refine mV_ialx (x := mg_i G 72 v2.toNatClampNeg) (by decide +kernel) sh_72 h.1 rfl ?_
  replace h := h.2
  refine mV_icmp_ge (off := 25) (tgt := 84) (by decide +kernel) (by decide) (fun hc => ?_) (fun hc => ?_)
  · replace h := h.1 hc
    refine mV_aload_n (k := 0) (by decide +kernel) rfl ?_
    refine mV_gfr (r := some 73) (by decide +kernel) fk_11_22 sh_62 (mm_rrs st_62_2) rfl ?_
    refine mV_iload_n (k := 2) (by decide +kernel) rfl ?_
    have hj1 := h.1
    replace h := h.2
    refine mV_aal (t := 7) (r := some (75 + 2 * v2.toNatClampNeg)) (by decide +kernel) sh_73 (by decide) hj1 (mm_rrs (mm_deed1 _ (mm_ixlt hj1)).2) rfl ?_
    refine mV_aload_n (k := 1) (by decide +kernel) rfl ?_
    refine mV_gfr (r := some 31) (by decide +kernel) fk_11_22 sh_20 (mm_rrs st_20_2) rfl ?_
    refine mV_iload_n (k := 2) (by decide +kernel) rfl ?_
    have hj2 := h.1
    replace h := h.2
    refine mV_aal (t := 7) (r := some (33 + 2 * v2.toNatClampNeg)) (by decide +kernel) sh_31 (by decide) hj2 (mm_rrs (mm_deed0 _ (mm_ixlt hj2)).2) rfl ?_
    refine mV_cV (as := [.ref (33 + 2 * v2.toNatClampNeg)]) (rest := []) (mc1 := 0) (ms1 := 0) (mc := 0) (ms := 0) (by decide +kernel) md_X0_copy lk_11_38 (mm_deedP (mm_deed1 _ (mm_ixlt hj1)).1).1 rfl rfl rfl (Nat.le_of_ble_eq_true rfl) (mC.mono (mm_contV (fun G4 hK => ?_)) h)
    replace h := hK
    refine mV_iincc (i := 2) (n := 1) (c := nI 1) (ls' := [some (.ref 62), some (.ref 20), some (.int (v2 + (nI 1))), some (.int v3)]) (by decide +kernel) (by decide) rfl (Nat.le_of_ble_eq_true rfl) rfl rfl ?_
    refine mV_goto (off := -84) (tgt := 18) (by decide +kernel) (by decide) ?_
    refine mV_fg [3] (ls' := [some (.ref 62), some (.ref 20), some (.int (v2 + (nI 1))), none]) rfl ?_
    exact h
  · replace h := h.2 hc
    refine mV_aload_n (k := 0) (by decide +kernel) rfl ?_
    refine mV_gfr (r := some 63) (by decide +kernel) fk_11_11 sh_62 (mm_rrs st_62_0) rfl ?_
    refine mV_iload_n (k := 2) (by decide +kernel) rfl ?_
    have hj5 := h.1
    replace h := h.2
    refine mV_aal (t := 8) (r := some (64 + v2.toNatClampNeg)) (by decide +kernel) sh_63 (by decide) hj5 (mm_rrs (mm_num1 _ (mm_ixlt hj5)).2) rfl ?_
    refine mV_iload_n (k := 3) (by decide +kernel) rfl ?_
    refine mV_aload_n (k := 1) (by decide +kernel) rfl ?_
    refine mV_gfr (r := some 21) (by decide +kernel) fk_11_11 sh_20 (mm_rrs st_20_0) rfl ?_
    refine mV_iload_n (k := 2) (by decide +kernel) rfl ?_
    have hj6 := h.1
    replace h := h.2
    refine mV_aal (t := 8) (r := some (22 + v2.toNatClampNeg)) (by decide +kernel) sh_21 (by decide) hj6 (mm_rrs (mm_num0 _ (mm_ixlt hj6)).2) rfl ?_
    refine mV_iload_n (k := 3) (by decide +kernel) rfl ?_
    refine mV_ialx (x := mg_i G (22 + v2.toNatClampNeg) v3.toNatClampNeg) (by decide +kernel) (mm_num0 _ (mm_ixlt hj6)).1 h.1 rfl ?_
    replace h := h.2
    refine mV_ias (by decide +kernel) (mm_num1 _ (mm_ixlt hj5)).1 h.1 ?_
    replace h := h.2
    refine mV_iincc (i := 3) (n := 1) (c := nI 1) (ls' := [some (.ref 62), some (.ref 20), some (.int v2), some (.int (v3 + (nI 1)))]) (by decide +kernel) (by decide) rfl (Nat.le_of_ble_eq_true rfl) rfl rfl ?_
    refine mV_goto (off := -29) (tgt := 52) (by decide +kernel) (by decide) ?_
    exact h
set_option maxRecDepth 100000 in
set_option maxHeartbeats 4000000 in
theorem e_X11_tableSize {l : Launch} {κ : mm_K} {d : Nat} {G : mm_G} {K : Int32 → mm_G → Prop}  (h : mV l κ true d 0 0 m_X11_tableSize 4 [some (.ref 62), some (.int (nI 0)), some (.int (nI 0))] [] G (rI K)) : mC l κ true d 0 0 m_X11_tableSize [.ref 62] G (rI K) := by
  refine mC.of (by decide) (Nat.le_of_ble_eq_true rfl) [some (.ref 62), none, none] rfl ?_
  refine mV_iconst (n := 0) (v := nI 0) (by decide +kernel) (by decide) ?_
  refine mV_istore_n (k := 1) (ls' := [some (.ref 62), some (.int (nI 0)), none]) (by decide +kernel) (Nat.le_of_ble_eq_true rfl) rfl rfl ?_
  refine mV_iconst (n := 0) (v := nI 0) (by decide +kernel) (by decide) ?_
  refine mV_istore_n (k := 2) (ls' := [some (.ref 62), some (.int (nI 0)), some (.int (nI 0))]) (by decide +kernel) (Nat.le_of_ble_eq_true rfl) rfl rfl ?_
  exact h
set_option maxRecDepth 100000 in
set_option maxHeartbeats 4000000 in
theorem p_X11_tableSize_4 {l : Launch} {κ : mm_K} {d : Nat} {G : mm_G} {K : Int32 → mm_G → Prop} (v1 : Int32) (v2 : Int32) (h : (((mg_i G 62 4) ≤ v2 → K v1 G) ∧ (¬ (mg_i G 62 4) ≤ v2 → vp_in v2 8 ∧ (((mg_i G 74 v2.toNatClampNeg) = 0 → mV l κ true d 0 0 m_X11_tableSize 4 [some (.ref 62), some (.int v1), some (.int (v2 + (nI 1)))] [] G (rI K)) ∧ (¬ (mg_i G 74 v2.toNatClampNeg) = 0 → mV l κ true d 0 0 m_X11_tableSize 4 [some (.ref 62), some (.int (v1 + (nI 1))), some (.int (v2 + (nI 1)))] [] G (rI K)))))) : mV l κ true d 0 0 m_X11_tableSize 4 [some (.ref 62), some (.int v1), some (.int v2)] [] G (rI K) := by
  refine mV_iload_n (k := 2) (by decide +kernel) rfl ?_
  refine mV_aload_n (k := 0) (by decide +kernel) rfl ?_
  refine mV_gfix (x := mg_i G 62 4) (by decide +kernel) fk_11_35 sh_62 rfl ?_
  refine mV_icmp_ge (off := 21) (tgt := 30) (by decide +kernel) (by decide) (fun hc => ?_) (fun hc => ?_)
  · replace h := h.1 hc
    refine mV_iload_n (k := 1) (by decide +kernel) rfl ?_
    exact mV_iret (by decide +kernel) rfl h
  · replace h := h.2 hc
    refine mV_aload_n (k := 0) (by decide +kernel) rfl ?_
    refine mV_gfr (r := some 74) (by decide +kernel) fk_11_26 sh_62 (mm_rrs st_62_3) rfl ?_
    refine mV_iload_n (k := 2) (by decide +kernel) rfl ?_
    refine mV_zalx (x := mg_i G 74 v2.toNatClampNeg) (by decide +kernel) sh_74 h.1 rfl ?_
    replace h := h.2
    refine mV_if_eq (off := 6) (tgt := 24) (by decide +kernel) (by decide) (fun hc => ?_) (fun hc => ?_)
    · replace h := h.1 hc
      refine mV_iincc (i := 2) (n := 1) (c := nI 1) (ls' := [some (.ref 62), some (.int v1), some (.int (v2 + (nI 1)))]) (by decide +kernel) (by decide) rfl (Nat.le_of_ble_eq_true rfl) rfl rfl ?_
      refine mV_goto (off := -23) (tgt := 4) (by decide +kernel) (by decide) ?_
      exact h
    · replace h := h.2 hc
      refine mV_iincc (i := 1) (n := 1) (c := nI 1) (ls' := [some (.ref 62), some (.int (v1 + (nI 1))), some (.int v2)]) (by decide +kernel) (by decide) rfl (Nat.le_of_ble_eq_true rfl) rfl rfl ?_
      refine mV_iincc (i := 2) (n := 1) (c := nI 1) (ls' := [some (.ref 62), some (.int (v1 + (nI 1))), some (.int (v2 + (nI 1)))]) (by decide +kernel) (by decide) rfl (Nat.le_of_ble_eq_true rfl) rfl rfl ?_
      refine mV_goto (off := -23) (tgt := 4) (by decide +kernel) (by decide) ?_
      exact h
