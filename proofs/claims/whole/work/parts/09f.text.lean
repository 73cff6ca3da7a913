section TX
variable {l : Launch} {κ : mm_K} {ph : Bool} {d : Nat} {G : mm_G}
theorem s_pre {K : Int32 → mm_G → Prop} {i n : Int32} {v : Value} (hv : v = .null ∨ v = .retAddr 4) (h0 : ¬ i < 0) (h1 : i < n) (h : K i G) : mC l κ ph d 0 0 m_J3_checkIndex_8e157 [.int i, .int n, v] G (rI K) := by
  have go : mV l κ ph d 0 0 m_J3_checkIndex_8e157 0 [some (.int i), some (.int n), some v] [] G (rI K) := by
    refine mV_iload_n (k := 0) (by decide +kernel) rfl ?_
    refine mV_if_lt (off := 8) (tgt := 9) (by decide +kernel) (by decide) (fun hc => absurd hc h0) (fun hc => ?_)
    refine mV_iload_n (k := 0) (by decide +kernel) rfl ?_
    refine mV_iload_n (k := 1) (by decide +kernel) rfl ?_
    refine mV_icmp_lt (off := 10) (tgt := 16) (by decide +kernel) (by decide) (fun hc => ?_) (fun hc => absurd h1 hc)
    refine mV_iload_n (k := 0) (by decide +kernel) rfl ?_
    exact mV_iret (by decide +kernel) rfl h
  rcases hv with rfl | rfl
  · exact mC.of (by decide) (Nat.le_of_ble_eq_true rfl) _ rfl go
  · exact mC.of (by decide) (Nat.le_of_ble_eq_true rfl) _ rfl go
theorem s_check {K : mm_G → Prop} {i n : Int32} (h0 : ¬ i < 0) (h1 : i < n) (h : K G) : mC l κ ph (d + 1) 0 0 m_J0_checkIndex_df160 [.int i, .int n] G (rV K) := by
  refine mC.of (by decide) (Nat.le_of_ble_eq_true rfl) [some (.int i), some (.int n)] rfl ?_
  refine mV_iload_n (k := 0) (by decide +kernel) rfl ?_
  refine mV_iload_n (k := 1) (by decide +kernel) rfl ?_
  refine mV_gsF (idx := 1053) (by decide +kernel) (mm_t1 60 (by decide +kernel)) ?_ ?_
  · refine mV_cS (as := [.int i, .int n, .null]) (rest := []) (mc1 := 0) (ms1 := 0) (mc := 0) (ms := 0) (by decide +kernel) md_J3_checkIndex_8e157 lk_J0_1059 rfl rfl (Nat.le_of_ble_eq_true rfl) (mC.mono (mm_contI (fun r G2 hK => ?_)) (s_pre (K := fun r G2 => r = i ∧ G2 = G) (Or.inl rfl) h0 h1 ⟨rfl, rfl⟩))
    obtain ⟨rfl, rfl⟩ := hK
    refine mV_pop (by decide +kernel) rfl ?_
    exact mV_vret (by decide +kernel) rfl h
  · refine mV_cS (as := [.int i, .int n, .retAddr 4]) (rest := []) (mc1 := 0) (ms1 := 0) (mc := 0) (ms := 0) (by decide +kernel) md_J3_checkIndex_8e157 lk_J0_1059 rfl rfl (Nat.le_of_ble_eq_true rfl) (mC.mono (mm_contI (fun r G2 hK => ?_)) (s_pre (K := fun r G2 => r = i ∧ G2 = G) (Or.inr rfl) h0 h1 ⟨rfl, rfl⟩))
    obtain ⟨rfl, rfl⟩ := hK
    refine mV_pop (by decide +kernel) rfl ?_
    exact mV_vret (by decide +kernel) rfl h
theorem s_l1 {K : Int32 → mm_G → Prop} {i : Int32} (hi : vp_in i 79) (h : K (((mm_byt.getD i.toNatClampNeg 0) &&& nI 255).toUInt32 % 65536).toInt32 G) : mC l κ ph (d + 2) 0 0 m_J1_charAt_3b067 [.retAddr 3, .int i] G (rI K) := by
  have h0 : ¬ i < 0 := fun z => hi (Or.inl z)
  obtain ⟨j, hj, rfl⟩ := vp_in_of hi (by decide)
  have h1 : nI j < nI 79 := nI_lt hj (by decide)
  refine mC.of (by decide) (Nat.le_of_ble_eq_true rfl) [some (.retAddr 3), some (.int (nI j))] rfl ?_
  refine mV_iload_n (k := 1) (by decide +kernel) rfl ?_
  refine mV_aload_nx (k := 0) (by decide +kernel) rfl ?_
  refine mV_slen (by decide +kernel) ?_
  refine mV_cS (as := [.int (nI j), .int (nI 79)]) (rest := []) (mc1 := 0) (ms1 := 0) (mc := 0) (ms := 0) (by decide +kernel) md_J0_checkIndex_df160 lk_J1_9 rfl rfl (Nat.le_of_ble_eq_true rfl) (mC.mono (mm_contV (fun G2 hK => ?_)) (s_check (K := fun G2 => G2 = G) h0 h1 rfl))
  subst hK
  refine mV_aload_nx (k := 0) (by decide +kernel) rfl ?_
  refine mV_iload_n (k := 1) (by decide +kernel) rfl ?_
  refine mV_sbal (by decide +kernel) hi ?_
  refine mV_sipush (n := 255) (v := nI 255) (by decide +kernel) (by decide) ?_
  refine mV_iand (by decide +kernel) ?_
  refine mV_i2c (by decide +kernel) ?_
  exact mV_nret (ty := .char) (by decide +kernel) rfl (pk_nc _) h
theorem s_lat {K : Int32 → mm_G → Prop} (h : K (nI 1) G) : mC l κ ph d 0 0 m_J0_isLatin1_aae02 [.retAddr 0] G (rI K) := by
  refine mC.of (by decide) (Nat.le_of_ble_eq_true rfl) [some (.retAddr 0)] rfl ?_
  refine mV_gsC (idx := 38) (by decide +kernel) (mm_t1 44 (by decide +kernel)) ?_
  refine mV_if_eq (off := 14) (tgt := 17) (by decide +kernel) (by decide) (fun hc => absurd hc (by decide)) (fun hc => ?_)
  refine mV_aload_nx (k := 0) (by decide +kernel) rfl ?_
  refine mV_scoder (by decide +kernel) (mm_t9 86 (by decide +kernel)) ?_
  refine mV_if_ne (off := 7) (tgt := 17) (by decide +kernel) (by decide) (fun hc => absurd rfl hc) (fun hc => ?_)
  refine mV_iconst (n := 1) (v := nI 1) (by decide +kernel) (by decide) ?_
  refine mV_goto (off := 4) (tgt := 18) (by decide +kernel) (by decide) ?_
  exact mV_zret (by decide +kernel) rfl (by decide) h
theorem s_coder {K : Int32 → mm_G → Prop} (h : K 0 G) : mC l κ ph d 0 0 m_J0_coder_7d493 [.retAddr 0] G (rI K) := by
  refine mC.of (by decide) (Nat.le_of_ble_eq_true rfl) [some (.retAddr 0)] rfl ?_
  refine mV_gsC (idx := 38) (by decide +kernel) (mm_t1 44 (by decide +kernel)) ?_
  refine mV_if_eq (off := 10) (tgt := 13) (by decide +kernel) (by decide) (fun hc => absurd hc (by decide)) (fun hc => ?_)
  refine mV_aload_nx (k := 0) (by decide +kernel) rfl ?_
  refine mV_scoder (by decide +kernel) (mm_t9 86 (by decide +kernel)) ?_
  refine mV_goto (off := 4) (tgt := 14) (by decide +kernel) (by decide) ?_
  exact mV_nret (ty := .byte) (by decide +kernel) rfl rfl h
theorem s_length {K : Int32 → mm_G → Prop} (h : K (nI 79) G) : mC l κ ph (d + 1) 0 0 m_J0_length_8abf5 [.retAddr 0] G (rI K) := by
  refine mC.of (by decide) (Nat.le_of_ble_eq_true rfl) [some (.retAddr 0)] rfl ?_
  refine mV_aload_nx (k := 0) (by decide +kernel) rfl ?_
  refine mV_svalue (by decide +kernel) (mm_t9 85 (by decide +kernel)) ?_
  refine mV_slen (by decide +kernel) ?_
  refine mV_aload_nx (k := 0) (by decide +kernel) rfl ?_
  refine mV_cVs (as := []) (rest := [.int (nI 79)]) (mc1 := 0) (ms1 := 0) (mc := 0) (ms := 0) (by decide +kernel) md_J0_coder_7d493 lk_J0_335 rfl rfl rfl (Nat.le_of_ble_eq_true rfl) (mC.mono (mm_contI (fun r G2 hK => ?_)) (s_coder (K := fun r G2 => r = 0 ∧ G2 = G) ⟨rfl, rfl⟩))
  obtain ⟨rfl, rfl⟩ := hK
  refine mV_ishr (by decide +kernel) ?_
  exact mV_iret (by decide +kernel) rfl (by rw [show nI 79 >>> ((0 : Int32) &&& 31) = nI 79 by decide]; exact h)
theorem s_charAt {K : Int32 → mm_G → Prop} {i : Int32} (hi : vp_in i 79) (h : K (((mm_byt.getD i.toNatClampNeg 0) &&& nI 255).toUInt32 % 65536).toInt32 G) : mC l κ ph (d + 3) 0 0 m_J0_charAt_5068e [.retAddr 0, .int i] G (rI K) := by
  refine mC.of (by decide) (Nat.le_of_ble_eq_true rfl) [some (.retAddr 0), some (.int i)] rfl ?_
  refine mV_aload_nx (k := 0) (by decide +kernel) rfl ?_
  refine mV_cVs (as := []) (rest := []) (mc1 := 0) (ms1 := 0) (mc := 0) (ms := 0) (by decide +kernel) md_J0_isLatin1_aae02 lk_J0_492 rfl rfl rfl (Nat.le_of_ble_eq_true rfl) (mC.mono (mm_contI (fun r G2 hK => ?_)) (s_lat (K := fun r G2 => r = nI 1 ∧ G2 = G) ⟨rfl, rfl⟩))
  obtain ⟨rfl, rfl⟩ := hK
  refine mV_if_eq (off := 12) (tgt := 16) (by decide +kernel) (by decide) (fun hc => absurd hc (by decide)) (fun hc => ?_)
  refine mV_aload_nx (k := 0) (by decide +kernel) rfl ?_
  refine mV_svalue (by decide +kernel) (mm_t9 85 (by decide +kernel)) ?_
  refine mV_iload_n (k := 1) (by decide +kernel) rfl ?_
  refine mV_cS (as := [.retAddr 3, .int i]) (rest := []) (mc1 := 0) (ms1 := 0) (mc := 0) (ms := 0) (by decide +kernel) md_J1_charAt_3b067 lk_J0_495 rfl rfl (Nat.le_of_ble_eq_true rfl) (mC.mono (mm_contI (fun r G2 hK => ?_)) (s_l1 (K := fun r G2 => r = _ ∧ G2 = _) hi ⟨rfl, rfl⟩))
  obtain ⟨rfl, rfl⟩ := hK
  exact mV_nret (ty := .char) (by decide +kernel) rfl (pk_nc _) h
end TX
