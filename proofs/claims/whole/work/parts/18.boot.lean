/-- a letter of the text, a blank of it, its end -/
theorem b_tokL {l : Launch} {κ : mm_K} {d : Nat} {G : mm_G} {K : mm_G → Prop} {v1 v2 : Int32} {t : Nat} {w : Int64} (h1 : ¬ nI 79 ≤ v2) (h2 : ¬ nI 20 ≤ v1) (h3 : vp_in v2 79) (h4 : vp_in v1 20) (h5 : ¬ (((mm_byt.getD v2.toNatClampNeg 0) &&& nI 255).toUInt32 % 65536).toInt32 = nI 32) (h6 : mg_r G 1 5 = some t) (h7 : mm_sh t = (1, 3, 20)) (h8 : (mg_l G t v1.toNatClampNeg) * (lN 27) + ((((mm_byt.getD v2.toNatClampNeg 0) &&& nI 255).toUInt32 % 65536).toInt32 - nI 97 + nI 1).toInt64 = w)
    (kk : mV l κ false (d + 4) 0 0 m_X10_init 52 [some (.ref 1), some (.int v1), some (.int (v2 + nI 1))] [] (ms_l G t v1.toNatClampNeg w) (rV K)) : mV l κ false (d + 4) 0 0 m_X10_init 52 [some (.ref 1), some (.int v1), some (.int v2)] [] G (rV K) := by
  refine q_X10_init_52 (d := d) 1 sh_1 v1 v2 (s_length (d := d + 2) ⟨fun h => absurd h h1, fun _ => ⟨fun h => absurd h h2, fun _ => s_charAt h3 ⟨fun _ => ⟨t, h6, h7, t, h6, h7, h4, s_charAt h3 (f_X10_spelled _ _ ?_)⟩, fun h => absurd h h5⟩⟩⟩)
  rw [h8]
  exact ⟨h4, kk⟩
theorem b_tokS {l : Launch} {κ : mm_K} {d : Nat} {G : mm_G} {K : mm_G → Prop} {v1 v2 : Int32} (h1 : ¬ nI 79 ≤ v2) (h2 : ¬ nI 20 ≤ v1) (h3 : vp_in v2 79) (h5 : (((mm_byt.getD v2.toNatClampNeg 0) &&& nI 255).toUInt32 % 65536).toInt32 = nI 32)
    (kk : mV l κ false (d + 4) 0 0 m_X10_init 52 [some (.ref 1), some (.int (v1 + nI 1)), some (.int (v2 + nI 1))] [] G (rV K)) : mV l κ false (d + 4) 0 0 m_X10_init 52 [some (.ref 1), some (.int v1), some (.int v2)] [] G (rV K) :=
  q_X10_init_52 (d := d) 1 sh_1 v1 v2 (s_length (d := d + 2) ⟨fun h => absurd h h1, fun _ => ⟨fun h => absurd h h2, fun _ => s_charAt h3 ⟨fun h => absurd h5 h, fun _ => kk⟩⟩⟩)
theorem b_tokE {l : Launch} {κ : mm_K} {d : Nat} {G : mm_G} {K : mm_G → Prop} {v1 : Int32} (kk : K G) : mV l κ false (d + 4) 0 0 m_X10_init 52 [some (.ref 1), some (.int v1), some (.int (nI 79))] [] G (rV K) :=
  q_X10_init_52 (d := d) 1 sh_1 v1 (nI 79) (s_length (d := d + 2) ⟨fun _ => kk, fun h => absurd (by decide) h⟩)
def w_z : mm_G := (0, fun _ _ => 0, fun _ _ => 0, fun _ _ => none)
def w_0 : mm_G := mg_b w_z 1
theorem wn_0 : mg_n w_0 = 1 := by decide +kernel
def w_1 : mm_G := mg_b w_0 1
theorem wn_1 : mg_n w_1 = 2 := by decide +kernel
def w_2 : mm_G := ms_r (mg_b (ms_r (mg_b (ms_r (mg_b (ms_r (mg_b (ms_r (mg_b w_1 1) 1 0 (some 2)) 1) 1 1 (some 3)) 1) 1 2 (some 4)) 1) 1 3 (some 5)) 1) 1 5 (some 6)
theorem wn_2 : mg_n w_2 = 7 := by decide +kernel
def w_3 : mm_G := ms_l w_2 6 0 (lN 19)
theorem wn_3 : mg_n w_3 = 7 := by decide +kernel
def w_4 : mm_G := ms_l w_3 6 0 (lN 518)
theorem wn_4 : mg_n w_4 = 7 := by decide +kernel
def w_5 : mm_G := ms_l w_4 6 0 (lN 14006)
theorem wn_5 : mg_n w_5 = 7 := by decide +kernel
def w_6 : mm_G := ms_l w_5 6 1 (lN 1)
theorem wn_6 : mg_n w_6 = 7 := by decide +kernel
def w_7 : mm_G := ms_l w_6 6 1 (lN 31)
theorem wn_7 : mg_n w_7 = 7 := by decide +kernel
def w_8 : mm_G := ms_l w_7 6 1 (lN 841)
theorem wn_8 : mg_n w_8 = 7 := by decide +kernel
def w_9 : mm_G := ms_l w_8 6 2 (lN 19)
theorem wn_9 : mg_n w_9 = 7 := by decide +kernel
def w_10 : mm_G := ms_l w_9 6 2 (lN 534)
theorem wn_10 : mg_n w_10 = 7 := by decide +kernel
def w_11 : mm_G := ms_l w_10 6 2 (lN 14420)
theorem wn_11 : mg_n w_11 = 7 := by decide +kernel
def w_12 : mm_G := ms_l w_11 6 3 (lN 13)
theorem wn_12 : mg_n w_12 = 7 := by decide +kernel
def w_13 : mm_G := ms_l w_12 6 3 (lN 372)
theorem wn_13 : mg_n w_13 = 7 := by decide +kernel
def w_14 : mm_G := ms_l w_13 6 3 (lN 10056)
theorem wn_14 : mg_n w_14 = 7 := by decide +kernel
def w_15 : mm_G := ms_l w_14 6 4 (lN 4)
theorem wn_15 : mg_n w_15 = 7 := by decide +kernel
def w_16 : mm_G := ms_l w_15 6 4 (lN 117)
theorem wn_16 : mg_n w_16 = 7 := by decide +kernel
def w_17 : mm_G := ms_l w_16 6 4 (lN 3181)
theorem wn_17 : mg_n w_17 = 7 := by decide +kernel
def w_18 : mm_G := ms_l w_17 6 5 (lN 15)
theorem wn_18 : mg_n w_18 = 7 := by decide +kernel
def w_19 : mm_G := ms_l w_18 6 5 (lN 426)
theorem wn_19 : mg_n w_19 = 7 := by decide +kernel
def w_20 : mm_G := ms_l w_19 6 5 (lN 11522)
theorem wn_20 : mg_n w_20 = 7 := by decide +kernel
def w_21 : mm_G := ms_l w_20 6 6 (lN 7)
theorem wn_21 : mg_n w_21 = 7 := by decide +kernel
def w_22 : mm_G := ms_l w_21 6 6 (lN 204)
theorem wn_22 : mg_n w_22 = 7 := by decide +kernel
def w_23 : mm_G := ms_l w_22 6 7 (lN 9)
theorem wn_23 : mg_n w_23 = 7 := by decide +kernel
def w_24 : mm_G := ms_l w_23 6 7 (lN 249)
theorem wn_24 : mg_n w_24 = 7 := by decide +kernel
def w_25 : mm_G := ms_l w_24 6 8 (lN 3)
theorem wn_25 : mg_n w_25 = 7 := by decide +kernel
def w_26 : mm_G := ms_l w_25 6 8 (lN 82)
theorem wn_26 : mg_n w_26 = 7 := by decide +kernel
def w_27 : mm_G := ms_l w_26 6 8 (lN 2226)
theorem wn_27 : mg_n w_27 = 7 := by decide +kernel
def w_28 : mm_G := ms_l w_27 6 8 (lN 60114)
theorem wn_28 : mg_n w_28 = 7 := by decide +kernel
def w_29 : mm_G := ms_l w_28 6 9 (lN 5)
theorem wn_29 : mg_n w_29 = 7 := by decide +kernel
def w_30 : mm_G := ms_l w_29 6 9 (lN 149)
theorem wn_30 : mg_n w_30 = 7 := by decide +kernel
def w_31 : mm_G := ms_l w_30 6 9 (lN 4027)
theorem wn_31 : mg_n w_31 = 7 := by decide +kernel
def w_32 : mm_G := ms_l w_31 6 10 (lN 19)
theorem wn_32 : mg_n w_32 = 7 := by decide +kernel
def w_33 : mm_G := ms_l w_32 6 10 (lN 524)
theorem wn_33 : mg_n w_33 = 7 := by decide +kernel
def w_34 : mm_G := ms_l w_33 6 10 (lN 14157)
theorem wn_34 : mg_n w_34 = 7 := by decide +kernel
def w_35 : mm_G := ms_l w_34 6 10 (lN 382255)
theorem wn_35 : mg_n w_35 = 7 := by decide +kernel
def w_36 : mm_G := ms_l w_35 6 11 (lN 11)
theorem wn_36 : mg_n w_36 = 7 := by decide +kernel
def w_37 : mm_G := ms_l w_36 6 11 (lN 298)
theorem wn_37 : mg_n w_37 = 7 := by decide +kernel
def w_38 : mm_G := ms_l w_37 6 12 (lN 11)
theorem wn_38 : mg_n w_38 = 7 := by decide +kernel
def w_39 : mm_G := ms_l w_38 6 12 (lN 299)
theorem wn_39 : mg_n w_39 = 7 := by decide +kernel
def w_40 : mm_G := ms_l w_39 6 13 (lN 11)
theorem wn_40 : mg_n w_40 = 7 := by decide +kernel
def w_41 : mm_G := ms_l w_40 6 13 (lN 300)
theorem wn_41 : mg_n w_41 = 7 := by decide +kernel
def w_42 : mm_G := ms_l w_41 6 14 (lN 11)
theorem wn_42 : mg_n w_42 = 7 := by decide +kernel
def w_43 : mm_G := ms_l w_42 6 14 (lN 301)
theorem wn_43 : mg_n w_43 = 7 := by decide +kernel
def w_44 : mm_G := ms_l w_43 6 15 (lN 9)
theorem wn_44 : mg_n w_44 = 7 := by decide +kernel
def w_45 : mm_G := ms_l w_44 6 15 (lN 257)
theorem wn_45 : mg_n w_45 = 7 := by decide +kernel
def w_46 : mm_G := ms_l w_45 6 16 (lN 18)
theorem wn_46 : mg_n w_46 = 7 := by decide +kernel
def w_47 : mm_G := ms_l w_46 6 16 (lN 501)
theorem wn_47 : mg_n w_47 = 7 := by decide +kernel
def w_48 : mm_G := ms_l w_47 6 16 (lN 13550)
theorem wn_48 : mg_n w_48 = 7 := by decide +kernel
def w_49 : mm_G := ms_l w_48 6 17 (lN 20)
theorem wn_49 : mg_n w_49 = 7 := by decide +kernel
def w_50 : mm_G := ms_l w_49 6 17 (lN 558)
theorem wn_50 : mg_n w_50 = 7 := by decide +kernel
def w_51 : mm_G := ms_l w_50 6 17 (lN 15075)
theorem wn_51 : mg_n w_51 = 7 := by decide +kernel
def w_52 : mm_G := ms_l w_51 6 17 (lN 407026)
theorem wn_52 : mg_n w_52 = 7 := by decide +kernel
def w_53 : mm_G := ms_l w_52 6 17 (lN 10989714)
theorem wn_53 : mg_n w_53 = 7 := by decide +kernel
def w_54 : mm_G := ms_l w_53 6 18 (lN 7)
theorem wn_54 : mg_n w_54 = 7 := by decide +kernel
def w_55 : mm_G := ms_l w_54 6 18 (lN 198)
theorem wn_55 : mg_n w_55 = 7 := by decide +kernel
def w_56 : mm_G := ms_l w_55 6 18 (lN 5368)
theorem wn_56 : mg_n w_56 = 7 := by decide +kernel
def w_57 : mm_G := ms_l w_56 6 18 (lN 144941)
theorem wn_57 : mg_n w_57 = 7 := by decide +kernel
def w_58 : mm_G := ms_l w_57 6 18 (lN 3913426)
theorem wn_58 : mg_n w_58 = 7 := by decide +kernel
def w_59 : mm_G := ms_l w_58 6 19 (lN 6)
theorem wn_59 : mg_n w_59 = 7 := by decide +kernel
def w_60 : mm_G := ms_l w_59 6 19 (lN 183)
theorem wn_60 : mg_n w_60 = 7 := by decide +kernel
def w_61 : mm_G := ms_l w_60 6 19 (lN 4946)
theorem wn_61 : mg_n w_61 = 7 := by decide +kernel
def w_62 : mm_G := ms_l w_61 6 19 (lN 133554)
theorem wn_62 : mg_n w_62 = 7 := by decide +kernel
set_option maxRecDepth 100000 in
set_option maxHeartbeats 4000000 in
theorem b_1 {l : Launch} {κ : mm_K} {d : Nat} {K : mm_G → Prop} (hK : K w_62) : mC l κ false (d + 4) 5 3223 m_X10_init [.ref 1] w_1 (rV K) := by
  refine f_X10_init 1 sh_1 ⟨(by decide +kernel), (by decide +kernel), (by decide +kernel), (by decide +kernel), (by decide +kernel), ?_⟩
  rw [wn_1]
  refine mV_eq (pc' := 52) (ls' := [some (.ref 1), some (.int (nI 0)), some (.int (nI 0))]) (st' := []) (G' := w_2) rfl rfl rfl rfl ?_
  refine b_tokL (v1 := nI 0) (v2 := nI 0) (t := 6) (w := lN 19) (by decide) (by decide) (vp_in_nI (by decide) (by decide)) (vp_in_nI (by decide) (by decide)) (by decide +kernel) (by decide +kernel) sh_6 (by decide +kernel) ?_
  refine mV_eq (pc' := 52) (ls' := [some (.ref 1), some (.int (nI 0)), some (.int (nI 1))]) (st' := []) (G' := w_3) rfl (by decide) rfl rfl ?_
  refine b_tokL (v1 := nI 0) (v2 := nI 1) (t := 6) (w := lN 518) (by decide) (by decide) (vp_in_nI (by decide) (by decide)) (vp_in_nI (by decide) (by decide)) (by decide +kernel) (by decide +kernel) sh_6 (by decide +kernel) ?_
  refine mV_eq (pc' := 52) (ls' := [some (.ref 1), some (.int (nI 0)), some (.int (nI 2))]) (st' := []) (G' := w_4) rfl (by decide) rfl rfl ?_
  refine b_tokL (v1 := nI 0) (v2 := nI 2) (t := 6) (w := lN 14006) (by decide) (by decide) (vp_in_nI (by decide) (by decide)) (vp_in_nI (by decide) (by decide)) (by decide +kernel) (by decide +kernel) sh_6 (by decide +kernel) ?_
  refine mV_eq (pc' := 52) (ls' := [some (.ref 1), some (.int (nI 0)), some (.int (nI 3))]) (st' := []) (G' := w_5) rfl (by decide) rfl rfl ?_
  refine b_tokS (v1 := nI 0) (v2 := nI 3) (by decide) (by decide) (vp_in_nI (by decide) (by decide)) (by decide +kernel) ?_
  refine mV_eq (pc' := 52) (ls' := [some (.ref 1), some (.int (nI 1)), some (.int (nI 4))]) (st' := []) (G' := w_5) rfl (by decide) rfl rfl ?_
  refine b_tokL (v1 := nI 1) (v2 := nI 4) (t := 6) (w := lN 1) (by decide) (by decide) (vp_in_nI (by decide) (by decide)) (vp_in_nI (by decide) (by decide)) (by decide +kernel) (by decide +kernel) sh_6 (by decide +kernel) ?_
  refine mV_eq (pc' := 52) (ls' := [some (.ref 1), some (.int (nI 1)), some (.int (nI 5))]) (st' := []) (G' := w_6) rfl (by decide) rfl rfl ?_
  refine b_tokL (v1 := nI 1) (v2 := nI 5) (t := 6) (w := lN 31) (by decide) (by decide) (vp_in_nI (by decide) (by decide)) (vp_in_nI (by decide) (by decide)) (by decide +kernel) (by decide +kernel) sh_6 (by decide +kernel) ?_
  refine mV_eq (pc' := 52) (ls' := [some (.ref 1), some (.int (nI 1)), some (.int (nI 6))]) (st' := []) (G' := w_7) rfl (by decide) rfl rfl ?_
  refine b_tokL (v1 := nI 1) (v2 := nI 6) (t := 6) (w := lN 841) (by decide) (by decide) (vp_in_nI (by decide) (by decide)) (vp_in_nI (by decide) (by decide)) (by decide +kernel) (by decide +kernel) sh_6 (by decide +kernel) ?_
  refine mV_eq (pc' := 52) (ls' := [some (.ref 1), some (.int (nI 1)), some (.int (nI 7))]) (st' := []) (G' := w_8) rfl (by decide) rfl rfl ?_
  refine b_tokS (v1 := nI 1) (v2 := nI 7) (by decide) (by decide) (vp_in_nI (by decide) (by decide)) (by decide +kernel) ?_
  refine mV_eq (pc' := 52) (ls' := [some (.ref 1), some (.int (nI 2)), some (.int (nI 8))]) (st' := []) (G' := w_8) rfl (by decide) rfl rfl ?_
  refine b_tokL (v1 := nI 2) (v2 := nI 8) (t := 6) (w := lN 19) (by decide) (by decide) (vp_in_nI (by decide) (by decide)) (vp_in_nI (by decide) (by decide)) (by decide +kernel) (by decide +kernel) sh_6 (by decide +kernel) ?_
  refine mV_eq (pc' := 52) (ls' := [some (.ref 1), some (.int (nI 2)), some (.int (nI 9))]) (st' := []) (G' := w_9) rfl (by decide) rfl rfl ?_
  refine b_tokL (v1 := nI 2) (v2 := nI 9) (t := 6) (w := lN 534) (by decide) (by decide) (vp_in_nI (by decide) (by decide)) (vp_in_nI (by decide) (by decide)) (by decide +kernel) (by decide +kernel) sh_6 (by decide +kernel) ?_
  refine mV_eq (pc' := 52) (ls' := [some (.ref 1), some (.int (nI 2)), some (.int (nI 10))]) (st' := []) (G' := w_10) rfl (by decide) rfl rfl ?_
  refine b_tokL (v1 := nI 2) (v2 := nI 10) (t := 6) (w := lN 14420) (by decide) (by decide) (vp_in_nI (by decide) (by decide)) (vp_in_nI (by decide) (by decide)) (by decide +kernel) (by decide +kernel) sh_6 (by decide +kernel) ?_
  refine mV_eq (pc' := 52) (ls' := [some (.ref 1), some (.int (nI 2)), some (.int (nI 11))]) (st' := []) (G' := w_11) rfl (by decide) rfl rfl ?_
  refine b_tokS (v1 := nI 2) (v2 := nI 11) (by decide) (by decide) (vp_in_nI (by decide) (by decide)) (by decide +kernel) ?_
  refine mV_eq (pc' := 52) (ls' := [some (.ref 1), some (.int (nI 3)), some (.int (nI 12))]) (st' := []) (G' := w_11) rfl (by decide) rfl rfl ?_
  refine b_tokL (v1 := nI 3) (v2 := nI 12) (t := 6) (w := lN 13) (by decide) (by decide) (vp_in_nI (by decide) (by decide)) (vp_in_nI (by decide) (by decide)) (by decide +kernel) (by decide +kernel) sh_6 (by decide +kernel) ?_
  refine mV_eq (pc' := 52) (ls' := [some (.ref 1), some (.int (nI 3)), some (.int (nI 13))]) (st' := []) (G' := w_12) rfl (by decide) rfl rfl ?_
  refine b_tokL (v1 := nI 3) (v2 := nI 13) (t := 6) (w := lN 372) (by decide) (by decide) (vp_in_nI (by decide) (by decide)) (vp_in_nI (by decide) (by decide)) (by decide +kernel) (by decide +kernel) sh_6 (by decide +kernel) ?_
  refine mV_eq (pc' := 52) (ls' := [some (.ref 1), some (.int (nI 3)), some (.int (nI 14))]) (st' := []) (G' := w_13) rfl (by decide) rfl rfl ?_
  refine b_tokL (v1 := nI 3) (v2 := nI 14) (t := 6) (w := lN 10056) (by decide) (by decide) (vp_in_nI (by decide) (by decide)) (vp_in_nI (by decide) (by decide)) (by decide +kernel) (by decide +kernel) sh_6 (by decide +kernel) ?_
  refine mV_eq (pc' := 52) (ls' := [some (.ref 1), some (.int (nI 3)), some (.int (nI 15))]) (st' := []) (G' := w_14) rfl (by decide) rfl rfl ?_
  refine b_tokS (v1 := nI 3) (v2 := nI 15) (by decide) (by decide) (vp_in_nI (by decide) (by decide)) (by decide +kernel) ?_
  refine mV_eq (pc' := 52) (ls' := [some (.ref 1), some (.int (nI 4)), some (.int (nI 16))]) (st' := []) (G' := w_14) rfl (by decide) rfl rfl ?_
  refine b_tokL (v1 := nI 4) (v2 := nI 16) (t := 6) (w := lN 4) (by decide) (by decide) (vp_in_nI (by decide) (by decide)) (vp_in_nI (by decide) (by decide)) (by decide +kernel) (by decide +kernel) sh_6 (by decide +kernel) ?_
  refine mV_eq (pc' := 52) (ls' := [some (.ref 1), some (.int (nI 4)), some (.int (nI 17))]) (st' := []) (G' := w_15) rfl (by decide) rfl rfl ?_
  refine b_tokL (v1 := nI 4) (v2 := nI 17) (t := 6) (w := lN 117) (by decide) (by decide) (vp_in_nI (by decide) (by decide)) (vp_in_nI (by decide) (by decide)) (by decide +kernel) (by decide +kernel) sh_6 (by decide +kernel) ?_
  refine mV_eq (pc' := 52) (ls' := [some (.ref 1), some (.int (nI 4)), some (.int (nI 18))]) (st' := []) (G' := w_16) rfl (by decide) rfl rfl ?_
  refine b_tokL (v1 := nI 4) (v2 := nI 18) (t := 6) (w := lN 3181) (by decide) (by decide) (vp_in_nI (by decide) (by decide)) (vp_in_nI (by decide) (by decide)) (by decide +kernel) (by decide +kernel) sh_6 (by decide +kernel) ?_
  refine mV_eq (pc' := 52) (ls' := [some (.ref 1), some (.int (nI 4)), some (.int (nI 19))]) (st' := []) (G' := w_17) rfl (by decide) rfl rfl ?_
  refine b_tokS (v1 := nI 4) (v2 := nI 19) (by decide) (by decide) (vp_in_nI (by decide) (by decide)) (by decide +kernel) ?_
  refine mV_eq (pc' := 52) (ls' := [some (.ref 1), some (.int (nI 5)), some (.int (nI 20))]) (st' := []) (G' := w_17) rfl (by decide) rfl rfl ?_
  refine b_tokL (v1 := nI 5) (v2 := nI 20) (t := 6) (w := lN 15) (by decide) (by decide) (vp_in_nI (by decide) (by decide)) (vp_in_nI (by decide) (by decide)) (by decide +kernel) (by decide +kernel) sh_6 (by decide +kernel) ?_
  refine mV_eq (pc' := 52) (ls' := [some (.ref 1), some (.int (nI 5)), some (.int (nI 21))]) (st' := []) (G' := w_18) rfl (by decide) rfl rfl ?_
  refine b_tokL (v1 := nI 5) (v2 := nI 21) (t := 6) (w := lN 426) (by decide) (by decide) (vp_in_nI (by decide) (by decide)) (vp_in_nI (by decide) (by decide)) (by decide +kernel) (by decide +kernel) sh_6 (by decide +kernel) ?_
  refine mV_eq (pc' := 52) (ls' := [some (.ref 1), some (.int (nI 5)), some (.int (nI 22))]) (st' := []) (G' := w_19) rfl (by decide) rfl rfl ?_
  refine b_tokL (v1 := nI 5) (v2 := nI 22) (t := 6) (w := lN 11522) (by decide) (by decide) (vp_in_nI (by decide) (by decide)) (vp_in_nI (by decide) (by decide)) (by decide +kernel) (by decide +kernel) sh_6 (by decide +kernel) ?_
  refine mV_eq (pc' := 52) (ls' := [some (.ref 1), some (.int (nI 5)), some (.int (nI 23))]) (st' := []) (G' := w_20) rfl (by decide) rfl rfl ?_
  refine b_tokS (v1 := nI 5) (v2 := nI 23) (by decide) (by decide) (vp_in_nI (by decide) (by decide)) (by decide +kernel) ?_
  refine mV_eq (pc' := 52) (ls' := [some (.ref 1), some (.int (nI 6)), some (.int (nI 24))]) (st' := []) (G' := w_20) rfl (by decide) rfl rfl ?_
  refine b_tokL (v1 := nI 6) (v2 := nI 24) (t := 6) (w := lN 7) (by decide) (by decide) (vp_in_nI (by decide) (by decide)) (vp_in_nI (by decide) (by decide)) (by decide +kernel) (by decide +kernel) sh_6 (by decide +kernel) ?_
  refine mV_eq (pc' := 52) (ls' := [some (.ref 1), some (.int (nI 6)), some (.int (nI 25))]) (st' := []) (G' := w_21) rfl (by decide) rfl rfl ?_
  refine b_tokL (v1 := nI 6) (v2 := nI 25) (t := 6) (w := lN 204) (by decide) (by decide) (vp_in_nI (by decide) (by decide)) (vp_in_nI (by decide) (by decide)) (by decide +kernel) (by decide +kernel) sh_6 (by decide +kernel) ?_
  refine mV_eq (pc' := 52) (ls' := [some (.ref 1), some (.int (nI 6)), some (.int (nI 26))]) (st' := []) (G' := w_22) rfl (by decide) rfl rfl ?_
  refine b_tokS (v1 := nI 6) (v2 := nI 26) (by decide) (by decide) (vp_in_nI (by decide) (by decide)) (by decide +kernel) ?_
  refine mV_eq (pc' := 52) (ls' := [some (.ref 1), some (.int (nI 7)), some (.int (nI 27))]) (st' := []) (G' := w_22) rfl (by decide) rfl rfl ?_
  refine b_tokL (v1 := nI 7) (v2 := nI 27) (t := 6) (w := lN 9) (by decide) (by decide) (vp_in_nI (by decide) (by decide)) (vp_in_nI (by decide) (by decide)) (by decide +kernel) (by decide +kernel) sh_6 (by decide +kernel) ?_
  refine mV_eq (pc' := 52) (ls' := [some (.ref 1), some (.int (nI 7)), some (.int (nI 28))]) (st' := []) (G' := w_23) rfl (by decide) rfl rfl ?_
  refine b_tokL (v1 := nI 7) (v2 := nI 28) (t := 6) (w := lN 249) (by decide) (by decide) (vp_in_nI (by decide) (by decide)) (vp_in_nI (by decide) (by decide)) (by decide +kernel) (by decide +kernel) sh_6 (by decide +kernel) ?_
  refine mV_eq (pc' := 52) (ls' := [some (.ref 1), some (.int (nI 7)), some (.int (nI 29))]) (st' := []) (G' := w_24) rfl (by decide) rfl rfl ?_
  refine b_tokS (v1 := nI 7) (v2 := nI 29) (by decide) (by decide) (vp_in_nI (by decide) (by decide)) (by decide +kernel) ?_
  refine mV_eq (pc' := 52) (ls' := [some (.ref 1), some (.int (nI 8)), some (.int (nI 30))]) (st' := []) (G' := w_24) rfl (by decide) rfl rfl ?_
  refine b_tokL (v1 := nI 8) (v2 := nI 30) (t := 6) (w := lN 3) (by decide) (by decide) (vp_in_nI (by decide) (by decide)) (vp_in_nI (by decide) (by decide)) (by decide +kernel) (by decide +kernel) sh_6 (by decide +kernel) ?_
  refine mV_eq (pc' := 52) (ls' := [some (.ref 1), some (.int (nI 8)), some (.int (nI 31))]) (st' := []) (G' := w_25) rfl (by decide) rfl rfl ?_
  refine b_tokL (v1 := nI 8) (v2 := nI 31) (t := 6) (w := lN 82) (by decide) (by decide) (vp_in_nI (by decide) (by decide)) (vp_in_nI (by decide) (by decide)) (by decide +kernel) (by decide +kernel) sh_6 (by decide +kernel) ?_
  refine mV_eq (pc' := 52) (ls' := [some (.ref 1), some (.int (nI 8)), some (.int (nI 32))]) (st' := []) (G' := w_26) rfl (by decide) rfl rfl ?_
  refine b_tokL (v1 := nI 8) (v2 := nI 32) (t := 6) (w := lN 2226) (by decide) (by decide) (vp_in_nI (by decide) (by decide)) (vp_in_nI (by decide) (by decide)) (by decide +kernel) (by decide +kernel) sh_6 (by decide +kernel) ?_
  refine mV_eq (pc' := 52) (ls' := [some (.ref 1), some (.int (nI 8)), some (.int (nI 33))]) (st' := []) (G' := w_27) rfl (by decide) rfl rfl ?_
  refine b_tokL (v1 := nI 8) (v2 := nI 33) (t := 6) (w := lN 60114) (by decide) (by decide) (vp_in_nI (by decide) (by decide)) (vp_in_nI (by decide) (by decide)) (by decide +kernel) (by decide +kernel) sh_6 (by decide +kernel) ?_
  refine mV_eq (pc' := 52) (ls' := [some (.ref 1), some (.int (nI 8)), some (.int (nI 34))]) (st' := []) (G' := w_28) rfl (by decide) rfl rfl ?_
  refine b_tokS (v1 := nI 8) (v2 := nI 34) (by decide) (by decide) (vp_in_nI (by decide) (by decide)) (by decide +kernel) ?_
  refine mV_eq (pc' := 52) (ls' := [some (.ref 1), some (.int (nI 9)), some (.int (nI 35))]) (st' := []) (G' := w_28) rfl (by decide) rfl rfl ?_
  refine b_tokL (v1 := nI 9) (v2 := nI 35) (t := 6) (w := lN 5) (by decide) (by decide) (vp_in_nI (by decide) (by decide)) (vp_in_nI (by decide) (by decide)) (by decide +kernel) (by decide +kernel) sh_6 (by decide +kernel) ?_
  refine mV_eq (pc' := 52) (ls' := [some (.ref 1), some (.int (nI 9)), some (.int (nI 36))]) (st' := []) (G' := w_29) rfl (by decide) rfl rfl ?_
  refine b_tokL (v1 := nI 9) (v2 := nI 36) (t := 6) (w := lN 149) (by decide) (by decide) (vp_in_nI (by decide) (by decide)) (vp_in_nI (by decide) (by decide)) (by decide +kernel) (by decide +kernel) sh_6 (by decide +kernel) ?_
  refine mV_eq (pc' := 52) (ls' := [some (.ref 1), some (.int (nI 9)), some (.int (nI 37))]) (st' := []) (G' := w_30) rfl (by decide) rfl rfl ?_
  refine b_tokL (v1 := nI 9) (v2 := nI 37) (t := 6) (w := lN 4027) (by decide) (by decide) (vp_in_nI (by decide) (by decide)) (vp_in_nI (by decide) (by decide)) (by decide +kernel) (by decide +kernel) sh_6 (by decide +kernel) ?_
  refine mV_eq (pc' := 52) (ls' := [some (.ref 1), some (.int (nI 9)), some (.int (nI 38))]) (st' := []) (G' := w_31) rfl (by decide) rfl rfl ?_
  refine b_tokS (v1 := nI 9) (v2 := nI 38) (by decide) (by decide) (vp_in_nI (by decide) (by decide)) (by decide +kernel) ?_
  refine mV_eq (pc' := 52) (ls' := [some (.ref 1), some (.int (nI 10)), some (.int (nI 39))]) (st' := []) (G' := w_31) rfl (by decide) rfl rfl ?_
  refine b_tokL (v1 := nI 10) (v2 := nI 39) (t := 6) (w := lN 19) (by decide) (by decide) (vp_in_nI (by decide) (by decide)) (vp_in_nI (by decide) (by decide)) (by decide +kernel) (by decide +kernel) sh_6 (by decide +kernel) ?_
  refine mV_eq (pc' := 52) (ls' := [some (.ref 1), some (.int (nI 10)), some (.int (nI 40))]) (st' := []) (G' := w_32) rfl (by decide) rfl rfl ?_
  refine b_tokL (v1 := nI 10) (v2 := nI 40) (t := 6) (w := lN 524) (by decide) (by decide) (vp_in_nI (by decide) (by decide)) (vp_in_nI (by decide) (by decide)) (by decide +kernel) (by decide +kernel) sh_6 (by decide +kernel) ?_
  refine mV_eq (pc' := 52) (ls' := [some (.ref 1), some (.int (nI 10)), some (.int (nI 41))]) (st' := []) (G' := w_33) rfl (by decide) rfl rfl ?_
  refine b_tokL (v1 := nI 10) (v2 := nI 41) (t := 6) (w := lN 14157) (by decide) (by decide) (vp_in_nI (by decide) (by decide)) (vp_in_nI (by decide) (by decide)) (by decide +kernel) (by decide +kernel) sh_6 (by decide +kernel) ?_
  refine mV_eq (pc' := 52) (ls' := [some (.ref 1), some (.int (nI 10)), some (.int (nI 42))]) (st' := []) (G' := w_34) rfl (by decide) rfl rfl ?_
  refine b_tokL (v1 := nI 10) (v2 := nI 42) (t := 6) (w := lN 382255) (by decide) (by decide) (vp_in_nI (by decide) (by decide)) (vp_in_nI (by decide) (by decide)) (by decide +kernel) (by decide +kernel) sh_6 (by decide +kernel) ?_
  refine mV_eq (pc' := 52) (ls' := [some (.ref 1), some (.int (nI 10)), some (.int (nI 43))]) (st' := []) (G' := w_35) rfl (by decide) rfl rfl ?_
  refine b_tokS (v1 := nI 10) (v2 := nI 43) (by decide) (by decide) (vp_in_nI (by decide) (by decide)) (by decide +kernel) ?_
  refine mV_eq (pc' := 52) (ls' := [some (.ref 1), some (.int (nI 11)), some (.int (nI 44))]) (st' := []) (G' := w_35) rfl (by decide) rfl rfl ?_
  refine b_tokL (v1 := nI 11) (v2 := nI 44) (t := 6) (w := lN 11) (by decide) (by decide) (vp_in_nI (by decide) (by decide)) (vp_in_nI (by decide) (by decide)) (by decide +kernel) (by decide +kernel) sh_6 (by decide +kernel) ?_
  refine mV_eq (pc' := 52) (ls' := [some (.ref 1), some (.int (nI 11)), some (.int (nI 45))]) (st' := []) (G' := w_36) rfl (by decide) rfl rfl ?_
  refine b_tokL (v1 := nI 11) (v2 := nI 45) (t := 6) (w := lN 298) (by decide) (by decide) (vp_in_nI (by decide) (by decide)) (vp_in_nI (by decide) (by decide)) (by decide +kernel) (by decide +kernel) sh_6 (by decide +kernel) ?_
  refine mV_eq (pc' := 52) (ls' := [some (.ref 1), some (.int (nI 11)), some (.int (nI 46))]) (st' := []) (G' := w_37) rfl (by decide) rfl rfl ?_
  refine b_tokS (v1 := nI 11) (v2 := nI 46) (by decide) (by decide) (vp_in_nI (by decide) (by decide)) (by decide +kernel) ?_
  refine mV_eq (pc' := 52) (ls' := [some (.ref 1), some (.int (nI 12)), some (.int (nI 47))]) (st' := []) (G' := w_37) rfl (by decide) rfl rfl ?_
  refine b_tokL (v1 := nI 12) (v2 := nI 47) (t := 6) (w := lN 11) (by decide) (by decide) (vp_in_nI (by decide) (by decide)) (vp_in_nI (by decide) (by decide)) (by decide +kernel) (by decide +kernel) sh_6 (by decide +kernel) ?_
  refine mV_eq (pc' := 52) (ls' := [some (.ref 1), some (.int (nI 12)), some (.int (nI 48))]) (st' := []) (G' := w_38) rfl (by decide) rfl rfl ?_
  refine b_tokL (v1 := nI 12) (v2 := nI 48) (t := 6) (w := lN 299) (by decide) (by decide) (vp_in_nI (by decide) (by decide)) (vp_in_nI (by decide) (by decide)) (by decide +kernel) (by decide +kernel) sh_6 (by decide +kernel) ?_
  refine mV_eq (pc' := 52) (ls' := [some (.ref 1), some (.int (nI 12)), some (.int (nI 49))]) (st' := []) (G' := w_39) rfl (by decide) rfl rfl ?_
  refine b_tokS (v1 := nI 12) (v2 := nI 49) (by decide) (by decide) (vp_in_nI (by decide) (by decide)) (by decide +kernel) ?_
  refine mV_eq (pc' := 52) (ls' := [some (.ref 1), some (.int (nI 13)), some (.int (nI 50))]) (st' := []) (G' := w_39) rfl (by decide) rfl rfl ?_
  refine b_tokL (v1 := nI 13) (v2 := nI 50) (t := 6) (w := lN 11) (by decide) (by decide) (vp_in_nI (by decide) (by decide)) (vp_in_nI (by decide) (by decide)) (by decide +kernel) (by decide +kernel) sh_6 (by decide +kernel) ?_
  refine mV_eq (pc' := 52) (ls' := [some (.ref 1), some (.int (nI 13)), some (.int (nI 51))]) (st' := []) (G' := w_40) rfl (by decide) rfl rfl ?_
  refine b_tokL (v1 := nI 13) (v2 := nI 51) (t := 6) (w := lN 300) (by decide) (by decide) (vp_in_nI (by decide) (by decide)) (vp_in_nI (by decide) (by decide)) (by decide +kernel) (by decide +kernel) sh_6 (by decide +kernel) ?_
  refine mV_eq (pc' := 52) (ls' := [some (.ref 1), some (.int (nI 13)), some (.int (nI 52))]) (st' := []) (G' := w_41) rfl (by decide) rfl rfl ?_
  refine b_tokS (v1 := nI 13) (v2 := nI 52) (by decide) (by decide) (vp_in_nI (by decide) (by decide)) (by decide +kernel) ?_
  refine mV_eq (pc' := 52) (ls' := [some (.ref 1), some (.int (nI 14)), some (.int (nI 53))]) (st' := []) (G' := w_41) rfl (by decide) rfl rfl ?_
  refine b_tokL (v1 := nI 14) (v2 := nI 53) (t := 6) (w := lN 11) (by decide) (by decide) (vp_in_nI (by decide) (by decide)) (vp_in_nI (by decide) (by decide)) (by decide +kernel) (by decide +kernel) sh_6 (by decide +kernel) ?_
  refine mV_eq (pc' := 52) (ls' := [some (.ref 1), some (.int (nI 14)), some (.int (nI 54))]) (st' := []) (G' := w_42) rfl (by decide) rfl rfl ?_
  refine b_tokL (v1 := nI 14) (v2 := nI 54) (t := 6) (w := lN 301) (by decide) (by decide) (vp_in_nI (by decide) (by decide)) (vp_in_nI (by decide) (by decide)) (by decide +kernel) (by decide +kernel) sh_6 (by decide +kernel) ?_
  refine mV_eq (pc' := 52) (ls' := [some (.ref 1), some (.int (nI 14)), some (.int (nI 55))]) (st' := []) (G' := w_43) rfl (by decide) rfl rfl ?_
  refine b_tokS (v1 := nI 14) (v2 := nI 55) (by decide) (by decide) (vp_in_nI (by decide) (by decide)) (by decide +kernel) ?_
  refine mV_eq (pc' := 52) (ls' := [some (.ref 1), some (.int (nI 15)), some (.int (nI 56))]) (st' := []) (G' := w_43) rfl (by decide) rfl rfl ?_
  refine b_tokL (v1 := nI 15) (v2 := nI 56) (t := 6) (w := lN 9) (by decide) (by decide) (vp_in_nI (by decide) (by decide)) (vp_in_nI (by decide) (by decide)) (by decide +kernel) (by decide +kernel) sh_6 (by decide +kernel) ?_
  refine mV_eq (pc' := 52) (ls' := [some (.ref 1), some (.int (nI 15)), some (.int (nI 57))]) (st' := []) (G' := w_44) rfl (by decide) rfl rfl ?_
  refine b_tokL (v1 := nI 15) (v2 := nI 57) (t := 6) (w := lN 257) (by decide) (by decide) (vp_in_nI (by decide) (by decide)) (vp_in_nI (by decide) (by decide)) (by decide +kernel) (by decide +kernel) sh_6 (by decide +kernel) ?_
  refine mV_eq (pc' := 52) (ls' := [some (.ref 1), some (.int (nI 15)), some (.int (nI 58))]) (st' := []) (G' := w_45) rfl (by decide) rfl rfl ?_
  refine b_tokS (v1 := nI 15) (v2 := nI 58) (by decide) (by decide) (vp_in_nI (by decide) (by decide)) (by decide +kernel) ?_
  refine mV_eq (pc' := 52) (ls' := [some (.ref 1), some (.int (nI 16)), some (.int (nI 59))]) (st' := []) (G' := w_45) rfl (by decide) rfl rfl ?_
  refine b_tokL (v1 := nI 16) (v2 := nI 59) (t := 6) (w := lN 18) (by decide) (by decide) (vp_in_nI (by decide) (by decide)) (vp_in_nI (by decide) (by decide)) (by decide +kernel) (by decide +kernel) sh_6 (by decide +kernel) ?_
  refine mV_eq (pc' := 52) (ls' := [some (.ref 1), some (.int (nI 16)), some (.int (nI 60))]) (st' := []) (G' := w_46) rfl (by decide) rfl rfl ?_
  refine b_tokL (v1 := nI 16) (v2 := nI 60) (t := 6) (w := lN 501) (by decide) (by decide) (vp_in_nI (by decide) (by decide)) (vp_in_nI (by decide) (by decide)) (by decide +kernel) (by decide +kernel) sh_6 (by decide +kernel) ?_
  refine mV_eq (pc' := 52) (ls' := [some (.ref 1), some (.int (nI 16)), some (.int (nI 61))]) (st' := []) (G' := w_47) rfl (by decide) rfl rfl ?_
  refine b_tokL (v1 := nI 16) (v2 := nI 61) (t := 6) (w := lN 13550) (by decide) (by decide) (vp_in_nI (by decide) (by decide)) (vp_in_nI (by decide) (by decide)) (by decide +kernel) (by decide +kernel) sh_6 (by decide +kernel) ?_
  refine mV_eq (pc' := 52) (ls' := [some (.ref 1), some (.int (nI 16)), some (.int (nI 62))]) (st' := []) (G' := w_48) rfl (by decide) rfl rfl ?_
  refine b_tokS (v1 := nI 16) (v2 := nI 62) (by decide) (by decide) (vp_in_nI (by decide) (by decide)) (by decide +kernel) ?_
  refine mV_eq (pc' := 52) (ls' := [some (.ref 1), some (.int (nI 17)), some (.int (nI 63))]) (st' := []) (G' := w_48) rfl (by decide) rfl rfl ?_
  refine b_tokL (v1 := nI 17) (v2 := nI 63) (t := 6) (w := lN 20) (by decide) (by decide) (vp_in_nI (by decide) (by decide)) (vp_in_nI (by decide) (by decide)) (by decide +kernel) (by decide +kernel) sh_6 (by decide +kernel) ?_
  refine mV_eq (pc' := 52) (ls' := [some (.ref 1), some (.int (nI 17)), some (.int (nI 64))]) (st' := []) (G' := w_49) rfl (by decide) rfl rfl ?_
  refine b_tokL (v1 := nI 17) (v2 := nI 64) (t := 6) (w := lN 558) (by decide) (by decide) (vp_in_nI (by decide) (by decide)) (vp_in_nI (by decide) (by decide)) (by decide +kernel) (by decide +kernel) sh_6 (by decide +kernel) ?_
  refine mV_eq (pc' := 52) (ls' := [some (.ref 1), some (.int (nI 17)), some (.int (nI 65))]) (st' := []) (G' := w_50) rfl (by decide) rfl rfl ?_
  refine b_tokL (v1 := nI 17) (v2 := nI 65) (t := 6) (w := lN 15075) (by decide) (by decide) (vp_in_nI (by decide) (by decide)) (vp_in_nI (by decide) (by decide)) (by decide +kernel) (by decide +kernel) sh_6 (by decide +kernel) ?_
  refine mV_eq (pc' := 52) (ls' := [some (.ref 1), some (.int (nI 17)), some (.int (nI 66))]) (st' := []) (G' := w_51) rfl (by decide) rfl rfl ?_
  refine b_tokL (v1 := nI 17) (v2 := nI 66) (t := 6) (w := lN 407026) (by decide) (by decide) (vp_in_nI (by decide) (by decide)) (vp_in_nI (by decide) (by decide)) (by decide +kernel) (by decide +kernel) sh_6 (by decide +kernel) ?_
  refine mV_eq (pc' := 52) (ls' := [some (.ref 1), some (.int (nI 17)), some (.int (nI 67))]) (st' := []) (G' := w_52) rfl (by decide) rfl rfl ?_
  refine b_tokL (v1 := nI 17) (v2 := nI 67) (t := 6) (w := lN 10989714) (by decide) (by decide) (vp_in_nI (by decide) (by decide)) (vp_in_nI (by decide) (by decide)) (by decide +kernel) (by decide +kernel) sh_6 (by decide +kernel) ?_
  refine mV_eq (pc' := 52) (ls' := [some (.ref 1), some (.int (nI 17)), some (.int (nI 68))]) (st' := []) (G' := w_53) rfl (by decide) rfl rfl ?_
  refine b_tokS (v1 := nI 17) (v2 := nI 68) (by decide) (by decide) (vp_in_nI (by decide) (by decide)) (by decide +kernel) ?_
  refine mV_eq (pc' := 52) (ls' := [some (.ref 1), some (.int (nI 18)), some (.int (nI 69))]) (st' := []) (G' := w_53) rfl (by decide) rfl rfl ?_
  refine b_tokL (v1 := nI 18) (v2 := nI 69) (t := 6) (w := lN 7) (by decide) (by decide) (vp_in_nI (by decide) (by decide)) (vp_in_nI (by decide) (by decide)) (by decide +kernel) (by decide +kernel) sh_6 (by decide +kernel) ?_
  refine mV_eq (pc' := 52) (ls' := [some (.ref 1), some (.int (nI 18)), some (.int (nI 70))]) (st' := []) (G' := w_54) rfl (by decide) rfl rfl ?_
  refine b_tokL (v1 := nI 18) (v2 := nI 70) (t := 6) (w := lN 198) (by decide) (by decide) (vp_in_nI (by decide) (by decide)) (vp_in_nI (by decide) (by decide)) (by decide +kernel) (by decide +kernel) sh_6 (by decide +kernel) ?_
  refine mV_eq (pc' := 52) (ls' := [some (.ref 1), some (.int (nI 18)), some (.int (nI 71))]) (st' := []) (G' := w_55) rfl (by decide) rfl rfl ?_
  refine b_tokL (v1 := nI 18) (v2 := nI 71) (t := 6) (w := lN 5368) (by decide) (by decide) (vp_in_nI (by decide) (by decide)) (vp_in_nI (by decide) (by decide)) (by decide +kernel) (by decide +kernel) sh_6 (by decide +kernel) ?_
  refine mV_eq (pc' := 52) (ls' := [some (.ref 1), some (.int (nI 18)), some (.int (nI 72))]) (st' := []) (G' := w_56) rfl (by decide) rfl rfl ?_
  refine b_tokL (v1 := nI 18) (v2 := nI 72) (t := 6) (w := lN 144941) (by decide) (by decide) (vp_in_nI (by decide) (by decide)) (vp_in_nI (by decide) (by decide)) (by decide +kernel) (by decide +kernel) sh_6 (by decide +kernel) ?_
  refine mV_eq (pc' := 52) (ls' := [some (.ref 1), some (.int (nI 18)), some (.int (nI 73))]) (st' := []) (G' := w_57) rfl (by decide) rfl rfl ?_
  refine b_tokL (v1 := nI 18) (v2 := nI 73) (t := 6) (w := lN 3913426) (by decide) (by decide) (vp_in_nI (by decide) (by decide)) (vp_in_nI (by decide) (by decide)) (by decide +kernel) (by decide +kernel) sh_6 (by decide +kernel) ?_
  refine mV_eq (pc' := 52) (ls' := [some (.ref 1), some (.int (nI 18)), some (.int (nI 74))]) (st' := []) (G' := w_58) rfl (by decide) rfl rfl ?_
  refine b_tokS (v1 := nI 18) (v2 := nI 74) (by decide) (by decide) (vp_in_nI (by decide) (by decide)) (by decide +kernel) ?_
  refine mV_eq (pc' := 52) (ls' := [some (.ref 1), some (.int (nI 19)), some (.int (nI 75))]) (st' := []) (G' := w_58) rfl (by decide) rfl rfl ?_
  refine b_tokL (v1 := nI 19) (v2 := nI 75) (t := 6) (w := lN 6) (by decide) (by decide) (vp_in_nI (by decide) (by decide)) (vp_in_nI (by decide) (by decide)) (by decide +kernel) (by decide +kernel) sh_6 (by decide +kernel) ?_
  refine mV_eq (pc' := 52) (ls' := [some (.ref 1), some (.int (nI 19)), some (.int (nI 76))]) (st' := []) (G' := w_59) rfl (by decide) rfl rfl ?_
  refine b_tokL (v1 := nI 19) (v2 := nI 76) (t := 6) (w := lN 183) (by decide) (by decide) (vp_in_nI (by decide) (by decide)) (vp_in_nI (by decide) (by decide)) (by decide +kernel) (by decide +kernel) sh_6 (by decide +kernel) ?_
  refine mV_eq (pc' := 52) (ls' := [some (.ref 1), some (.int (nI 19)), some (.int (nI 77))]) (st' := []) (G' := w_60) rfl (by decide) rfl rfl ?_
  refine b_tokL (v1 := nI 19) (v2 := nI 77) (t := 6) (w := lN 4946) (by decide) (by decide) (vp_in_nI (by decide) (by decide)) (vp_in_nI (by decide) (by decide)) (by decide +kernel) (by decide +kernel) sh_6 (by decide +kernel) ?_
  refine mV_eq (pc' := 52) (ls' := [some (.ref 1), some (.int (nI 19)), some (.int (nI 78))]) (st' := []) (G' := w_61) rfl (by decide) rfl rfl ?_
  refine b_tokL (v1 := nI 19) (v2 := nI 78) (t := 6) (w := lN 133554) (by decide) (by decide) (vp_in_nI (by decide) (by decide)) (vp_in_nI (by decide) (by decide)) (by decide +kernel) (by decide +kernel) sh_6 (by decide +kernel) ?_
  refine mV_eq (pc' := 52) (ls' := [some (.ref 1), some (.int (nI 19)), some (.int (nI 79))]) (st' := []) (G' := w_62) rfl (by decide) rfl rfl ?_
  exact b_tokE (v1 := nI 19) hK
def w_63 : mm_G := ms_r w_62 0 0 (some 1)
theorem wn_63 : mg_n w_63 = 7 := by decide +kernel
def w_64 : mm_G := mg_b w_63 1
theorem wn_64 : mg_n w_64 = 8 := by decide +kernel
def w_65 : mm_G := mg_b w_64 1
theorem wn_65 : mg_n w_65 = 9 := by decide +kernel
def w_66 : mm_G := ms_r (mg_b (ms_r (mg_b (ms_r (mg_b w_65 1) 8 0 (some 9)) 1) 8 2 (some 10)) 1) 8 3 (some 11)
theorem wn_66 : mg_n w_66 = 12 := by decide +kernel
def w_67 : mm_G := mg_b w_66 1
theorem wn_67 : mg_n w_67 = 13 := by decide +kernel
def w_68 : mm_G := ms_r (mg_b w_67 1) 12 0 (some 13)
theorem wn_68 : mg_n w_68 = 14 := by decide +kernel
set_option maxRecDepth 100000 in
set_option maxHeartbeats 4000000 in
theorem b_12 {l : Launch} {κ : mm_K} {d : Nat} {K : mm_G → Prop} (hK : K w_68) : mC l κ false (d + 1) 1 16 m_X6_init [.ref 12] w_67 (rV K) := by
  refine f_X6_init 12 sh_12 ⟨(by decide +kernel), ?_⟩
  rw [wn_67]
  exact hK
def w_69 : mm_G := ms_i (ms_r w_68 9 0 (some 12)) 12 2 (nI 0)
theorem wn_69 : mg_n w_69 = 14 := by decide +kernel
def w_70 : mm_G := mg_b w_69 1
theorem wn_70 : mg_n w_70 = 15 := by decide +kernel
def w_71 : mm_G := ms_r (mg_b w_70 1) 14 0 (some 15)
theorem wn_71 : mg_n w_71 = 16 := by decide +kernel
set_option maxRecDepth 100000 in
set_option maxHeartbeats 4000000 in
theorem b_14 {l : Launch} {κ : mm_K} {d : Nat} {K : mm_G → Prop} (hK : K w_71) : mC l κ false (d + 1) 1 16 m_X6_init [.ref 14] w_70 (rV K) := by
  refine f_X6_init 14 sh_14 ⟨(by decide +kernel), ?_⟩
  rw [wn_70]
  exact hK
def w_72 : mm_G := ms_i (ms_r w_71 9 1 (some 14)) 14 2 (nI 1)
theorem wn_72 : mg_n w_72 = 16 := by decide +kernel
def w_73 : mm_G := mg_b w_72 1
theorem wn_73 : mg_n w_73 = 17 := by decide +kernel
def w_74 : mm_G := ms_r (mg_b w_73 1) 16 0 (some 17)
theorem wn_74 : mg_n w_74 = 18 := by decide +kernel
set_option maxRecDepth 100000 in
set_option maxHeartbeats 4000000 in
theorem b_16 {l : Launch} {κ : mm_K} {d : Nat} {K : mm_G → Prop} (hK : K w_74) : mC l κ false (d + 1) 1 16 m_X6_init [.ref 16] w_73 (rV K) := by
  refine f_X6_init 16 sh_16 ⟨(by decide +kernel), ?_⟩
  rw [wn_73]
  exact hK
def w_75 : mm_G := ms_i (ms_r w_74 9 2 (some 16)) 16 2 (nI 2)
theorem wn_75 : mg_n w_75 = 18 := by decide +kernel
def w_76 : mm_G := mg_b w_75 1
theorem wn_76 : mg_n w_76 = 19 := by decide +kernel
def w_77 : mm_G := ms_r (mg_b w_76 1) 18 0 (some 19)
theorem wn_77 : mg_n w_77 = 20 := by decide +kernel
set_option maxRecDepth 100000 in
set_option maxHeartbeats 4000000 in
theorem b_18 {l : Launch} {κ : mm_K} {d : Nat} {K : mm_G → Prop} (hK : K w_77) : mC l κ false (d + 1) 1 16 m_X6_init [.ref 18] w_76 (rV K) := by
  refine f_X6_init 18 sh_18 ⟨(by decide +kernel), ?_⟩
  rw [wn_76]
  exact hK
def w_78 : mm_G := ms_i (ms_r w_77 9 3 (some 18)) 18 2 (nI 3)
theorem wn_78 : mg_n w_78 = 20 := by decide +kernel
set_option maxRecDepth 100000 in
set_option maxHeartbeats 4000000 in
theorem b_8 {l : Launch} {κ : mm_K} {d : Nat} {K : mm_G → Prop} (hK : K w_78) : mC l κ false (d + 2) 11 124 m_X7_init [.ref 8] w_65 (rV K) := by
  refine f_X7_init 8 sh_8 ⟨(by decide +kernel), (by decide +kernel), (by decide +kernel), ?_⟩
  rw [wn_65]
  refine mV_eq (pc' := 30) (ls' := [some (.ref 8), some (.int (nI 0))]) (st' := []) (G' := w_66) rfl rfl rfl rfl ?_
  refine q_X7_init_30 8 sh_8 (nI 0) ⟨fun h => absurd h (by decide), fun _ => ⟨9, (by decide +kernel), sh_9, 7, 76, rfl, rfl, (by decide +kernel), 6, 60, rfl, rfl, ?_⟩⟩
  rw [wn_66]
  refine b_12 (d := d) ?_
  refine ⟨vp_in_nI (by decide) (by decide), 9, (by decide +kernel), sh_9, vp_in_nI (by decide) (by decide), 12, (by decide +kernel), sh_12, ?_⟩
  refine mV_eq (pc' := 30) (ls' := [some (.ref 8), some (.int (nI 1))]) (st' := []) (G' := w_69) rfl (by decide) rfl rfl ?_
  refine q_X7_init_30 8 sh_8 (nI 1) ⟨fun h => absurd h (by decide), fun _ => ⟨9, (by decide +kernel), sh_9, 5, 56, rfl, rfl, (by decide +kernel), 4, 40, rfl, rfl, ?_⟩⟩
  rw [wn_69]
  refine b_14 (d := d) ?_
  refine ⟨vp_in_nI (by decide) (by decide), 9, (by decide +kernel), sh_9, vp_in_nI (by decide) (by decide), 14, (by decide +kernel), sh_14, ?_⟩
  refine mV_eq (pc' := 30) (ls' := [some (.ref 8), some (.int (nI 2))]) (st' := []) (G' := w_72) rfl (by decide) rfl rfl ?_
  refine q_X7_init_30 8 sh_8 (nI 2) ⟨fun h => absurd h (by decide), fun _ => ⟨9, (by decide +kernel), sh_9, 3, 36, rfl, rfl, (by decide +kernel), 2, 20, rfl, rfl, ?_⟩⟩
  rw [wn_72]
  refine b_16 (d := d) ?_
  refine ⟨vp_in_nI (by decide) (by decide), 9, (by decide +kernel), sh_9, vp_in_nI (by decide) (by decide), 16, (by decide +kernel), sh_16, ?_⟩
  refine mV_eq (pc' := 30) (ls' := [some (.ref 8), some (.int (nI 3))]) (st' := []) (G' := w_75) rfl (by decide) rfl rfl ?_
  refine q_X7_init_30 8 sh_8 (nI 3) ⟨fun h => absurd h (by decide), fun _ => ⟨9, (by decide +kernel), sh_9, 1, 16, rfl, rfl, (by decide +kernel), 0, 0, rfl, rfl, ?_⟩⟩
  rw [wn_75]
  refine b_18 (d := d) ?_
  refine ⟨vp_in_nI (by decide) (by decide), 9, (by decide +kernel), sh_9, vp_in_nI (by decide) (by decide), 18, (by decide +kernel), sh_18, ?_⟩
  refine mV_eq (pc' := 30) (ls' := [some (.ref 8), some (.int (nI 4))]) (st' := []) (G' := w_78) rfl (by decide) rfl rfl ?_
  exact q_X7_init_30 8 sh_8 (nI 4) ⟨fun _ => hK, fun h => absurd (by decide) h⟩
def w_79 : mm_G := mg_b (ms_r w_78 7 0 (some 8)) 1
theorem wn_79 : mg_n w_79 = 21 := by decide +kernel
def w_80 : mm_G := ms_i (ms_r (mg_b (ms_r (mg_b (ms_r (mg_b (ms_r (mm_fillr w_79 8) 20 0 (some 21)) 1) 20 1 (some 30)) 1) 20 2 (some 31)) 1) 20 3 (some 32)) 20 5 (nI 100)
theorem wn_80 : mg_n w_80 = 33 := by decide +kernel
def w_81 : mm_G := mg_b w_80 1
theorem wn_81 : mg_n w_81 = 34 := by decide +kernel
def w_82 : mm_G := ms_r (mg_b w_81 1) 33 0 (some 34)
theorem wn_82 : mg_n w_82 = 35 := by decide +kernel
set_option maxRecDepth 100000 in
set_option maxHeartbeats 4000000 in
theorem b_33 {l : Launch} {κ : mm_K} {d : Nat} {K : mm_G → Prop} (hK : K w_82) : mC l κ false (d + 1) 1 8 m_X0_init [.ref 33] w_81 (rV K) := by
  refine f_X0_init 33 sh_33 ⟨(by decide +kernel), ?_⟩
  rw [wn_81]
  exact hK
def w_83 : mm_G := ms_r w_82 31 0 (some 33)
theorem wn_83 : mg_n w_83 = 35 := by decide +kernel
def w_84 : mm_G := mg_b w_83 1
theorem wn_84 : mg_n w_84 = 36 := by decide +kernel
def w_85 : mm_G := ms_r (mg_b w_84 1) 35 0 (some 36)
theorem wn_85 : mg_n w_85 = 37 := by decide +kernel
set_option maxRecDepth 100000 in
set_option maxHeartbeats 4000000 in
theorem b_35 {l : Launch} {κ : mm_K} {d : Nat} {K : mm_G → Prop} (hK : K w_85) : mC l κ false (d + 1) 1 8 m_X0_init [.ref 35] w_84 (rV K) := by
  refine f_X0_init 35 sh_35 ⟨(by decide +kernel), ?_⟩
  rw [wn_84]
  exact hK
def w_86 : mm_G := ms_r w_85 31 1 (some 35)
theorem wn_86 : mg_n w_86 = 37 := by decide +kernel
def w_87 : mm_G := mg_b w_86 1
theorem wn_87 : mg_n w_87 = 38 := by decide +kernel
def w_88 : mm_G := ms_r (mg_b w_87 1) 37 0 (some 38)
theorem wn_88 : mg_n w_88 = 39 := by decide +kernel
set_option maxRecDepth 100000 in
set_option maxHeartbeats 4000000 in
theorem b_37 {l : Launch} {κ : mm_K} {d : Nat} {K : mm_G → Prop} (hK : K w_88) : mC l κ false (d + 1) 1 8 m_X0_init [.ref 37] w_87 (rV K) := by
  refine f_X0_init 37 sh_37 ⟨(by decide +kernel), ?_⟩
  rw [wn_87]
  exact hK
def w_89 : mm_G := ms_r w_88 31 2 (some 37)
theorem wn_89 : mg_n w_89 = 39 := by decide +kernel
def w_90 : mm_G := mg_b w_89 1
theorem wn_90 : mg_n w_90 = 40 := by decide +kernel
def w_91 : mm_G := ms_r (mg_b w_90 1) 39 0 (some 40)
theorem wn_91 : mg_n w_91 = 41 := by decide +kernel
set_option maxRecDepth 100000 in
set_option maxHeartbeats 4000000 in
theorem b_39 {l : Launch} {κ : mm_K} {d : Nat} {K : mm_G → Prop} (hK : K w_91) : mC l κ false (d + 1) 1 8 m_X0_init [.ref 39] w_90 (rV K) := by
  refine f_X0_init 39 sh_39 ⟨(by decide +kernel), ?_⟩
  rw [wn_90]
  exact hK
def w_92 : mm_G := ms_r w_91 31 3 (some 39)
theorem wn_92 : mg_n w_92 = 41 := by decide +kernel
def w_93 : mm_G := mg_b w_92 1
theorem wn_93 : mg_n w_93 = 42 := by decide +kernel
def w_94 : mm_G := ms_r (mg_b w_93 1) 41 0 (some 42)
theorem wn_94 : mg_n w_94 = 43 := by decide +kernel
set_option maxRecDepth 100000 in
set_option maxHeartbeats 4000000 in
theorem b_41 {l : Launch} {κ : mm_K} {d : Nat} {K : mm_G → Prop} (hK : K w_94) : mC l κ false (d + 1) 1 8 m_X0_init [.ref 41] w_93 (rV K) := by
  refine f_X0_init 41 sh_41 ⟨(by decide +kernel), ?_⟩
  rw [wn_93]
  exact hK
def w_95 : mm_G := ms_r w_94 31 4 (some 41)
theorem wn_95 : mg_n w_95 = 43 := by decide +kernel
def w_96 : mm_G := mg_b w_95 1
theorem wn_96 : mg_n w_96 = 44 := by decide +kernel
def w_97 : mm_G := ms_r (mg_b w_96 1) 43 0 (some 44)
theorem wn_97 : mg_n w_97 = 45 := by decide +kernel
set_option maxRecDepth 100000 in
set_option maxHeartbeats 4000000 in
theorem b_43 {l : Launch} {κ : mm_K} {d : Nat} {K : mm_G → Prop} (hK : K w_97) : mC l κ false (d + 1) 1 8 m_X0_init [.ref 43] w_96 (rV K) := by
  refine f_X0_init 43 sh_43 ⟨(by decide +kernel), ?_⟩
  rw [wn_96]
  exact hK
def w_98 : mm_G := ms_r w_97 31 5 (some 43)
theorem wn_98 : mg_n w_98 = 45 := by decide +kernel
def w_99 : mm_G := mg_b w_98 1
theorem wn_99 : mg_n w_99 = 46 := by decide +kernel
def w_100 : mm_G := ms_r (mg_b w_99 1) 45 0 (some 46)
theorem wn_100 : mg_n w_100 = 47 := by decide +kernel
set_option maxRecDepth 100000 in
set_option maxHeartbeats 4000000 in
theorem b_45 {l : Launch} {κ : mm_K} {d : Nat} {K : mm_G → Prop} (hK : K w_100) : mC l κ false (d + 1) 1 8 m_X0_init [.ref 45] w_99 (rV K) := by
  refine f_X0_init 45 sh_45 ⟨(by decide +kernel), ?_⟩
  rw [wn_99]
  exact hK
def w_101 : mm_G := ms_r w_100 31 6 (some 45)
theorem wn_101 : mg_n w_101 = 47 := by decide +kernel
def w_102 : mm_G := mg_b w_101 1
theorem wn_102 : mg_n w_102 = 48 := by decide +kernel
def w_103 : mm_G := ms_r (mg_b w_102 1) 47 0 (some 48)
theorem wn_103 : mg_n w_103 = 49 := by decide +kernel
set_option maxRecDepth 100000 in
set_option maxHeartbeats 4000000 in
theorem b_47 {l : Launch} {κ : mm_K} {d : Nat} {K : mm_G → Prop} (hK : K w_103) : mC l κ false (d + 1) 1 8 m_X0_init [.ref 47] w_102 (rV K) := by
  refine f_X0_init 47 sh_47 ⟨(by decide +kernel), ?_⟩
  rw [wn_102]
  exact hK
def w_104 : mm_G := ms_r w_103 31 7 (some 47)
theorem wn_104 : mg_n w_104 = 49 := by decide +kernel
set_option maxRecDepth 100000 in
set_option maxHeartbeats 4000000 in
theorem b_20 {l : Launch} {κ : mm_K} {d : Nat} {K : mm_G → Prop} (hK : K w_104) : mC l κ false (d + 2) 28 176 m_X11_init [.ref 20] w_79 (rV K) := by
  refine f_X11_init 20 sh_20 ⟨(by decide +kernel), by rw [wn_79]; decide +kernel, (by decide +kernel), (by decide +kernel), (by decide +kernel), ?_⟩
  rw [wn_79]
  refine mV_eq (pc' := 49) (ls' := [some (.ref 20), some (.int (nI 0))]) (st' := []) (G' := w_80) rfl rfl rfl rfl ?_
  refine q_X11_init_49 20 sh_20 (nI 0) ⟨fun h => absurd h (by decide), fun _ => ⟨31, (by decide +kernel), sh_31, 15, 92, rfl, rfl, (by decide +kernel), 14, 84, rfl, rfl, ?_⟩⟩
  rw [wn_80]
  refine b_33 (d := d) ?_
  refine ⟨vp_in_nI (by decide) (by decide), ?_⟩
  refine mV_eq (pc' := 49) (ls' := [some (.ref 20), some (.int (nI 1))]) (st' := []) (G' := w_83) rfl (by decide) rfl rfl ?_
  refine q_X11_init_49 20 sh_20 (nI 1) ⟨fun h => absurd h (by decide), fun _ => ⟨31, (by decide +kernel), sh_31, 13, 80, rfl, rfl, (by decide +kernel), 12, 72, rfl, rfl, ?_⟩⟩
  rw [wn_83]
  refine b_35 (d := d) ?_
  refine ⟨vp_in_nI (by decide) (by decide), ?_⟩
  refine mV_eq (pc' := 49) (ls' := [some (.ref 20), some (.int (nI 2))]) (st' := []) (G' := w_86) rfl (by decide) rfl rfl ?_
  refine q_X11_init_49 20 sh_20 (nI 2) ⟨fun h => absurd h (by decide), fun _ => ⟨31, (by decide +kernel), sh_31, 11, 68, rfl, rfl, (by decide +kernel), 10, 60, rfl, rfl, ?_⟩⟩
  rw [wn_86]
  refine b_37 (d := d) ?_
  refine ⟨vp_in_nI (by decide) (by decide), ?_⟩
  refine mV_eq (pc' := 49) (ls' := [some (.ref 20), some (.int (nI 3))]) (st' := []) (G' := w_89) rfl (by decide) rfl rfl ?_
  refine q_X11_init_49 20 sh_20 (nI 3) ⟨fun h => absurd h (by decide), fun _ => ⟨31, (by decide +kernel), sh_31, 9, 56, rfl, rfl, (by decide +kernel), 8, 48, rfl, rfl, ?_⟩⟩
  rw [wn_89]
  refine b_39 (d := d) ?_
  refine ⟨vp_in_nI (by decide) (by decide), ?_⟩
  refine mV_eq (pc' := 49) (ls' := [some (.ref 20), some (.int (nI 4))]) (st' := []) (G' := w_92) rfl (by decide) rfl rfl ?_
  refine q_X11_init_49 20 sh_20 (nI 4) ⟨fun h => absurd h (by decide), fun _ => ⟨31, (by decide +kernel), sh_31, 7, 44, rfl, rfl, (by decide +kernel), 6, 36, rfl, rfl, ?_⟩⟩
  rw [wn_92]
  refine b_41 (d := d) ?_
  refine ⟨vp_in_nI (by decide) (by decide), ?_⟩
  refine mV_eq (pc' := 49) (ls' := [some (.ref 20), some (.int (nI 5))]) (st' := []) (G' := w_95) rfl (by decide) rfl rfl ?_
  refine q_X11_init_49 20 sh_20 (nI 5) ⟨fun h => absurd h (by decide), fun _ => ⟨31, (by decide +kernel), sh_31, 5, 32, rfl, rfl, (by decide +kernel), 4, 24, rfl, rfl, ?_⟩⟩
  rw [wn_95]
  refine b_43 (d := d) ?_
  refine ⟨vp_in_nI (by decide) (by decide), ?_⟩
  refine mV_eq (pc' := 49) (ls' := [some (.ref 20), some (.int (nI 6))]) (st' := []) (G' := w_98) rfl (by decide) rfl rfl ?_
  refine q_X11_init_49 20 sh_20 (nI 6) ⟨fun h => absurd h (by decide), fun _ => ⟨31, (by decide +kernel), sh_31, 3, 20, rfl, rfl, (by decide +kernel), 2, 12, rfl, rfl, ?_⟩⟩
  rw [wn_98]
  refine b_45 (d := d) ?_
  refine ⟨vp_in_nI (by decide) (by decide), ?_⟩
  refine mV_eq (pc' := 49) (ls' := [some (.ref 20), some (.int (nI 7))]) (st' := []) (G' := w_101) rfl (by decide) rfl rfl ?_
  refine q_X11_init_49 20 sh_20 (nI 7) ⟨fun h => absurd h (by decide), fun _ => ⟨31, (by decide +kernel), sh_31, 1, 8, rfl, rfl, (by decide +kernel), 0, 0, rfl, rfl, ?_⟩⟩
  rw [wn_101]
  refine b_47 (d := d) ?_
  refine ⟨vp_in_nI (by decide) (by decide), ?_⟩
  refine mV_eq (pc' := 49) (ls' := [some (.ref 20), some (.int (nI 8))]) (st' := []) (G' := w_104) rfl (by decide) rfl rfl ?_
  exact q_X11_init_49 20 sh_20 (nI 8) ⟨fun _ => hK, fun h => absurd (by decide) h⟩
def w_105 : mm_G := ms_r (ms_r (mg_b (ms_r w_104 7 1 (some 20)) 1) 7 5 (some 49)) 7 4 (some 1)
theorem wn_105 : mg_n w_105 = 50 := by decide +kernel
set_option maxRecDepth 100000 in
set_option maxHeartbeats 4000000 in
theorem b_7 {l : Launch} {κ : mm_K} {d : Nat} {K : mm_G → Prop} (hK : K w_105) : mC l κ false (d + 3) 42 328 m_X5_init [.ref 7, .ref 1] w_64 (rV K) := by
  refine f_X5_init 7 sh_7 1 ⟨(by decide +kernel), ?_⟩
  rw [wn_64]
  refine b_8 (d := d) ⟨(by decide +kernel), ?_⟩
  rw [wn_78]
  refine b_20 (d := d) ⟨(by decide +kernel), ?_⟩
  rw [wn_104]
  exact hK
def w_106 : mm_G := mg_b (ms_r w_105 0 1 (some 7)) 1
theorem wn_106 : mg_n w_106 = 51 := by decide +kernel
def w_107 : mm_G := ms_r (mg_b (ms_r (mg_b (ms_r (mg_b w_106 1) 50 0 (some 51)) 1) 50 2 (some 52)) 1) 50 3 (some 53)
theorem wn_107 : mg_n w_107 = 54 := by decide +kernel
def w_108 : mm_G := mg_b w_107 1
theorem wn_108 : mg_n w_108 = 55 := by decide +kernel
def w_109 : mm_G := ms_r (mg_b w_108 1) 54 0 (some 55)
theorem wn_109 : mg_n w_109 = 56 := by decide +kernel
set_option maxRecDepth 100000 in
set_option maxHeartbeats 4000000 in
theorem b_54 {l : Launch} {κ : mm_K} {d : Nat} {K : mm_G → Prop} (hK : K w_109) : mC l κ false (d + 1) 1 16 m_X6_init [.ref 54] w_108 (rV K) := by
  refine f_X6_init 54 sh_54 ⟨(by decide +kernel), ?_⟩
  rw [wn_108]
  exact hK
def w_110 : mm_G := ms_i (ms_r w_109 51 0 (some 54)) 54 2 (nI 0)
theorem wn_110 : mg_n w_110 = 56 := by decide +kernel
def w_111 : mm_G := mg_b w_110 1
theorem wn_111 : mg_n w_111 = 57 := by decide +kernel
def w_112 : mm_G := ms_r (mg_b w_111 1) 56 0 (some 57)
theorem wn_112 : mg_n w_112 = 58 := by decide +kernel
set_option maxRecDepth 100000 in
set_option maxHeartbeats 4000000 in
theorem b_56 {l : Launch} {κ : mm_K} {d : Nat} {K : mm_G → Prop} (hK : K w_112) : mC l κ false (d + 1) 1 16 m_X6_init [.ref 56] w_111 (rV K) := by
  refine f_X6_init 56 sh_56 ⟨(by decide +kernel), ?_⟩
  rw [wn_111]
  exact hK
def w_113 : mm_G := ms_i (ms_r w_112 51 1 (some 56)) 56 2 (nI 1)
theorem wn_113 : mg_n w_113 = 58 := by decide +kernel
def w_114 : mm_G := mg_b w_113 1
theorem wn_114 : mg_n w_114 = 59 := by decide +kernel
def w_115 : mm_G := ms_r (mg_b w_114 1) 58 0 (some 59)
theorem wn_115 : mg_n w_115 = 60 := by decide +kernel
set_option maxRecDepth 100000 in
set_option maxHeartbeats 4000000 in
theorem b_58 {l : Launch} {κ : mm_K} {d : Nat} {K : mm_G → Prop} (hK : K w_115) : mC l κ false (d + 1) 1 16 m_X6_init [.ref 58] w_114 (rV K) := by
  refine f_X6_init 58 sh_58 ⟨(by decide +kernel), ?_⟩
  rw [wn_114]
  exact hK
def w_116 : mm_G := ms_i (ms_r w_115 51 2 (some 58)) 58 2 (nI 2)
theorem wn_116 : mg_n w_116 = 60 := by decide +kernel
def w_117 : mm_G := mg_b w_116 1
theorem wn_117 : mg_n w_117 = 61 := by decide +kernel
def w_118 : mm_G := ms_r (mg_b w_117 1) 60 0 (some 61)
theorem wn_118 : mg_n w_118 = 62 := by decide +kernel
set_option maxRecDepth 100000 in
set_option maxHeartbeats 4000000 in
theorem b_60 {l : Launch} {κ : mm_K} {d : Nat} {K : mm_G → Prop} (hK : K w_118) : mC l κ false (d + 1) 1 16 m_X6_init [.ref 60] w_117 (rV K) := by
  refine f_X6_init 60 sh_60 ⟨(by decide +kernel), ?_⟩
  rw [wn_117]
  exact hK
def w_119 : mm_G := ms_i (ms_r w_118 51 3 (some 60)) 60 2 (nI 3)
theorem wn_119 : mg_n w_119 = 62 := by decide +kernel
set_option maxRecDepth 100000 in
set_option maxHeartbeats 4000000 in
theorem b_50 {l : Launch} {κ : mm_K} {d : Nat} {K : mm_G → Prop} (hK : K w_119) : mC l κ false (d + 2) 11 124 m_X7_init [.ref 50] w_106 (rV K) := by
  refine f_X7_init 50 sh_50 ⟨(by decide +kernel), (by decide +kernel), (by decide +kernel), ?_⟩
  rw [wn_106]
  refine mV_eq (pc' := 30) (ls' := [some (.ref 50), some (.int (nI 0))]) (st' := []) (G' := w_107) rfl rfl rfl rfl ?_
  refine q_X7_init_30 50 sh_50 (nI 0) ⟨fun h => absurd h (by decide), fun _ => ⟨51, (by decide +kernel), sh_51, 7, 76, rfl, rfl, (by decide +kernel), 6, 60, rfl, rfl, ?_⟩⟩
  rw [wn_107]
  refine b_54 (d := d) ?_
  refine ⟨vp_in_nI (by decide) (by decide), 51, (by decide +kernel), sh_51, vp_in_nI (by decide) (by decide), 54, (by decide +kernel), sh_54, ?_⟩
  refine mV_eq (pc' := 30) (ls' := [some (.ref 50), some (.int (nI 1))]) (st' := []) (G' := w_110) rfl (by decide) rfl rfl ?_
  refine q_X7_init_30 50 sh_50 (nI 1) ⟨fun h => absurd h (by decide), fun _ => ⟨51, (by decide +kernel), sh_51, 5, 56, rfl, rfl, (by decide +kernel), 4, 40, rfl, rfl, ?_⟩⟩
  rw [wn_110]
  refine b_56 (d := d) ?_
  refine ⟨vp_in_nI (by decide) (by decide), 51, (by decide +kernel), sh_51, vp_in_nI (by decide) (by decide), 56, (by decide +kernel), sh_56, ?_⟩
  refine mV_eq (pc' := 30) (ls' := [some (.ref 50), some (.int (nI 2))]) (st' := []) (G' := w_113) rfl (by decide) rfl rfl ?_
  refine q_X7_init_30 50 sh_50 (nI 2) ⟨fun h => absurd h (by decide), fun _ => ⟨51, (by decide +kernel), sh_51, 3, 36, rfl, rfl, (by decide +kernel), 2, 20, rfl, rfl, ?_⟩⟩
  rw [wn_113]
  refine b_58 (d := d) ?_
  refine ⟨vp_in_nI (by decide) (by decide), 51, (by decide +kernel), sh_51, vp_in_nI (by decide) (by decide), 58, (by decide +kernel), sh_58, ?_⟩
  refine mV_eq (pc' := 30) (ls' := [some (.ref 50), some (.int (nI 3))]) (st' := []) (G' := w_116) rfl (by decide) rfl rfl ?_
  refine q_X7_init_30 50 sh_50 (nI 3) ⟨fun h => absurd h (by decide), fun _ => ⟨51, (by decide +kernel), sh_51, 1, 16, rfl, rfl, (by decide +kernel), 0, 0, rfl, rfl, ?_⟩⟩
  rw [wn_116]
  refine b_60 (d := d) ?_
  refine ⟨vp_in_nI (by decide) (by decide), 51, (by decide +kernel), sh_51, vp_in_nI (by decide) (by decide), 60, (by decide +kernel), sh_60, ?_⟩
  refine mV_eq (pc' := 30) (ls' := [some (.ref 50), some (.int (nI 4))]) (st' := []) (G' := w_119) rfl (by decide) rfl rfl ?_
  exact q_X7_init_30 50 sh_50 (nI 4) ⟨fun _ => hK, fun h => absurd (by decide) h⟩
def w_120 : mm_G := mg_b (ms_r w_119 0 2 (some 50)) 1
theorem wn_120 : mg_n w_120 = 63 := by decide +kernel
def w_121 : mm_G := ms_i (ms_r (mg_b (ms_r (mg_b (ms_r (mg_b (ms_r (mm_fillr w_120 8) 62 0 (some 63)) 1) 62 1 (some 72)) 1) 62 2 (some 73)) 1) 62 3 (some 74)) 62 5 (nI 100)
theorem wn_121 : mg_n w_121 = 75 := by decide +kernel
def w_122 : mm_G := mg_b w_121 1
theorem wn_122 : mg_n w_122 = 76 := by decide +kernel
def w_123 : mm_G := ms_r (mg_b w_122 1) 75 0 (some 76)
theorem wn_123 : mg_n w_123 = 77 := by decide +kernel
set_option maxRecDepth 100000 in
set_option maxHeartbeats 4000000 in
theorem b_75 {l : Launch} {κ : mm_K} {d : Nat} {K : mm_G → Prop} (hK : K w_123) : mC l κ false (d + 1) 1 8 m_X0_init [.ref 75] w_122 (rV K) := by
  refine f_X0_init 75 sh_75 ⟨(by decide +kernel), ?_⟩
  rw [wn_122]
  exact hK
def w_124 : mm_G := ms_r w_123 73 0 (some 75)
theorem wn_124 : mg_n w_124 = 77 := by decide +kernel
def w_125 : mm_G := mg_b w_124 1
theorem wn_125 : mg_n w_125 = 78 := by decide +kernel
def w_126 : mm_G := ms_r (mg_b w_125 1) 77 0 (some 78)
theorem wn_126 : mg_n w_126 = 79 := by decide +kernel
set_option maxRecDepth 100000 in
set_option maxHeartbeats 4000000 in
theorem b_77 {l : Launch} {κ : mm_K} {d : Nat} {K : mm_G → Prop} (hK : K w_126) : mC l κ false (d + 1) 1 8 m_X0_init [.ref 77] w_125 (rV K) := by
  refine f_X0_init 77 sh_77 ⟨(by decide +kernel), ?_⟩
  rw [wn_125]
  exact hK
def w_127 : mm_G := ms_r w_126 73 1 (some 77)
theorem wn_127 : mg_n w_127 = 79 := by decide +kernel
def w_128 : mm_G := mg_b w_127 1
theorem wn_128 : mg_n w_128 = 80 := by decide +kernel
def w_129 : mm_G := ms_r (mg_b w_128 1) 79 0 (some 80)
theorem wn_129 : mg_n w_129 = 81 := by decide +kernel
set_option maxRecDepth 100000 in
set_option maxHeartbeats 4000000 in
theorem b_79 {l : Launch} {κ : mm_K} {d : Nat} {K : mm_G → Prop} (hK : K w_129) : mC l κ false (d + 1) 1 8 m_X0_init [.ref 79] w_128 (rV K) := by
  refine f_X0_init 79 sh_79 ⟨(by decide +kernel), ?_⟩
  rw [wn_128]
  exact hK
def w_130 : mm_G := ms_r w_129 73 2 (some 79)
theorem wn_130 : mg_n w_130 = 81 := by decide +kernel
def w_131 : mm_G := mg_b w_130 1
theorem wn_131 : mg_n w_131 = 82 := by decide +kernel
def w_132 : mm_G := ms_r (mg_b w_131 1) 81 0 (some 82)
theorem wn_132 : mg_n w_132 = 83 := by decide +kernel
set_option maxRecDepth 100000 in
set_option maxHeartbeats 4000000 in
theorem b_81 {l : Launch} {κ : mm_K} {d : Nat} {K : mm_G → Prop} (hK : K w_132) : mC l κ false (d + 1) 1 8 m_X0_init [.ref 81] w_131 (rV K) := by
  refine f_X0_init 81 sh_81 ⟨(by decide +kernel), ?_⟩
  rw [wn_131]
  exact hK
def w_133 : mm_G := ms_r w_132 73 3 (some 81)
theorem wn_133 : mg_n w_133 = 83 := by decide +kernel
def w_134 : mm_G := mg_b w_133 1
theorem wn_134 : mg_n w_134 = 84 := by decide +kernel
def w_135 : mm_G := ms_r (mg_b w_134 1) 83 0 (some 84)
theorem wn_135 : mg_n w_135 = 85 := by decide +kernel
set_option maxRecDepth 100000 in
set_option maxHeartbeats 4000000 in
theorem b_83 {l : Launch} {κ : mm_K} {d : Nat} {K : mm_G → Prop} (hK : K w_135) : mC l κ false (d + 1) 1 8 m_X0_init [.ref 83] w_134 (rV K) := by
  refine f_X0_init 83 sh_83 ⟨(by decide +kernel), ?_⟩
  rw [wn_134]
  exact hK
def w_136 : mm_G := ms_r w_135 73 4 (some 83)
theorem wn_136 : mg_n w_136 = 85 := by decide +kernel
def w_137 : mm_G := mg_b w_136 1
theorem wn_137 : mg_n w_137 = 86 := by decide +kernel
def w_138 : mm_G := ms_r (mg_b w_137 1) 85 0 (some 86)
theorem wn_138 : mg_n w_138 = 87 := by decide +kernel
set_option maxRecDepth 100000 in
set_option maxHeartbeats 4000000 in
theorem b_85 {l : Launch} {κ : mm_K} {d : Nat} {K : mm_G → Prop} (hK : K w_138) : mC l κ false (d + 1) 1 8 m_X0_init [.ref 85] w_137 (rV K) := by
  refine f_X0_init 85 sh_85 ⟨(by decide +kernel), ?_⟩
  rw [wn_137]
  exact hK
def w_139 : mm_G := ms_r w_138 73 5 (some 85)
theorem wn_139 : mg_n w_139 = 87 := by decide +kernel
def w_140 : mm_G := mg_b w_139 1
theorem wn_140 : mg_n w_140 = 88 := by decide +kernel
def w_141 : mm_G := ms_r (mg_b w_140 1) 87 0 (some 88)
theorem wn_141 : mg_n w_141 = 89 := by decide +kernel
set_option maxRecDepth 100000 in
set_option maxHeartbeats 4000000 in
theorem b_87 {l : Launch} {κ : mm_K} {d : Nat} {K : mm_G → Prop} (hK : K w_141) : mC l κ false (d + 1) 1 8 m_X0_init [.ref 87] w_140 (rV K) := by
  refine f_X0_init 87 sh_87 ⟨(by decide +kernel), ?_⟩
  rw [wn_140]
  exact hK
def w_142 : mm_G := ms_r w_141 73 6 (some 87)
theorem wn_142 : mg_n w_142 = 89 := by decide +kernel
def w_143 : mm_G := mg_b w_142 1
theorem wn_143 : mg_n w_143 = 90 := by decide +kernel
def w_144 : mm_G := ms_r (mg_b w_143 1) 89 0 (some 90)
theorem wn_144 : mg_n w_144 = 91 := by decide +kernel
set_option maxRecDepth 100000 in
set_option maxHeartbeats 4000000 in
theorem b_89 {l : Launch} {κ : mm_K} {d : Nat} {K : mm_G → Prop} (hK : K w_144) : mC l κ false (d + 1) 1 8 m_X0_init [.ref 89] w_143 (rV K) := by
  refine f_X0_init 89 sh_89 ⟨(by decide +kernel), ?_⟩
  rw [wn_143]
  exact hK
def w_145 : mm_G := ms_r w_144 73 7 (some 89)
theorem wn_145 : mg_n w_145 = 91 := by decide +kernel
set_option maxRecDepth 100000 in
set_option maxHeartbeats 4000000 in
theorem b_62 {l : Launch} {κ : mm_K} {d : Nat} {K : mm_G → Prop} (hK : K w_145) : mC l κ false (d + 2) 28 176 m_X11_init [.ref 62] w_120 (rV K) := by
  refine f_X11_init 62 sh_62 ⟨(by decide +kernel), by rw [wn_120]; decide +kernel, (by decide +kernel), (by decide +kernel), (by decide +kernel), ?_⟩
  rw [wn_120]
  refine mV_eq (pc' := 49) (ls' := [some (.ref 62), some (.int (nI 0))]) (st' := []) (G' := w_121) rfl rfl rfl rfl ?_
  refine q_X11_init_49 62 sh_62 (nI 0) ⟨fun h => absurd h (by decide), fun _ => ⟨73, (by decide +kernel), sh_73, 15, 92, rfl, rfl, (by decide +kernel), 14, 84, rfl, rfl, ?_⟩⟩
  rw [wn_121]
  refine b_75 (d := d) ?_
  refine ⟨vp_in_nI (by decide) (by decide), ?_⟩
  refine mV_eq (pc' := 49) (ls' := [some (.ref 62), some (.int (nI 1))]) (st' := []) (G' := w_124) rfl (by decide) rfl rfl ?_
  refine q_X11_init_49 62 sh_62 (nI 1) ⟨fun h => absurd h (by decide), fun _ => ⟨73, (by decide +kernel), sh_73, 13, 80, rfl, rfl, (by decide +kernel), 12, 72, rfl, rfl, ?_⟩⟩
  rw [wn_124]
  refine b_77 (d := d) ?_
  refine ⟨vp_in_nI (by decide) (by decide), ?_⟩
  refine mV_eq (pc' := 49) (ls' := [some (.ref 62), some (.int (nI 2))]) (st' := []) (G' := w_127) rfl (by decide) rfl rfl ?_
  refine q_X11_init_49 62 sh_62 (nI 2) ⟨fun h => absurd h (by decide), fun _ => ⟨73, (by decide +kernel), sh_73, 11, 68, rfl, rfl, (by decide +kernel), 10, 60, rfl, rfl, ?_⟩⟩
  rw [wn_127]
  refine b_79 (d := d) ?_
  refine ⟨vp_in_nI (by decide) (by decide), ?_⟩
  refine mV_eq (pc' := 49) (ls' := [some (.ref 62), some (.int (nI 3))]) (st' := []) (G' := w_130) rfl (by decide) rfl rfl ?_
  refine q_X11_init_49 62 sh_62 (nI 3) ⟨fun h => absurd h (by decide), fun _ => ⟨73, (by decide +kernel), sh_73, 9, 56, rfl, rfl, (by decide +kernel), 8, 48, rfl, rfl, ?_⟩⟩
  rw [wn_130]
  refine b_81 (d := d) ?_
  refine ⟨vp_in_nI (by decide) (by decide), ?_⟩
  refine mV_eq (pc' := 49) (ls' := [some (.ref 62), some (.int (nI 4))]) (st' := []) (G' := w_133) rfl (by decide) rfl rfl ?_
  refine q_X11_init_49 62 sh_62 (nI 4) ⟨fun h => absurd h (by decide), fun _ => ⟨73, (by decide +kernel), sh_73, 7, 44, rfl, rfl, (by decide +kernel), 6, 36, rfl, rfl, ?_⟩⟩
  rw [wn_133]
  refine b_83 (d := d) ?_
  refine ⟨vp_in_nI (by decide) (by decide), ?_⟩
  refine mV_eq (pc' := 49) (ls' := [some (.ref 62), some (.int (nI 5))]) (st' := []) (G' := w_136) rfl (by decide) rfl rfl ?_
  refine q_X11_init_49 62 sh_62 (nI 5) ⟨fun h => absurd h (by decide), fun _ => ⟨73, (by decide +kernel), sh_73, 5, 32, rfl, rfl, (by decide +kernel), 4, 24, rfl, rfl, ?_⟩⟩
  rw [wn_136]
  refine b_85 (d := d) ?_
  refine ⟨vp_in_nI (by decide) (by decide), ?_⟩
  refine mV_eq (pc' := 49) (ls' := [some (.ref 62), some (.int (nI 6))]) (st' := []) (G' := w_139) rfl (by decide) rfl rfl ?_
  refine q_X11_init_49 62 sh_62 (nI 6) ⟨fun h => absurd h (by decide), fun _ => ⟨73, (by decide +kernel), sh_73, 3, 20, rfl, rfl, (by decide +kernel), 2, 12, rfl, rfl, ?_⟩⟩
  rw [wn_139]
  refine b_87 (d := d) ?_
  refine ⟨vp_in_nI (by decide) (by decide), ?_⟩
  refine mV_eq (pc' := 49) (ls' := [some (.ref 62), some (.int (nI 7))]) (st' := []) (G' := w_142) rfl (by decide) rfl rfl ?_
  refine q_X11_init_49 62 sh_62 (nI 7) ⟨fun h => absurd h (by decide), fun _ => ⟨73, (by decide +kernel), sh_73, 1, 8, rfl, rfl, (by decide +kernel), 0, 0, rfl, rfl, ?_⟩⟩
  rw [wn_142]
  refine b_89 (d := d) ?_
  refine ⟨vp_in_nI (by decide) (by decide), ?_⟩
  refine mV_eq (pc' := 49) (ls' := [some (.ref 62), some (.int (nI 8))]) (st' := []) (G' := w_145) rfl (by decide) rfl rfl ?_
  exact q_X11_init_49 62 sh_62 (nI 8) ⟨fun _ => hK, fun h => absurd (by decide) h⟩
def w_146 : mm_G := mg_b (ms_r w_145 0 3 (some 62)) 1
theorem wn_146 : mg_n w_146 = 92 := by decide +kernel
def w_147 : mm_G := mg_b w_146 1
theorem wn_147 : mg_n w_147 = 93 := by decide +kernel
def w_148 : mm_G := ms_r (mg_b w_147 1) 92 0 (some 93)
theorem wn_148 : mg_n w_148 = 94 := by decide +kernel
set_option maxRecDepth 100000 in
set_option maxHeartbeats 4000000 in
theorem b_92 {l : Launch} {κ : mm_K} {d : Nat} {K : mm_G → Prop} (hK : K w_148) : mC l κ false (d + 1) 1 8 m_X0_init [.ref 92] w_147 (rV K) := by
  refine f_X0_init 92 sh_92 ⟨(by decide +kernel), ?_⟩
  rw [wn_147]
  exact hK
def w_149 : mm_G := ms_r (ms_r (ms_r (mg_b (ms_r (mg_b (ms_r (mg_b (ms_r (mg_b (ms_r w_148 91 0 (some 92)) 1) 91 1 (some 94)) 1) 91 2 (some 95)) 1) 91 8 (some 96)) 1) 91 9 (some 97)) 91 6 (some 50)) 91 7 (some 62)
theorem wn_149 : mg_n w_149 = 98 := by decide +kernel
set_option maxRecDepth 100000 in
set_option maxHeartbeats 4000000 in
theorem b_91 {l : Launch} {κ : mm_K} {d : Nat} {K : mm_G → Prop} (hK : K w_149) : mC l κ false (d + 2) 6 324 m_X3_init [.ref 91, .ref 50, .ref 62] w_146 (rV K) := by
  refine f_X3_init 91 sh_91 50 62 ⟨(by decide +kernel), ?_⟩
  rw [wn_146]
  refine b_92 (d := d) ⟨(by decide +kernel), (by decide +kernel), (by decide +kernel), (by decide +kernel), ?_⟩
  rw [wn_148]
  exact hK
def w_150 : mm_G := mg_b (ms_r w_149 0 4 (some 91)) 1
theorem wn_150 : mg_n w_150 = 99 := by decide +kernel
def w_151 : mm_G := mg_b (ms_r (mg_b (ms_r (mg_b (ms_r (mg_b w_150 1) 98 3 (some 99)) 1) 98 4 (some 100)) 1) 98 5 (some 101)) 1
theorem wn_151 : mg_n w_151 = 103 := by decide +kernel
def w_152 : mm_G := ms_r (mg_b w_151 1) 102 0 (some 103)
theorem wn_152 : mg_n w_152 = 104 := by decide +kernel
set_option maxRecDepth 100000 in
set_option maxHeartbeats 4000000 in
theorem b_102 {l : Launch} {κ : mm_K} {d : Nat} {K : mm_G → Prop} (hK : K w_152) : mC l κ false (d + 1) 1 16 m_X6_init [.ref 102] w_151 (rV K) := by
  refine f_X6_init 102 sh_102 ⟨(by decide +kernel), ?_⟩
  rw [wn_151]
  exact hK
def w_153 : mm_G := ms_r (ms_r (ms_r (ms_r w_152 98 6 (some 102)) 98 0 (some 50)) 98 1 (some 62)) 98 2 (some 91)
theorem wn_153 : mg_n w_153 = 104 := by decide +kernel
def w_154 : mm_G := mg_b w_153 1
theorem wn_154 : mg_n w_154 = 105 := by decide +kernel
def w_155 : mm_G := ms_r (mg_b w_154 1) 104 0 (some 105)
theorem wn_155 : mg_n w_155 = 106 := by decide +kernel
set_option maxRecDepth 100000 in
set_option maxHeartbeats 4000000 in
theorem b_104 {l : Launch} {κ : mm_K} {d : Nat} {K : mm_G → Prop} (hK : K w_155) : mC l κ false (d + 1) 1 8 m_X0_init [.ref 104] w_154 (rV K) := by
  refine f_X0_init 104 sh_104 ⟨(by decide +kernel), ?_⟩
  rw [wn_154]
  exact hK
def w_156 : mm_G := ms_r w_155 99 0 (some 104)
theorem wn_156 : mg_n w_156 = 106 := by decide +kernel
def w_157 : mm_G := mg_b w_156 1
theorem wn_157 : mg_n w_157 = 107 := by decide +kernel
def w_158 : mm_G := ms_r (mg_b w_157 1) 106 0 (some 107)
theorem wn_158 : mg_n w_158 = 108 := by decide +kernel
set_option maxRecDepth 100000 in
set_option maxHeartbeats 4000000 in
theorem b_106 {l : Launch} {κ : mm_K} {d : Nat} {K : mm_G → Prop} (hK : K w_158) : mC l κ false (d + 1) 1 8 m_X0_init [.ref 106] w_157 (rV K) := by
  refine f_X0_init 106 sh_106 ⟨(by decide +kernel), ?_⟩
  rw [wn_157]
  exact hK
def w_159 : mm_G := ms_r w_158 99 1 (some 106)
theorem wn_159 : mg_n w_159 = 108 := by decide +kernel
def w_160 : mm_G := mg_b w_159 1
theorem wn_160 : mg_n w_160 = 109 := by decide +kernel
def w_161 : mm_G := ms_r (mg_b w_160 1) 108 0 (some 109)
theorem wn_161 : mg_n w_161 = 110 := by decide +kernel
set_option maxRecDepth 100000 in
set_option maxHeartbeats 4000000 in
theorem b_108 {l : Launch} {κ : mm_K} {d : Nat} {K : mm_G → Prop} (hK : K w_161) : mC l κ false (d + 1) 1 8 m_X0_init [.ref 108] w_160 (rV K) := by
  refine f_X0_init 108 sh_108 ⟨(by decide +kernel), ?_⟩
  rw [wn_160]
  exact hK
def w_162 : mm_G := ms_r w_161 99 2 (some 108)
theorem wn_162 : mg_n w_162 = 110 := by decide +kernel
def w_163 : mm_G := mg_b w_162 1
theorem wn_163 : mg_n w_163 = 111 := by decide +kernel
def w_164 : mm_G := ms_r (mg_b w_163 1) 110 0 (some 111)
theorem wn_164 : mg_n w_164 = 112 := by decide +kernel
set_option maxRecDepth 100000 in
set_option maxHeartbeats 4000000 in
theorem b_110 {l : Launch} {κ : mm_K} {d : Nat} {K : mm_G → Prop} (hK : K w_164) : mC l κ false (d + 1) 1 8 m_X0_init [.ref 110] w_163 (rV K) := by
  refine f_X0_init 110 sh_110 ⟨(by decide +kernel), ?_⟩
  rw [wn_163]
  exact hK
def w_165 : mm_G := ms_r w_164 99 3 (some 110)
theorem wn_165 : mg_n w_165 = 112 := by decide +kernel
def w_166 : mm_G := mg_b w_165 1
theorem wn_166 : mg_n w_166 = 113 := by decide +kernel
def w_167 : mm_G := ms_r (mg_b w_166 1) 112 0 (some 113)
theorem wn_167 : mg_n w_167 = 114 := by decide +kernel
set_option maxRecDepth 100000 in
set_option maxHeartbeats 4000000 in
theorem b_112 {l : Launch} {κ : mm_K} {d : Nat} {K : mm_G → Prop} (hK : K w_167) : mC l κ false (d + 1) 1 8 m_X0_init [.ref 112] w_166 (rV K) := by
  refine f_X0_init 112 sh_112 ⟨(by decide +kernel), ?_⟩
  rw [wn_166]
  exact hK
def w_168 : mm_G := ms_r w_167 99 4 (some 112)
theorem wn_168 : mg_n w_168 = 114 := by decide +kernel
def w_169 : mm_G := mg_b w_168 1
theorem wn_169 : mg_n w_169 = 115 := by decide +kernel
def w_170 : mm_G := ms_r (mg_b w_169 1) 114 0 (some 115)
theorem wn_170 : mg_n w_170 = 116 := by decide +kernel
set_option maxRecDepth 100000 in
set_option maxHeartbeats 4000000 in
theorem b_114 {l : Launch} {κ : mm_K} {d : Nat} {K : mm_G → Prop} (hK : K w_170) : mC l κ false (d + 1) 1 8 m_X0_init [.ref 114] w_169 (rV K) := by
  refine f_X0_init 114 sh_114 ⟨(by decide +kernel), ?_⟩
  rw [wn_169]
  exact hK
def w_171 : mm_G := ms_r w_170 99 5 (some 114)
theorem wn_171 : mg_n w_171 = 116 := by decide +kernel
def w_172 : mm_G := mg_b w_171 1
theorem wn_172 : mg_n w_172 = 117 := by decide +kernel
def w_173 : mm_G := ms_r (mg_b w_172 1) 116 0 (some 117)
theorem wn_173 : mg_n w_173 = 118 := by decide +kernel
set_option maxRecDepth 100000 in
set_option maxHeartbeats 4000000 in
theorem b_116 {l : Launch} {κ : mm_K} {d : Nat} {K : mm_G → Prop} (hK : K w_173) : mC l κ false (d + 1) 1 8 m_X0_init [.ref 116] w_172 (rV K) := by
  refine f_X0_init 116 sh_116 ⟨(by decide +kernel), ?_⟩
  rw [wn_172]
  exact hK
def w_174 : mm_G := ms_r w_173 99 6 (some 116)
theorem wn_174 : mg_n w_174 = 118 := by decide +kernel
def w_175 : mm_G := mg_b w_174 1
theorem wn_175 : mg_n w_175 = 119 := by decide +kernel
def w_176 : mm_G := ms_r (mg_b w_175 1) 118 0 (some 119)
theorem wn_176 : mg_n w_176 = 120 := by decide +kernel
set_option maxRecDepth 100000 in
set_option maxHeartbeats 4000000 in
theorem b_118 {l : Launch} {κ : mm_K} {d : Nat} {K : mm_G → Prop} (hK : K w_176) : mC l κ false (d + 1) 1 8 m_X0_init [.ref 118] w_175 (rV K) := by
  refine f_X0_init 118 sh_118 ⟨(by decide +kernel), ?_⟩
  rw [wn_175]
  exact hK
def w_177 : mm_G := ms_r w_176 99 7 (some 118)
theorem wn_177 : mg_n w_177 = 120 := by decide +kernel
def w_178 : mm_G := mg_b w_177 1
theorem wn_178 : mg_n w_178 = 121 := by decide +kernel
def w_179 : mm_G := ms_r (mg_b w_178 1) 120 0 (some 121)
theorem wn_179 : mg_n w_179 = 122 := by decide +kernel
set_option maxRecDepth 100000 in
set_option maxHeartbeats 4000000 in
theorem b_120 {l : Launch} {κ : mm_K} {d : Nat} {K : mm_G → Prop} (hK : K w_179) : mC l κ false (d + 1) 1 8 m_X0_init [.ref 120] w_178 (rV K) := by
  refine f_X0_init 120 sh_120 ⟨(by decide +kernel), ?_⟩
  rw [wn_178]
  exact hK
def w_180 : mm_G := ms_r w_179 99 8 (some 120)
theorem wn_180 : mg_n w_180 = 122 := by decide +kernel
def w_181 : mm_G := mg_b w_180 1
theorem wn_181 : mg_n w_181 = 123 := by decide +kernel
def w_182 : mm_G := ms_r (mg_b w_181 1) 122 0 (some 123)
theorem wn_182 : mg_n w_182 = 124 := by decide +kernel
set_option maxRecDepth 100000 in
set_option maxHeartbeats 4000000 in
theorem b_122 {l : Launch} {κ : mm_K} {d : Nat} {K : mm_G → Prop} (hK : K w_182) : mC l κ false (d + 1) 1 8 m_X0_init [.ref 122] w_181 (rV K) := by
  refine f_X0_init 122 sh_122 ⟨(by decide +kernel), ?_⟩
  rw [wn_181]
  exact hK
def w_183 : mm_G := ms_r w_182 99 9 (some 122)
theorem wn_183 : mg_n w_183 = 124 := by decide +kernel
def w_184 : mm_G := mg_b w_183 1
theorem wn_184 : mg_n w_184 = 125 := by decide +kernel
def w_185 : mm_G := ms_r (mg_b w_184 1) 124 0 (some 125)
theorem wn_185 : mg_n w_185 = 126 := by decide +kernel
set_option maxRecDepth 100000 in
set_option maxHeartbeats 4000000 in
theorem b_124 {l : Launch} {κ : mm_K} {d : Nat} {K : mm_G → Prop} (hK : K w_185) : mC l κ false (d + 1) 1 8 m_X0_init [.ref 124] w_184 (rV K) := by
  refine f_X0_init 124 sh_124 ⟨(by decide +kernel), ?_⟩
  rw [wn_184]
  exact hK
def w_186 : mm_G := ms_r w_185 99 10 (some 124)
theorem wn_186 : mg_n w_186 = 126 := by decide +kernel
def w_187 : mm_G := mg_b w_186 1
theorem wn_187 : mg_n w_187 = 127 := by decide +kernel
def w_188 : mm_G := ms_r (mg_b w_187 1) 126 0 (some 127)
theorem wn_188 : mg_n w_188 = 128 := by decide +kernel
set_option maxRecDepth 100000 in
set_option maxHeartbeats 4000000 in
theorem b_126 {l : Launch} {κ : mm_K} {d : Nat} {K : mm_G → Prop} (hK : K w_188) : mC l κ false (d + 1) 1 8 m_X0_init [.ref 126] w_187 (rV K) := by
  refine f_X0_init 126 sh_126 ⟨(by decide +kernel), ?_⟩
  rw [wn_187]
  exact hK
def w_189 : mm_G := ms_r w_188 99 11 (some 126)
theorem wn_189 : mg_n w_189 = 128 := by decide +kernel
def w_190 : mm_G := mg_b w_189 1
theorem wn_190 : mg_n w_190 = 129 := by decide +kernel
def w_191 : mm_G := ms_r (mg_b w_190 1) 128 0 (some 129)
theorem wn_191 : mg_n w_191 = 130 := by decide +kernel
set_option maxRecDepth 100000 in
set_option maxHeartbeats 4000000 in
theorem b_128 {l : Launch} {κ : mm_K} {d : Nat} {K : mm_G → Prop} (hK : K w_191) : mC l κ false (d + 1) 1 8 m_X0_init [.ref 128] w_190 (rV K) := by
  refine f_X0_init 128 sh_128 ⟨(by decide +kernel), ?_⟩
  rw [wn_190]
  exact hK
def w_192 : mm_G := ms_r w_191 99 12 (some 128)
theorem wn_192 : mg_n w_192 = 130 := by decide +kernel
def w_193 : mm_G := mg_b w_192 1
theorem wn_193 : mg_n w_193 = 131 := by decide +kernel
def w_194 : mm_G := ms_r (mg_b w_193 1) 130 0 (some 131)
theorem wn_194 : mg_n w_194 = 132 := by decide +kernel
set_option maxRecDepth 100000 in
set_option maxHeartbeats 4000000 in
theorem b_130 {l : Launch} {κ : mm_K} {d : Nat} {K : mm_G → Prop} (hK : K w_194) : mC l κ false (d + 1) 1 8 m_X0_init [.ref 130] w_193 (rV K) := by
  refine f_X0_init 130 sh_130 ⟨(by decide +kernel), ?_⟩
  rw [wn_193]
  exact hK
def w_195 : mm_G := ms_r w_194 99 13 (some 130)
theorem wn_195 : mg_n w_195 = 132 := by decide +kernel
def w_196 : mm_G := mg_b w_195 1
theorem wn_196 : mg_n w_196 = 133 := by decide +kernel
def w_197 : mm_G := ms_r (mg_b w_196 1) 132 0 (some 133)
theorem wn_197 : mg_n w_197 = 134 := by decide +kernel
set_option maxRecDepth 100000 in
set_option maxHeartbeats 4000000 in
theorem b_132 {l : Launch} {κ : mm_K} {d : Nat} {K : mm_G → Prop} (hK : K w_197) : mC l κ false (d + 1) 1 8 m_X0_init [.ref 132] w_196 (rV K) := by
  refine f_X0_init 132 sh_132 ⟨(by decide +kernel), ?_⟩
  rw [wn_196]
  exact hK
def w_198 : mm_G := ms_r w_197 99 14 (some 132)
theorem wn_198 : mg_n w_198 = 134 := by decide +kernel
def w_199 : mm_G := mg_b w_198 1
theorem wn_199 : mg_n w_199 = 135 := by decide +kernel
def w_200 : mm_G := ms_r (mg_b w_199 1) 134 0 (some 135)
theorem wn_200 : mg_n w_200 = 136 := by decide +kernel
set_option maxRecDepth 100000 in
set_option maxHeartbeats 4000000 in
theorem b_134 {l : Launch} {κ : mm_K} {d : Nat} {K : mm_G → Prop} (hK : K w_200) : mC l κ false (d + 1) 1 8 m_X0_init [.ref 134] w_199 (rV K) := by
  refine f_X0_init 134 sh_134 ⟨(by decide +kernel), ?_⟩
  rw [wn_199]
  exact hK
def w_201 : mm_G := ms_r w_200 99 15 (some 134)
theorem wn_201 : mg_n w_201 = 136 := by decide +kernel
def w_202 : mm_G := mg_b w_201 1
theorem wn_202 : mg_n w_202 = 137 := by decide +kernel
def w_203 : mm_G := ms_r (mg_b w_202 1) 136 0 (some 137)
theorem wn_203 : mg_n w_203 = 138 := by decide +kernel
set_option maxRecDepth 100000 in
set_option maxHeartbeats 4000000 in
theorem b_136 {l : Launch} {κ : mm_K} {d : Nat} {K : mm_G → Prop} (hK : K w_203) : mC l κ false (d + 1) 1 8 m_X0_init [.ref 136] w_202 (rV K) := by
  refine f_X0_init 136 sh_136 ⟨(by decide +kernel), ?_⟩
  rw [wn_202]
  exact hK
def w_204 : mm_G := ms_r w_203 99 16 (some 136)
theorem wn_204 : mg_n w_204 = 138 := by decide +kernel
def w_205 : mm_G := mg_b w_204 1
theorem wn_205 : mg_n w_205 = 139 := by decide +kernel
def w_206 : mm_G := ms_r (mg_b w_205 1) 138 0 (some 139)
theorem wn_206 : mg_n w_206 = 140 := by decide +kernel
set_option maxRecDepth 100000 in
set_option maxHeartbeats 4000000 in
theorem b_138 {l : Launch} {κ : mm_K} {d : Nat} {K : mm_G → Prop} (hK : K w_206) : mC l κ false (d + 1) 1 8 m_X0_init [.ref 138] w_205 (rV K) := by
  refine f_X0_init 138 sh_138 ⟨(by decide +kernel), ?_⟩
  rw [wn_205]
  exact hK
def w_207 : mm_G := ms_r w_206 99 17 (some 138)
theorem wn_207 : mg_n w_207 = 140 := by decide +kernel
def w_208 : mm_G := mg_b w_207 1
theorem wn_208 : mg_n w_208 = 141 := by decide +kernel
def w_209 : mm_G := ms_r (mg_b w_208 1) 140 0 (some 141)
theorem wn_209 : mg_n w_209 = 142 := by decide +kernel
set_option maxRecDepth 100000 in
set_option maxHeartbeats 4000000 in
theorem b_140 {l : Launch} {κ : mm_K} {d : Nat} {K : mm_G → Prop} (hK : K w_209) : mC l κ false (d + 1) 1 8 m_X0_init [.ref 140] w_208 (rV K) := by
  refine f_X0_init 140 sh_140 ⟨(by decide +kernel), ?_⟩
  rw [wn_208]
  exact hK
def w_210 : mm_G := ms_r w_209 99 18 (some 140)
theorem wn_210 : mg_n w_210 = 142 := by decide +kernel
def w_211 : mm_G := mg_b w_210 1
theorem wn_211 : mg_n w_211 = 143 := by decide +kernel
def w_212 : mm_G := ms_r (mg_b w_211 1) 142 0 (some 143)
theorem wn_212 : mg_n w_212 = 144 := by decide +kernel
set_option maxRecDepth 100000 in
set_option maxHeartbeats 4000000 in
theorem b_142 {l : Launch} {κ : mm_K} {d : Nat} {K : mm_G → Prop} (hK : K w_212) : mC l κ false (d + 1) 1 8 m_X0_init [.ref 142] w_211 (rV K) := by
  refine f_X0_init 142 sh_142 ⟨(by decide +kernel), ?_⟩
  rw [wn_211]
  exact hK
def w_213 : mm_G := ms_r w_212 99 19 (some 142)
theorem wn_213 : mg_n w_213 = 144 := by decide +kernel
def w_214 : mm_G := mg_b w_213 1
theorem wn_214 : mg_n w_214 = 145 := by decide +kernel
def w_215 : mm_G := ms_r (mg_b w_214 1) 144 0 (some 145)
theorem wn_215 : mg_n w_215 = 146 := by decide +kernel
set_option maxRecDepth 100000 in
set_option maxHeartbeats 4000000 in
theorem b_144 {l : Launch} {κ : mm_K} {d : Nat} {K : mm_G → Prop} (hK : K w_215) : mC l κ false (d + 1) 1 8 m_X0_init [.ref 144] w_214 (rV K) := by
  refine f_X0_init 144 sh_144 ⟨(by decide +kernel), ?_⟩
  rw [wn_214]
  exact hK
def w_216 : mm_G := ms_r w_215 99 20 (some 144)
theorem wn_216 : mg_n w_216 = 146 := by decide +kernel
def w_217 : mm_G := mg_b w_216 1
theorem wn_217 : mg_n w_217 = 147 := by decide +kernel
def w_218 : mm_G := ms_r (mg_b w_217 1) 146 0 (some 147)
theorem wn_218 : mg_n w_218 = 148 := by decide +kernel
set_option maxRecDepth 100000 in
set_option maxHeartbeats 4000000 in
theorem b_146 {l : Launch} {κ : mm_K} {d : Nat} {K : mm_G → Prop} (hK : K w_218) : mC l κ false (d + 1) 1 8 m_X0_init [.ref 146] w_217 (rV K) := by
  refine f_X0_init 146 sh_146 ⟨(by decide +kernel), ?_⟩
  rw [wn_217]
  exact hK
def w_219 : mm_G := ms_r w_218 99 21 (some 146)
theorem wn_219 : mg_n w_219 = 148 := by decide +kernel
def w_220 : mm_G := mg_b w_219 1
theorem wn_220 : mg_n w_220 = 149 := by decide +kernel
def w_221 : mm_G := ms_r (mg_b w_220 1) 148 0 (some 149)
theorem wn_221 : mg_n w_221 = 150 := by decide +kernel
set_option maxRecDepth 100000 in
set_option maxHeartbeats 4000000 in
theorem b_148 {l : Launch} {κ : mm_K} {d : Nat} {K : mm_G → Prop} (hK : K w_221) : mC l κ false (d + 1) 1 8 m_X0_init [.ref 148] w_220 (rV K) := by
  refine f_X0_init 148 sh_148 ⟨(by decide +kernel), ?_⟩
  rw [wn_220]
  exact hK
def w_222 : mm_G := ms_r w_221 99 22 (some 148)
theorem wn_222 : mg_n w_222 = 150 := by decide +kernel
def w_223 : mm_G := mg_b w_222 1
theorem wn_223 : mg_n w_223 = 151 := by decide +kernel
def w_224 : mm_G := ms_r (mg_b w_223 1) 150 0 (some 151)
theorem wn_224 : mg_n w_224 = 152 := by decide +kernel
set_option maxRecDepth 100000 in
set_option maxHeartbeats 4000000 in
theorem b_150 {l : Launch} {κ : mm_K} {d : Nat} {K : mm_G → Prop} (hK : K w_224) : mC l κ false (d + 1) 1 8 m_X0_init [.ref 150] w_223 (rV K) := by
  refine f_X0_init 150 sh_150 ⟨(by decide +kernel), ?_⟩
  rw [wn_223]
  exact hK
def w_225 : mm_G := ms_r w_224 99 23 (some 150)
theorem wn_225 : mg_n w_225 = 152 := by decide +kernel
def w_226 : mm_G := mg_b w_225 1
theorem wn_226 : mg_n w_226 = 153 := by decide +kernel
def w_227 : mm_G := ms_r (mg_b w_226 1) 152 0 (some 153)
theorem wn_227 : mg_n w_227 = 154 := by decide +kernel
set_option maxRecDepth 100000 in
set_option maxHeartbeats 4000000 in
theorem b_152 {l : Launch} {κ : mm_K} {d : Nat} {K : mm_G → Prop} (hK : K w_227) : mC l κ false (d + 1) 1 8 m_X0_init [.ref 152] w_226 (rV K) := by
  refine f_X0_init 152 sh_152 ⟨(by decide +kernel), ?_⟩
  rw [wn_226]
  exact hK
def w_228 : mm_G := ms_r w_227 99 24 (some 152)
theorem wn_228 : mg_n w_228 = 154 := by decide +kernel
def w_229 : mm_G := mg_b w_228 1
theorem wn_229 : mg_n w_229 = 155 := by decide +kernel
def w_230 : mm_G := ms_r (mg_b w_229 1) 154 0 (some 155)
theorem wn_230 : mg_n w_230 = 156 := by decide +kernel
set_option maxRecDepth 100000 in
set_option maxHeartbeats 4000000 in
theorem b_154 {l : Launch} {κ : mm_K} {d : Nat} {K : mm_G → Prop} (hK : K w_230) : mC l κ false (d + 1) 1 8 m_X0_init [.ref 154] w_229 (rV K) := by
  refine f_X0_init 154 sh_154 ⟨(by decide +kernel), ?_⟩
  rw [wn_229]
  exact hK
def w_231 : mm_G := ms_r w_230 99 25 (some 154)
theorem wn_231 : mg_n w_231 = 156 := by decide +kernel
def w_232 : mm_G := mg_b w_231 1
theorem wn_232 : mg_n w_232 = 157 := by decide +kernel
def w_233 : mm_G := ms_r (mg_b w_232 1) 156 0 (some 157)
theorem wn_233 : mg_n w_233 = 158 := by decide +kernel
set_option maxRecDepth 100000 in
set_option maxHeartbeats 4000000 in
theorem b_156 {l : Launch} {κ : mm_K} {d : Nat} {K : mm_G → Prop} (hK : K w_233) : mC l κ false (d + 1) 1 8 m_X0_init [.ref 156] w_232 (rV K) := by
  refine f_X0_init 156 sh_156 ⟨(by decide +kernel), ?_⟩
  rw [wn_232]
  exact hK
def w_234 : mm_G := ms_r w_233 99 26 (some 156)
theorem wn_234 : mg_n w_234 = 158 := by decide +kernel
def w_235 : mm_G := mg_b w_234 1
theorem wn_235 : mg_n w_235 = 159 := by decide +kernel
def w_236 : mm_G := ms_r (mg_b w_235 1) 158 0 (some 159)
theorem wn_236 : mg_n w_236 = 160 := by decide +kernel
set_option maxRecDepth 100000 in
set_option maxHeartbeats 4000000 in
theorem b_158 {l : Launch} {κ : mm_K} {d : Nat} {K : mm_G → Prop} (hK : K w_236) : mC l κ false (d + 1) 1 8 m_X0_init [.ref 158] w_235 (rV K) := by
  refine f_X0_init 158 sh_158 ⟨(by decide +kernel), ?_⟩
  rw [wn_235]
  exact hK
def w_237 : mm_G := ms_r w_236 99 27 (some 158)
theorem wn_237 : mg_n w_237 = 160 := by decide +kernel
def w_238 : mm_G := mg_b w_237 1
theorem wn_238 : mg_n w_238 = 161 := by decide +kernel
def w_239 : mm_G := ms_r (mg_b w_238 1) 160 0 (some 161)
theorem wn_239 : mg_n w_239 = 162 := by decide +kernel
set_option maxRecDepth 100000 in
set_option maxHeartbeats 4000000 in
theorem b_160 {l : Launch} {κ : mm_K} {d : Nat} {K : mm_G → Prop} (hK : K w_239) : mC l κ false (d + 1) 1 8 m_X0_init [.ref 160] w_238 (rV K) := by
  refine f_X0_init 160 sh_160 ⟨(by decide +kernel), ?_⟩
  rw [wn_238]
  exact hK
def w_240 : mm_G := ms_r w_239 99 28 (some 160)
theorem wn_240 : mg_n w_240 = 162 := by decide +kernel
def w_241 : mm_G := mg_b w_240 1
theorem wn_241 : mg_n w_241 = 163 := by decide +kernel
def w_242 : mm_G := ms_r (mg_b w_241 1) 162 0 (some 163)
theorem wn_242 : mg_n w_242 = 164 := by decide +kernel
set_option maxRecDepth 100000 in
set_option maxHeartbeats 4000000 in
theorem b_162 {l : Launch} {κ : mm_K} {d : Nat} {K : mm_G → Prop} (hK : K w_242) : mC l κ false (d + 1) 1 8 m_X0_init [.ref 162] w_241 (rV K) := by
  refine f_X0_init 162 sh_162 ⟨(by decide +kernel), ?_⟩
  rw [wn_241]
  exact hK
def w_243 : mm_G := ms_r w_242 99 29 (some 162)
theorem wn_243 : mg_n w_243 = 164 := by decide +kernel
def w_244 : mm_G := mg_b w_243 1
theorem wn_244 : mg_n w_244 = 165 := by decide +kernel
def w_245 : mm_G := ms_r (mg_b w_244 1) 164 0 (some 165)
theorem wn_245 : mg_n w_245 = 166 := by decide +kernel
set_option maxRecDepth 100000 in
set_option maxHeartbeats 4000000 in
theorem b_164 {l : Launch} {κ : mm_K} {d : Nat} {K : mm_G → Prop} (hK : K w_245) : mC l κ false (d + 1) 1 8 m_X0_init [.ref 164] w_244 (rV K) := by
  refine f_X0_init 164 sh_164 ⟨(by decide +kernel), ?_⟩
  rw [wn_244]
  exact hK
def w_246 : mm_G := ms_r w_245 99 30 (some 164)
theorem wn_246 : mg_n w_246 = 166 := by decide +kernel
def w_247 : mm_G := mg_b w_246 1
theorem wn_247 : mg_n w_247 = 167 := by decide +kernel
def w_248 : mm_G := ms_r (mg_b w_247 1) 166 0 (some 167)
theorem wn_248 : mg_n w_248 = 168 := by decide +kernel
set_option maxRecDepth 100000 in
set_option maxHeartbeats 4000000 in
theorem b_166 {l : Launch} {κ : mm_K} {d : Nat} {K : mm_G → Prop} (hK : K w_248) : mC l κ false (d + 1) 1 8 m_X0_init [.ref 166] w_247 (rV K) := by
  refine f_X0_init 166 sh_166 ⟨(by decide +kernel), ?_⟩
  rw [wn_247]
  exact hK
def w_249 : mm_G := ms_r w_248 99 31 (some 166)
theorem wn_249 : mg_n w_249 = 168 := by decide +kernel
set_option maxRecDepth 100000 in
set_option maxHeartbeats 4000000 in
theorem b_98 {l : Launch} {κ : mm_K} {d : Nat} {K : mm_G → Prop} (hK : K w_249) : mC l κ false (d + 2) 69 444 m_X2_init [.ref 98, .ref 50, .ref 62, .ref 91] w_150 (rV K) := by
  refine f_X2_init 98 sh_98 50 62 91 ⟨(by decide +kernel), (by decide +kernel), (by decide +kernel), (by decide +kernel), ?_⟩
  rw [wn_150]
  refine b_102 (d := d) ?_
  refine mV_eq (pc' := 56) (ls' := [some (.ref 98), some (.ref 50), some (.ref 62), some (.ref 91), some (.int (nI 0))]) (st' := []) (G' := w_153) rfl rfl rfl rfl ?_
  refine q_X2_init_56 98 sh_98 50 62 91 (nI 0) ⟨99, (by decide +kernel), sh_99, fun h => absurd h (by decide), fun _ => ⟨99, (by decide +kernel), sh_99, 63, 380, rfl, rfl, (by decide +kernel), 62, 372, rfl, rfl, ?_⟩⟩
  rw [wn_153]
  refine b_104 (d := d) ?_
  refine ⟨vp_in_nI (by decide) (by decide), ?_⟩
  refine mV_eq (pc' := 56) (ls' := [some (.ref 98), some (.ref 50), some (.ref 62), some (.ref 91), some (.int (nI 1))]) (st' := []) (G' := w_156) rfl (by decide) rfl rfl ?_
  refine q_X2_init_56 98 sh_98 50 62 91 (nI 1) ⟨99, (by decide +kernel), sh_99, fun h => absurd h (by decide), fun _ => ⟨99, (by decide +kernel), sh_99, 61, 368, rfl, rfl, (by decide +kernel), 60, 360, rfl, rfl, ?_⟩⟩
  rw [wn_156]
  refine b_106 (d := d) ?_
  refine ⟨vp_in_nI (by decide) (by decide), ?_⟩
  refine mV_eq (pc' := 56) (ls' := [some (.ref 98), some (.ref 50), some (.ref 62), some (.ref 91), some (.int (nI 2))]) (st' := []) (G' := w_159) rfl (by decide) rfl rfl ?_
  refine q_X2_init_56 98 sh_98 50 62 91 (nI 2) ⟨99, (by decide +kernel), sh_99, fun h => absurd h (by decide), fun _ => ⟨99, (by decide +kernel), sh_99, 59, 356, rfl, rfl, (by decide +kernel), 58, 348, rfl, rfl, ?_⟩⟩
  rw [wn_159]
  refine b_108 (d := d) ?_
  refine ⟨vp_in_nI (by decide) (by decide), ?_⟩
  refine mV_eq (pc' := 56) (ls' := [some (.ref 98), some (.ref 50), some (.ref 62), some (.ref 91), some (.int (nI 3))]) (st' := []) (G' := w_162) rfl (by decide) rfl rfl ?_
  refine q_X2_init_56 98 sh_98 50 62 91 (nI 3) ⟨99, (by decide +kernel), sh_99, fun h => absurd h (by decide), fun _ => ⟨99, (by decide +kernel), sh_99, 57, 344, rfl, rfl, (by decide +kernel), 56, 336, rfl, rfl, ?_⟩⟩
  rw [wn_162]
  refine b_110 (d := d) ?_
  refine ⟨vp_in_nI (by decide) (by decide), ?_⟩
  refine mV_eq (pc' := 56) (ls' := [some (.ref 98), some (.ref 50), some (.ref 62), some (.ref 91), some (.int (nI 4))]) (st' := []) (G' := w_165) rfl (by decide) rfl rfl ?_
  refine q_X2_init_56 98 sh_98 50 62 91 (nI 4) ⟨99, (by decide +kernel), sh_99, fun h => absurd h (by decide), fun _ => ⟨99, (by decide +kernel), sh_99, 55, 332, rfl, rfl, (by decide +kernel), 54, 324, rfl, rfl, ?_⟩⟩
  rw [wn_165]
  refine b_112 (d := d) ?_
  refine ⟨vp_in_nI (by decide) (by decide), ?_⟩
  refine mV_eq (pc' := 56) (ls' := [some (.ref 98), some (.ref 50), some (.ref 62), some (.ref 91), some (.int (nI 5))]) (st' := []) (G' := w_168) rfl (by decide) rfl rfl ?_
  refine q_X2_init_56 98 sh_98 50 62 91 (nI 5) ⟨99, (by decide +kernel), sh_99, fun h => absurd h (by decide), fun _ => ⟨99, (by decide +kernel), sh_99, 53, 320, rfl, rfl, (by decide +kernel), 52, 312, rfl, rfl, ?_⟩⟩
  rw [wn_168]
  refine b_114 (d := d) ?_
  refine ⟨vp_in_nI (by decide) (by decide), ?_⟩
  refine mV_eq (pc' := 56) (ls' := [some (.ref 98), some (.ref 50), some (.ref 62), some (.ref 91), some (.int (nI 6))]) (st' := []) (G' := w_171) rfl (by decide) rfl rfl ?_
  refine q_X2_init_56 98 sh_98 50 62 91 (nI 6) ⟨99, (by decide +kernel), sh_99, fun h => absurd h (by decide), fun _ => ⟨99, (by decide +kernel), sh_99, 51, 308, rfl, rfl, (by decide +kernel), 50, 300, rfl, rfl, ?_⟩⟩
  rw [wn_171]
  refine b_116 (d := d) ?_
  refine ⟨vp_in_nI (by decide) (by decide), ?_⟩
  refine mV_eq (pc' := 56) (ls' := [some (.ref 98), some (.ref 50), some (.ref 62), some (.ref 91), some (.int (nI 7))]) (st' := []) (G' := w_174) rfl (by decide) rfl rfl ?_
  refine q_X2_init_56 98 sh_98 50 62 91 (nI 7) ⟨99, (by decide +kernel), sh_99, fun h => absurd h (by decide), fun _ => ⟨99, (by decide +kernel), sh_99, 49, 296, rfl, rfl, (by decide +kernel), 48, 288, rfl, rfl, ?_⟩⟩
  rw [wn_174]
  refine b_118 (d := d) ?_
  refine ⟨vp_in_nI (by decide) (by decide), ?_⟩
  refine mV_eq (pc' := 56) (ls' := [some (.ref 98), some (.ref 50), some (.ref 62), some (.ref 91), some (.int (nI 8))]) (st' := []) (G' := w_177) rfl (by decide) rfl rfl ?_
  refine q_X2_init_56 98 sh_98 50 62 91 (nI 8) ⟨99, (by decide +kernel), sh_99, fun h => absurd h (by decide), fun _ => ⟨99, (by decide +kernel), sh_99, 47, 284, rfl, rfl, (by decide +kernel), 46, 276, rfl, rfl, ?_⟩⟩
  rw [wn_177]
  refine b_120 (d := d) ?_
  refine ⟨vp_in_nI (by decide) (by decide), ?_⟩
  refine mV_eq (pc' := 56) (ls' := [some (.ref 98), some (.ref 50), some (.ref 62), some (.ref 91), some (.int (nI 9))]) (st' := []) (G' := w_180) rfl (by decide) rfl rfl ?_
  refine q_X2_init_56 98 sh_98 50 62 91 (nI 9) ⟨99, (by decide +kernel), sh_99, fun h => absurd h (by decide), fun _ => ⟨99, (by decide +kernel), sh_99, 45, 272, rfl, rfl, (by decide +kernel), 44, 264, rfl, rfl, ?_⟩⟩
  rw [wn_180]
  refine b_122 (d := d) ?_
  refine ⟨vp_in_nI (by decide) (by decide), ?_⟩
  refine mV_eq (pc' := 56) (ls' := [some (.ref 98), some (.ref 50), some (.ref 62), some (.ref 91), some (.int (nI 10))]) (st' := []) (G' := w_183) rfl (by decide) rfl rfl ?_
  refine q_X2_init_56 98 sh_98 50 62 91 (nI 10) ⟨99, (by decide +kernel), sh_99, fun h => absurd h (by decide), fun _ => ⟨99, (by decide +kernel), sh_99, 43, 260, rfl, rfl, (by decide +kernel), 42, 252, rfl, rfl, ?_⟩⟩
  rw [wn_183]
  refine b_124 (d := d) ?_
  refine ⟨vp_in_nI (by decide) (by decide), ?_⟩
  refine mV_eq (pc' := 56) (ls' := [some (.ref 98), some (.ref 50), some (.ref 62), some (.ref 91), some (.int (nI 11))]) (st' := []) (G' := w_186) rfl (by decide) rfl rfl ?_
  refine q_X2_init_56 98 sh_98 50 62 91 (nI 11) ⟨99, (by decide +kernel), sh_99, fun h => absurd h (by decide), fun _ => ⟨99, (by decide +kernel), sh_99, 41, 248, rfl, rfl, (by decide +kernel), 40, 240, rfl, rfl, ?_⟩⟩
  rw [wn_186]
  refine b_126 (d := d) ?_
  refine ⟨vp_in_nI (by decide) (by decide), ?_⟩
  refine mV_eq (pc' := 56) (ls' := [some (.ref 98), some (.ref 50), some (.ref 62), some (.ref 91), some (.int (nI 12))]) (st' := []) (G' := w_189) rfl (by decide) rfl rfl ?_
  refine q_X2_init_56 98 sh_98 50 62 91 (nI 12) ⟨99, (by decide +kernel), sh_99, fun h => absurd h (by decide), fun _ => ⟨99, (by decide +kernel), sh_99, 39, 236, rfl, rfl, (by decide +kernel), 38, 228, rfl, rfl, ?_⟩⟩
  rw [wn_189]
  refine b_128 (d := d) ?_
  refine ⟨vp_in_nI (by decide) (by decide), ?_⟩
  refine mV_eq (pc' := 56) (ls' := [some (.ref 98), some (.ref 50), some (.ref 62), some (.ref 91), some (.int (nI 13))]) (st' := []) (G' := w_192) rfl (by decide) rfl rfl ?_
  refine q_X2_init_56 98 sh_98 50 62 91 (nI 13) ⟨99, (by decide +kernel), sh_99, fun h => absurd h (by decide), fun _ => ⟨99, (by decide +kernel), sh_99, 37, 224, rfl, rfl, (by decide +kernel), 36, 216, rfl, rfl, ?_⟩⟩
  rw [wn_192]
  refine b_130 (d := d) ?_
  refine ⟨vp_in_nI (by decide) (by decide), ?_⟩
  refine mV_eq (pc' := 56) (ls' := [some (.ref 98), some (.ref 50), some (.ref 62), some (.ref 91), some (.int (nI 14))]) (st' := []) (G' := w_195) rfl (by decide) rfl rfl ?_
  refine q_X2_init_56 98 sh_98 50 62 91 (nI 14) ⟨99, (by decide +kernel), sh_99, fun h => absurd h (by decide), fun _ => ⟨99, (by decide +kernel), sh_99, 35, 212, rfl, rfl, (by decide +kernel), 34, 204, rfl, rfl, ?_⟩⟩
  rw [wn_195]
  refine b_132 (d := d) ?_
  refine ⟨vp_in_nI (by decide) (by decide), ?_⟩
  refine mV_eq (pc' := 56) (ls' := [some (.ref 98), some (.ref 50), some (.ref 62), some (.ref 91), some (.int (nI 15))]) (st' := []) (G' := w_198) rfl (by decide) rfl rfl ?_
  refine q_X2_init_56 98 sh_98 50 62 91 (nI 15) ⟨99, (by decide +kernel), sh_99, fun h => absurd h (by decide), fun _ => ⟨99, (by decide +kernel), sh_99, 33, 200, rfl, rfl, (by decide +kernel), 32, 192, rfl, rfl, ?_⟩⟩
  rw [wn_198]
  refine b_134 (d := d) ?_
  refine ⟨vp_in_nI (by decide) (by decide), ?_⟩
  refine mV_eq (pc' := 56) (ls' := [some (.ref 98), some (.ref 50), some (.ref 62), some (.ref 91), some (.int (nI 16))]) (st' := []) (G' := w_201) rfl (by decide) rfl rfl ?_
  refine q_X2_init_56 98 sh_98 50 62 91 (nI 16) ⟨99, (by decide +kernel), sh_99, fun h => absurd h (by decide), fun _ => ⟨99, (by decide +kernel), sh_99, 31, 188, rfl, rfl, (by decide +kernel), 30, 180, rfl, rfl, ?_⟩⟩
  rw [wn_201]
  refine b_136 (d := d) ?_
  refine ⟨vp_in_nI (by decide) (by decide), ?_⟩
  refine mV_eq (pc' := 56) (ls' := [some (.ref 98), some (.ref 50), some (.ref 62), some (.ref 91), some (.int (nI 17))]) (st' := []) (G' := w_204) rfl (by decide) rfl rfl ?_
  refine q_X2_init_56 98 sh_98 50 62 91 (nI 17) ⟨99, (by decide +kernel), sh_99, fun h => absurd h (by decide), fun _ => ⟨99, (by decide +kernel), sh_99, 29, 176, rfl, rfl, (by decide +kernel), 28, 168, rfl, rfl, ?_⟩⟩
  rw [wn_204]
  refine b_138 (d := d) ?_
  refine ⟨vp_in_nI (by decide) (by decide), ?_⟩
  refine mV_eq (pc' := 56) (ls' := [some (.ref 98), some (.ref 50), some (.ref 62), some (.ref 91), some (.int (nI 18))]) (st' := []) (G' := w_207) rfl (by decide) rfl rfl ?_
  refine q_X2_init_56 98 sh_98 50 62 91 (nI 18) ⟨99, (by decide +kernel), sh_99, fun h => absurd h (by decide), fun _ => ⟨99, (by decide +kernel), sh_99, 27, 164, rfl, rfl, (by decide +kernel), 26, 156, rfl, rfl, ?_⟩⟩
  rw [wn_207]
  refine b_140 (d := d) ?_
  refine ⟨vp_in_nI (by decide) (by decide), ?_⟩
  refine mV_eq (pc' := 56) (ls' := [some (.ref 98), some (.ref 50), some (.ref 62), some (.ref 91), some (.int (nI 19))]) (st' := []) (G' := w_210) rfl (by decide) rfl rfl ?_
  refine q_X2_init_56 98 sh_98 50 62 91 (nI 19) ⟨99, (by decide +kernel), sh_99, fun h => absurd h (by decide), fun _ => ⟨99, (by decide +kernel), sh_99, 25, 152, rfl, rfl, (by decide +kernel), 24, 144, rfl, rfl, ?_⟩⟩
  rw [wn_210]
  refine b_142 (d := d) ?_
  refine ⟨vp_in_nI (by decide) (by decide), ?_⟩
  refine mV_eq (pc' := 56) (ls' := [some (.ref 98), some (.ref 50), some (.ref 62), some (.ref 91), some (.int (nI 20))]) (st' := []) (G' := w_213) rfl (by decide) rfl rfl ?_
  refine q_X2_init_56 98 sh_98 50 62 91 (nI 20) ⟨99, (by decide +kernel), sh_99, fun h => absurd h (by decide), fun _ => ⟨99, (by decide +kernel), sh_99, 23, 140, rfl, rfl, (by decide +kernel), 22, 132, rfl, rfl, ?_⟩⟩
  rw [wn_213]
  refine b_144 (d := d) ?_
  refine ⟨vp_in_nI (by decide) (by decide), ?_⟩
  refine mV_eq (pc' := 56) (ls' := [some (.ref 98), some (.ref 50), some (.ref 62), some (.ref 91), some (.int (nI 21))]) (st' := []) (G' := w_216) rfl (by decide) rfl rfl ?_
  refine q_X2_init_56 98 sh_98 50 62 91 (nI 21) ⟨99, (by decide +kernel), sh_99, fun h => absurd h (by decide), fun _ => ⟨99, (by decide +kernel), sh_99, 21, 128, rfl, rfl, (by decide +kernel), 20, 120, rfl, rfl, ?_⟩⟩
  rw [wn_216]
  refine b_146 (d := d) ?_
  refine ⟨vp_in_nI (by decide) (by decide), ?_⟩
  refine mV_eq (pc' := 56) (ls' := [some (.ref 98), some (.ref 50), some (.ref 62), some (.ref 91), some (.int (nI 22))]) (st' := []) (G' := w_219) rfl (by decide) rfl rfl ?_
  refine q_X2_init_56 98 sh_98 50 62 91 (nI 22) ⟨99, (by decide +kernel), sh_99, fun h => absurd h (by decide), fun _ => ⟨99, (by decide +kernel), sh_99, 19, 116, rfl, rfl, (by decide +kernel), 18, 108, rfl, rfl, ?_⟩⟩
  rw [wn_219]
  refine b_148 (d := d) ?_
  refine ⟨vp_in_nI (by decide) (by decide), ?_⟩
  refine mV_eq (pc' := 56) (ls' := [some (.ref 98), some (.ref 50), some (.ref 62), some (.ref 91), some (.int (nI 23))]) (st' := []) (G' := w_222) rfl (by decide) rfl rfl ?_
  refine q_X2_init_56 98 sh_98 50 62 91 (nI 23) ⟨99, (by decide +kernel), sh_99, fun h => absurd h (by decide), fun _ => ⟨99, (by decide +kernel), sh_99, 17, 104, rfl, rfl, (by decide +kernel), 16, 96, rfl, rfl, ?_⟩⟩
  rw [wn_222]
  refine b_150 (d := d) ?_
  refine ⟨vp_in_nI (by decide) (by decide), ?_⟩
  refine mV_eq (pc' := 56) (ls' := [some (.ref 98), some (.ref 50), some (.ref 62), some (.ref 91), some (.int (nI 24))]) (st' := []) (G' := w_225) rfl (by decide) rfl rfl ?_
  refine q_X2_init_56 98 sh_98 50 62 91 (nI 24) ⟨99, (by decide +kernel), sh_99, fun h => absurd h (by decide), fun _ => ⟨99, (by decide +kernel), sh_99, 15, 92, rfl, rfl, (by decide +kernel), 14, 84, rfl, rfl, ?_⟩⟩
  rw [wn_225]
  refine b_152 (d := d) ?_
  refine ⟨vp_in_nI (by decide) (by decide), ?_⟩
  refine mV_eq (pc' := 56) (ls' := [some (.ref 98), some (.ref 50), some (.ref 62), some (.ref 91), some (.int (nI 25))]) (st' := []) (G' := w_228) rfl (by decide) rfl rfl ?_
  refine q_X2_init_56 98 sh_98 50 62 91 (nI 25) ⟨99, (by decide +kernel), sh_99, fun h => absurd h (by decide), fun _ => ⟨99, (by decide +kernel), sh_99, 13, 80, rfl, rfl, (by decide +kernel), 12, 72, rfl, rfl, ?_⟩⟩
  rw [wn_228]
  refine b_154 (d := d) ?_
  refine ⟨vp_in_nI (by decide) (by decide), ?_⟩
  refine mV_eq (pc' := 56) (ls' := [some (.ref 98), some (.ref 50), some (.ref 62), some (.ref 91), some (.int (nI 26))]) (st' := []) (G' := w_231) rfl (by decide) rfl rfl ?_
  refine q_X2_init_56 98 sh_98 50 62 91 (nI 26) ⟨99, (by decide +kernel), sh_99, fun h => absurd h (by decide), fun _ => ⟨99, (by decide +kernel), sh_99, 11, 68, rfl, rfl, (by decide +kernel), 10, 60, rfl, rfl, ?_⟩⟩
  rw [wn_231]
  refine b_156 (d := d) ?_
  refine ⟨vp_in_nI (by decide) (by decide), ?_⟩
  refine mV_eq (pc' := 56) (ls' := [some (.ref 98), some (.ref 50), some (.ref 62), some (.ref 91), some (.int (nI 27))]) (st' := []) (G' := w_234) rfl (by decide) rfl rfl ?_
  refine q_X2_init_56 98 sh_98 50 62 91 (nI 27) ⟨99, (by decide +kernel), sh_99, fun h => absurd h (by decide), fun _ => ⟨99, (by decide +kernel), sh_99, 9, 56, rfl, rfl, (by decide +kernel), 8, 48, rfl, rfl, ?_⟩⟩
  rw [wn_234]
  refine b_158 (d := d) ?_
  refine ⟨vp_in_nI (by decide) (by decide), ?_⟩
  refine mV_eq (pc' := 56) (ls' := [some (.ref 98), some (.ref 50), some (.ref 62), some (.ref 91), some (.int (nI 28))]) (st' := []) (G' := w_237) rfl (by decide) rfl rfl ?_
  refine q_X2_init_56 98 sh_98 50 62 91 (nI 28) ⟨99, (by decide +kernel), sh_99, fun h => absurd h (by decide), fun _ => ⟨99, (by decide +kernel), sh_99, 7, 44, rfl, rfl, (by decide +kernel), 6, 36, rfl, rfl, ?_⟩⟩
  rw [wn_237]
  refine b_160 (d := d) ?_
  refine ⟨vp_in_nI (by decide) (by decide), ?_⟩
  refine mV_eq (pc' := 56) (ls' := [some (.ref 98), some (.ref 50), some (.ref 62), some (.ref 91), some (.int (nI 29))]) (st' := []) (G' := w_240) rfl (by decide) rfl rfl ?_
  refine q_X2_init_56 98 sh_98 50 62 91 (nI 29) ⟨99, (by decide +kernel), sh_99, fun h => absurd h (by decide), fun _ => ⟨99, (by decide +kernel), sh_99, 5, 32, rfl, rfl, (by decide +kernel), 4, 24, rfl, rfl, ?_⟩⟩
  rw [wn_240]
  refine b_162 (d := d) ?_
  refine ⟨vp_in_nI (by decide) (by decide), ?_⟩
  refine mV_eq (pc' := 56) (ls' := [some (.ref 98), some (.ref 50), some (.ref 62), some (.ref 91), some (.int (nI 30))]) (st' := []) (G' := w_243) rfl (by decide) rfl rfl ?_
  refine q_X2_init_56 98 sh_98 50 62 91 (nI 30) ⟨99, (by decide +kernel), sh_99, fun h => absurd h (by decide), fun _ => ⟨99, (by decide +kernel), sh_99, 3, 20, rfl, rfl, (by decide +kernel), 2, 12, rfl, rfl, ?_⟩⟩
  rw [wn_243]
  refine b_164 (d := d) ?_
  refine ⟨vp_in_nI (by decide) (by decide), ?_⟩
  refine mV_eq (pc' := 56) (ls' := [some (.ref 98), some (.ref 50), some (.ref 62), some (.ref 91), some (.int (nI 31))]) (st' := []) (G' := w_246) rfl (by decide) rfl rfl ?_
  refine q_X2_init_56 98 sh_98 50 62 91 (nI 31) ⟨99, (by decide +kernel), sh_99, fun h => absurd h (by decide), fun _ => ⟨99, (by decide +kernel), sh_99, 1, 8, rfl, rfl, (by decide +kernel), 0, 0, rfl, rfl, ?_⟩⟩
  rw [wn_246]
  refine b_166 (d := d) ?_
  refine ⟨vp_in_nI (by decide) (by decide), ?_⟩
  refine mV_eq (pc' := 56) (ls' := [some (.ref 98), some (.ref 50), some (.ref 62), some (.ref 91), some (.int (nI 32))]) (st' := []) (G' := w_249) rfl (by decide) rfl rfl ?_
  exact q_X2_init_56 98 sh_98 50 62 91 (nI 32) ⟨99, (by decide +kernel), sh_99, fun _ => hK, fun h => absurd (by decide) h⟩
def w_250 : mm_G := mg_b (ms_r w_249 0 5 (some 98)) 1
theorem wn_250 : mg_n w_250 = 169 := by decide +kernel
def w_251 : mm_G := ms_r (ms_r (ms_i (ms_i (ms_r (mg_b (ms_r (mg_b w_250 1) 168 2 (some 169)) 1) 168 3 (some 170)) 168 4 (-1)) 168 5 (-1)) 168 0 (some 50)) 168 1 (some 98)
theorem wn_251 : mg_n w_251 = 171 := by decide +kernel
set_option maxRecDepth 100000 in
set_option maxHeartbeats 4000000 in
theorem b_168 {l : Launch} {κ : mm_K} {d : Nat} {K : mm_G → Prop} (hK : K w_251) : mC l κ false (d + 1) 2 4109 m_X4_init [.ref 168, .ref 50, .ref 98] w_250 (rV K) := by
  refine f_X4_init 168 sh_168 50 98 ⟨(by decide +kernel), (by decide +kernel), ?_⟩
  rw [wn_250]
  exact hK
def w_252 : mm_G := mg_b (ms_r w_251 0 6 (some 168)) 1
theorem wn_252 : mg_n w_252 = 172 := by decide +kernel
def w_253 : mm_G := mg_b (ms_r (mg_b w_252 1) 171 0 (some 172)) 1
theorem wn_253 : mg_n w_253 = 174 := by decide +kernel
def w_254 : mm_G := ms_r (mg_b w_253 1) 173 0 (some 174)
theorem wn_254 : mg_n w_254 = 175 := by decide +kernel
set_option maxRecDepth 100000 in
set_option maxHeartbeats 4000000 in
theorem b_173 {l : Launch} {κ : mm_K} {d : Nat} {K : mm_G → Prop} (hK : K w_254) : mC l κ false (d + 1) 1 16 m_X6_init [.ref 173] w_253 (rV K) := by
  refine f_X6_init 173 sh_173 ⟨(by decide +kernel), ?_⟩
  rw [wn_253]
  exact hK
def w_255 : mm_G := ms_r (ms_r (ms_r (ms_i (ms_r w_254 171 4 (some 173)) 171 5 (-1)) 171 1 (some 50)) 171 2 (some 62)) 171 3 (some 91)
theorem wn_255 : mg_n w_255 = 175 := by decide +kernel
set_option maxRecDepth 100000 in
set_option maxHeartbeats 4000000 in
theorem b_171 {l : Launch} {κ : mm_K} {d : Nat} {K : mm_G → Prop} (hK : K w_255) : mC l κ false (d + 2) 3 25 m_X8_init [.ref 171, .ref 50, .ref 62, .ref 91] w_252 (rV K) := by
  refine f_X8_init 171 sh_171 50 62 91 ⟨(by decide +kernel), (by decide +kernel), ?_⟩
  rw [wn_252]
  refine b_173 (d := d) ?_
  exact hK
def w_256 : mm_G := mg_b (ms_r w_255 0 7 (some 171)) 1
theorem wn_256 : mg_n w_256 = 176 := by decide +kernel
def w_257 : mm_G := ms_r (ms_r (ms_r (ms_i (ms_r (mm_fillr (ms_r (mg_b (ms_r (mg_b (ms_r (mg_b (ms_r (mg_b (ms_r (mg_b (ms_r (mg_b w_256 1) 175 0 (some 176)) 1) 175 1 (some 177)) 1) 175 5 (some 178)) 1) 175 6 (some 179)) 1) 175 7 (some 180)) 1) 175 8 (some 181)) 5) 175 9 (some 182)) 175 12 (-1)) 175 2 (some 50)) 175 3 (some 62)) 175 4 (some 91)
theorem wn_257 : mg_n w_257 = 188 := by decide +kernel
set_option maxRecDepth 100000 in
set_option maxHeartbeats 4000000 in
theorem b_175 {l : Launch} {κ : mm_K} {d : Nat} {K : mm_G → Prop} (hK : K w_257) : mC l κ false (d + 1) 12 11533 m_X9_init [.ref 175, .ref 50, .ref 62, .ref 91] w_256 (rV K) := by
  refine f_X9_init 175 sh_175 50 62 91 ⟨(by decide +kernel), (by decide +kernel), (by decide +kernel), (by decide +kernel), (by decide +kernel), (by decide +kernel), (by decide +kernel), by rw [wn_256]; decide +kernel, ?_⟩
  rw [wn_256]
  exact hK
def w_258 : mm_G := ms_r (mg_b (ms_r w_257 0 8 (some 175)) 1) 0 9 (some 188)
theorem wn_258 : mg_n w_258 = 189 := by decide +kernel
def w_259 : mm_G := mg_b w_258 1
theorem wn_259 : mg_n w_259 = 190 := by decide +kernel
def w_260 : mm_G := ms_r (mg_b (ms_r (mg_b (ms_r (mg_b w_259 1) 189 0 (some 190)) 1) 189 2 (some 191)) 1) 189 3 (some 192)
theorem wn_260 : mg_n w_260 = 193 := by decide +kernel
def w_261 : mm_G := mg_b w_260 1
theorem wn_261 : mg_n w_261 = 194 := by decide +kernel
def w_262 : mm_G := ms_r (mg_b w_261 1) 193 0 (some 194)
theorem wn_262 : mg_n w_262 = 195 := by decide +kernel
set_option maxRecDepth 100000 in
set_option maxHeartbeats 4000000 in
theorem b_193 {l : Launch} {κ : mm_K} {d : Nat} {K : mm_G → Prop} (hK : K w_262) : mC l κ false (d + 1) 1 16 m_X6_init [.ref 193] w_261 (rV K) := by
  refine f_X6_init 193 sh_193 ⟨(by decide +kernel), ?_⟩
  rw [wn_261]
  exact hK
def w_263 : mm_G := ms_i (ms_r w_262 190 0 (some 193)) 193 2 (nI 0)
theorem wn_263 : mg_n w_263 = 195 := by decide +kernel
def w_264 : mm_G := mg_b w_263 1
theorem wn_264 : mg_n w_264 = 196 := by decide +kernel
def w_265 : mm_G := ms_r (mg_b w_264 1) 195 0 (some 196)
theorem wn_265 : mg_n w_265 = 197 := by decide +kernel
set_option maxRecDepth 100000 in
set_option maxHeartbeats 4000000 in
theorem b_195 {l : Launch} {κ : mm_K} {d : Nat} {K : mm_G → Prop} (hK : K w_265) : mC l κ false (d + 1) 1 16 m_X6_init [.ref 195] w_264 (rV K) := by
  refine f_X6_init 195 sh_195 ⟨(by decide +kernel), ?_⟩
  rw [wn_264]
  exact hK
def w_266 : mm_G := ms_i (ms_r w_265 190 1 (some 195)) 195 2 (nI 1)
theorem wn_266 : mg_n w_266 = 197 := by decide +kernel
def w_267 : mm_G := mg_b w_266 1
theorem wn_267 : mg_n w_267 = 198 := by decide +kernel
def w_268 : mm_G := ms_r (mg_b w_267 1) 197 0 (some 198)
theorem wn_268 : mg_n w_268 = 199 := by decide +kernel
set_option maxRecDepth 100000 in
set_option maxHeartbeats 4000000 in
theorem b_197 {l : Launch} {κ : mm_K} {d : Nat} {K : mm_G → Prop} (hK : K w_268) : mC l κ false (d + 1) 1 16 m_X6_init [.ref 197] w_267 (rV K) := by
  refine f_X6_init 197 sh_197 ⟨(by decide +kernel), ?_⟩
  rw [wn_267]
  exact hK
def w_269 : mm_G := ms_i (ms_r w_268 190 2 (some 197)) 197 2 (nI 2)
theorem wn_269 : mg_n w_269 = 199 := by decide +kernel
def w_270 : mm_G := mg_b w_269 1
theorem wn_270 : mg_n w_270 = 200 := by decide +kernel
def w_271 : mm_G := ms_r (mg_b w_270 1) 199 0 (some 200)
theorem wn_271 : mg_n w_271 = 201 := by decide +kernel
set_option maxRecDepth 100000 in
set_option maxHeartbeats 4000000 in
theorem b_199 {l : Launch} {κ : mm_K} {d : Nat} {K : mm_G → Prop} (hK : K w_271) : mC l κ false (d + 1) 1 16 m_X6_init [.ref 199] w_270 (rV K) := by
  refine f_X6_init 199 sh_199 ⟨(by decide +kernel), ?_⟩
  rw [wn_270]
  exact hK
def w_272 : mm_G := ms_i (ms_r w_271 190 3 (some 199)) 199 2 (nI 3)
theorem wn_272 : mg_n w_272 = 201 := by decide +kernel
set_option maxRecDepth 100000 in
set_option maxHeartbeats 4000000 in
theorem b_189 {l : Launch} {κ : mm_K} {d : Nat} {K : mm_G → Prop} (hK : K w_272) : mC l κ false (d + 2) 11 124 m_X7_init [.ref 189] w_259 (rV K) := by
  refine f_X7_init 189 sh_189 ⟨(by decide +kernel), (by decide +kernel), (by decide +kernel), ?_⟩
  rw [wn_259]
  refine mV_eq (pc' := 30) (ls' := [some (.ref 189), some (.int (nI 0))]) (st' := []) (G' := w_260) rfl rfl rfl rfl ?_
  refine q_X7_init_30 189 sh_189 (nI 0) ⟨fun h => absurd h (by decide), fun _ => ⟨190, (by decide +kernel), sh_190, 7, 76, rfl, rfl, (by decide +kernel), 6, 60, rfl, rfl, ?_⟩⟩
  rw [wn_260]
  refine b_193 (d := d) ?_
  refine ⟨vp_in_nI (by decide) (by decide), 190, (by decide +kernel), sh_190, vp_in_nI (by decide) (by decide), 193, (by decide +kernel), sh_193, ?_⟩
  refine mV_eq (pc' := 30) (ls' := [some (.ref 189), some (.int (nI 1))]) (st' := []) (G' := w_263) rfl (by decide) rfl rfl ?_
  refine q_X7_init_30 189 sh_189 (nI 1) ⟨fun h => absurd h (by decide), fun _ => ⟨190, (by decide +kernel), sh_190, 5, 56, rfl, rfl, (by decide +kernel), 4, 40, rfl, rfl, ?_⟩⟩
  rw [wn_263]
  refine b_195 (d := d) ?_
  refine ⟨vp_in_nI (by decide) (by decide), 190, (by decide +kernel), sh_190, vp_in_nI (by decide) (by decide), 195, (by decide +kernel), sh_195, ?_⟩
  refine mV_eq (pc' := 30) (ls' := [some (.ref 189), some (.int (nI 2))]) (st' := []) (G' := w_266) rfl (by decide) rfl rfl ?_
  refine q_X7_init_30 189 sh_189 (nI 2) ⟨fun h => absurd h (by decide), fun _ => ⟨190, (by decide +kernel), sh_190, 3, 36, rfl, rfl, (by decide +kernel), 2, 20, rfl, rfl, ?_⟩⟩
  rw [wn_266]
  refine b_197 (d := d) ?_
  refine ⟨vp_in_nI (by decide) (by decide), 190, (by decide +kernel), sh_190, vp_in_nI (by decide) (by decide), 197, (by decide +kernel), sh_197, ?_⟩
  refine mV_eq (pc' := 30) (ls' := [some (.ref 189), some (.int (nI 3))]) (st' := []) (G' := w_269) rfl (by decide) rfl rfl ?_
  refine q_X7_init_30 189 sh_189 (nI 3) ⟨fun h => absurd h (by decide), fun _ => ⟨190, (by decide +kernel), sh_190, 1, 16, rfl, rfl, (by decide +kernel), 0, 0, rfl, rfl, ?_⟩⟩
  rw [wn_269]
  refine b_199 (d := d) ?_
  refine ⟨vp_in_nI (by decide) (by decide), 190, (by decide +kernel), sh_190, vp_in_nI (by decide) (by decide), 199, (by decide +kernel), sh_199, ?_⟩
  refine mV_eq (pc' := 30) (ls' := [some (.ref 189), some (.int (nI 4))]) (st' := []) (G' := w_272) rfl (by decide) rfl rfl ?_
  exact q_X7_init_30 189 sh_189 (nI 4) ⟨fun _ => hK, fun h => absurd (by decide) h⟩
def w_273 : mm_G := ms_r w_272 188 0 (some 189)
theorem wn_273 : mg_n w_273 = 201 := by decide +kernel
def w_274 : mm_G := mg_b w_273 1
theorem wn_274 : mg_n w_274 = 202 := by decide +kernel
def w_275 : mm_G := ms_r (mg_b (ms_r (mg_b (ms_r (mg_b w_274 1) 201 0 (some 202)) 1) 201 2 (some 203)) 1) 201 3 (some 204)
theorem wn_275 : mg_n w_275 = 205 := by decide +kernel
def w_276 : mm_G := mg_b w_275 1
theorem wn_276 : mg_n w_276 = 206 := by decide +kernel
def w_277 : mm_G := ms_r (mg_b w_276 1) 205 0 (some 206)
theorem wn_277 : mg_n w_277 = 207 := by decide +kernel
set_option maxRecDepth 100000 in
set_option maxHeartbeats 4000000 in
theorem b_205 {l : Launch} {κ : mm_K} {d : Nat} {K : mm_G → Prop} (hK : K w_277) : mC l κ false (d + 1) 1 16 m_X6_init [.ref 205] w_276 (rV K) := by
  refine f_X6_init 205 sh_205 ⟨(by decide +kernel), ?_⟩
  rw [wn_276]
  exact hK
def w_278 : mm_G := ms_i (ms_r w_277 202 0 (some 205)) 205 2 (nI 0)
theorem wn_278 : mg_n w_278 = 207 := by decide +kernel
def w_279 : mm_G := mg_b w_278 1
theorem wn_279 : mg_n w_279 = 208 := by decide +kernel
def w_280 : mm_G := ms_r (mg_b w_279 1) 207 0 (some 208)
theorem wn_280 : mg_n w_280 = 209 := by decide +kernel
set_option maxRecDepth 100000 in
set_option maxHeartbeats 4000000 in
theorem b_207 {l : Launch} {κ : mm_K} {d : Nat} {K : mm_G → Prop} (hK : K w_280) : mC l κ false (d + 1) 1 16 m_X6_init [.ref 207] w_279 (rV K) := by
  refine f_X6_init 207 sh_207 ⟨(by decide +kernel), ?_⟩
  rw [wn_279]
  exact hK
def w_281 : mm_G := ms_i (ms_r w_280 202 1 (some 207)) 207 2 (nI 1)
theorem wn_281 : mg_n w_281 = 209 := by decide +kernel
def w_282 : mm_G := mg_b w_281 1
theorem wn_282 : mg_n w_282 = 210 := by decide +kernel
def w_283 : mm_G := ms_r (mg_b w_282 1) 209 0 (some 210)
theorem wn_283 : mg_n w_283 = 211 := by decide +kernel
set_option maxRecDepth 100000 in
set_option maxHeartbeats 4000000 in
theorem b_209 {l : Launch} {κ : mm_K} {d : Nat} {K : mm_G → Prop} (hK : K w_283) : mC l κ false (d + 1) 1 16 m_X6_init [.ref 209] w_282 (rV K) := by
  refine f_X6_init 209 sh_209 ⟨(by decide +kernel), ?_⟩
  rw [wn_282]
  exact hK
def w_284 : mm_G := ms_i (ms_r w_283 202 2 (some 209)) 209 2 (nI 2)
theorem wn_284 : mg_n w_284 = 211 := by decide +kernel
def w_285 : mm_G := mg_b w_284 1
theorem wn_285 : mg_n w_285 = 212 := by decide +kernel
def w_286 : mm_G := ms_r (mg_b w_285 1) 211 0 (some 212)
theorem wn_286 : mg_n w_286 = 213 := by decide +kernel
set_option maxRecDepth 100000 in
set_option maxHeartbeats 4000000 in
theorem b_211 {l : Launch} {κ : mm_K} {d : Nat} {K : mm_G → Prop} (hK : K w_286) : mC l κ false (d + 1) 1 16 m_X6_init [.ref 211] w_285 (rV K) := by
  refine f_X6_init 211 sh_211 ⟨(by decide +kernel), ?_⟩
  rw [wn_285]
  exact hK
def w_287 : mm_G := ms_i (ms_r w_286 202 3 (some 211)) 211 2 (nI 3)
theorem wn_287 : mg_n w_287 = 213 := by decide +kernel
set_option maxRecDepth 100000 in
set_option maxHeartbeats 4000000 in
theorem b_201 {l : Launch} {κ : mm_K} {d : Nat} {K : mm_G → Prop} (hK : K w_287) : mC l κ false (d + 2) 11 124 m_X7_init [.ref 201] w_274 (rV K) := by
  refine f_X7_init 201 sh_201 ⟨(by decide +kernel), (by decide +kernel), (by decide +kernel), ?_⟩
  rw [wn_274]
  refine mV_eq (pc' := 30) (ls' := [some (.ref 201), some (.int (nI 0))]) (st' := []) (G' := w_275) rfl rfl rfl rfl ?_
  refine q_X7_init_30 201 sh_201 (nI 0) ⟨fun h => absurd h (by decide), fun _ => ⟨202, (by decide +kernel), sh_202, 7, 76, rfl, rfl, (by decide +kernel), 6, 60, rfl, rfl, ?_⟩⟩
  rw [wn_275]
  refine b_205 (d := d) ?_
  refine ⟨vp_in_nI (by decide) (by decide), 202, (by decide +kernel), sh_202, vp_in_nI (by decide) (by decide), 205, (by decide +kernel), sh_205, ?_⟩
  refine mV_eq (pc' := 30) (ls' := [some (.ref 201), some (.int (nI 1))]) (st' := []) (G' := w_278) rfl (by decide) rfl rfl ?_
  refine q_X7_init_30 201 sh_201 (nI 1) ⟨fun h => absurd h (by decide), fun _ => ⟨202, (by decide +kernel), sh_202, 5, 56, rfl, rfl, (by decide +kernel), 4, 40, rfl, rfl, ?_⟩⟩
  rw [wn_278]
  refine b_207 (d := d) ?_
  refine ⟨vp_in_nI (by decide) (by decide), 202, (by decide +kernel), sh_202, vp_in_nI (by decide) (by decide), 207, (by decide +kernel), sh_207, ?_⟩
  refine mV_eq (pc' := 30) (ls' := [some (.ref 201), some (.int (nI 2))]) (st' := []) (G' := w_281) rfl (by decide) rfl rfl ?_
  refine q_X7_init_30 201 sh_201 (nI 2) ⟨fun h => absurd h (by decide), fun _ => ⟨202, (by decide +kernel), sh_202, 3, 36, rfl, rfl, (by decide +kernel), 2, 20, rfl, rfl, ?_⟩⟩
  rw [wn_281]
  refine b_209 (d := d) ?_
  refine ⟨vp_in_nI (by decide) (by decide), 202, (by decide +kernel), sh_202, vp_in_nI (by decide) (by decide), 209, (by decide +kernel), sh_209, ?_⟩
  refine mV_eq (pc' := 30) (ls' := [some (.ref 201), some (.int (nI 3))]) (st' := []) (G' := w_284) rfl (by decide) rfl rfl ?_
  refine q_X7_init_30 201 sh_201 (nI 3) ⟨fun h => absurd h (by decide), fun _ => ⟨202, (by decide +kernel), sh_202, 1, 16, rfl, rfl, (by decide +kernel), 0, 0, rfl, rfl, ?_⟩⟩
  rw [wn_284]
  refine b_211 (d := d) ?_
  refine ⟨vp_in_nI (by decide) (by decide), 202, (by decide +kernel), sh_202, vp_in_nI (by decide) (by decide), 211, (by decide +kernel), sh_211, ?_⟩
  refine mV_eq (pc' := 30) (ls' := [some (.ref 201), some (.int (nI 4))]) (st' := []) (G' := w_287) rfl (by decide) rfl rfl ?_
  exact q_X7_init_30 201 sh_201 (nI 4) ⟨fun _ => hK, fun h => absurd (by decide) h⟩
def w_288 : mm_G := ms_r w_287 188 1 (some 201)
theorem wn_288 : mg_n w_288 = 213 := by decide +kernel
def w_289 : mm_G := mg_b w_288 1
theorem wn_289 : mg_n w_289 = 214 := by decide +kernel
def w_290 : mm_G := ms_r (mg_b (ms_r (mg_b (ms_r (mg_b w_289 1) 213 0 (some 214)) 1) 213 2 (some 215)) 1) 213 3 (some 216)
theorem wn_290 : mg_n w_290 = 217 := by decide +kernel
def w_291 : mm_G := mg_b w_290 1
theorem wn_291 : mg_n w_291 = 218 := by decide +kernel
def w_292 : mm_G := ms_r (mg_b w_291 1) 217 0 (some 218)
theorem wn_292 : mg_n w_292 = 219 := by decide +kernel
set_option maxRecDepth 100000 in
set_option maxHeartbeats 4000000 in
theorem b_217 {l : Launch} {κ : mm_K} {d : Nat} {K : mm_G → Prop} (hK : K w_292) : mC l κ false (d + 1) 1 16 m_X6_init [.ref 217] w_291 (rV K) := by
  refine f_X6_init 217 sh_217 ⟨(by decide +kernel), ?_⟩
  rw [wn_291]
  exact hK
def w_293 : mm_G := ms_i (ms_r w_292 214 0 (some 217)) 217 2 (nI 0)
theorem wn_293 : mg_n w_293 = 219 := by decide +kernel
def w_294 : mm_G := mg_b w_293 1
theorem wn_294 : mg_n w_294 = 220 := by decide +kernel
def w_295 : mm_G := ms_r (mg_b w_294 1) 219 0 (some 220)
theorem wn_295 : mg_n w_295 = 221 := by decide +kernel
set_option maxRecDepth 100000 in
set_option maxHeartbeats 4000000 in
theorem b_219 {l : Launch} {κ : mm_K} {d : Nat} {K : mm_G → Prop} (hK : K w_295) : mC l κ false (d + 1) 1 16 m_X6_init [.ref 219] w_294 (rV K) := by
  refine f_X6_init 219 sh_219 ⟨(by decide +kernel), ?_⟩
  rw [wn_294]
  exact hK
def w_296 : mm_G := ms_i (ms_r w_295 214 1 (some 219)) 219 2 (nI 1)
theorem wn_296 : mg_n w_296 = 221 := by decide +kernel
def w_297 : mm_G := mg_b w_296 1
theorem wn_297 : mg_n w_297 = 222 := by decide +kernel
def w_298 : mm_G := ms_r (mg_b w_297 1) 221 0 (some 222)
theorem wn_298 : mg_n w_298 = 223 := by decide +kernel
set_option maxRecDepth 100000 in
set_option maxHeartbeats 4000000 in
theorem b_221 {l : Launch} {κ : mm_K} {d : Nat} {K : mm_G → Prop} (hK : K w_298) : mC l κ false (d + 1) 1 16 m_X6_init [.ref 221] w_297 (rV K) := by
  refine f_X6_init 221 sh_221 ⟨(by decide +kernel), ?_⟩
  rw [wn_297]
  exact hK
def w_299 : mm_G := ms_i (ms_r w_298 214 2 (some 221)) 221 2 (nI 2)
theorem wn_299 : mg_n w_299 = 223 := by decide +kernel
def w_300 : mm_G := mg_b w_299 1
theorem wn_300 : mg_n w_300 = 224 := by decide +kernel
def w_301 : mm_G := ms_r (mg_b w_300 1) 223 0 (some 224)
theorem wn_301 : mg_n w_301 = 225 := by decide +kernel
set_option maxRecDepth 100000 in
set_option maxHeartbeats 4000000 in
theorem b_223 {l : Launch} {κ : mm_K} {d : Nat} {K : mm_G → Prop} (hK : K w_301) : mC l κ false (d + 1) 1 16 m_X6_init [.ref 223] w_300 (rV K) := by
  refine f_X6_init 223 sh_223 ⟨(by decide +kernel), ?_⟩
  rw [wn_300]
  exact hK
def w_302 : mm_G := ms_i (ms_r w_301 214 3 (some 223)) 223 2 (nI 3)
theorem wn_302 : mg_n w_302 = 225 := by decide +kernel
set_option maxRecDepth 100000 in
set_option maxHeartbeats 4000000 in
theorem b_213 {l : Launch} {κ : mm_K} {d : Nat} {K : mm_G → Prop} (hK : K w_302) : mC l κ false (d + 2) 11 124 m_X7_init [.ref 213] w_289 (rV K) := by
  refine f_X7_init 213 sh_213 ⟨(by decide +kernel), (by decide +kernel), (by decide +kernel), ?_⟩
  rw [wn_289]
  refine mV_eq (pc' := 30) (ls' := [some (.ref 213), some (.int (nI 0))]) (st' := []) (G' := w_290) rfl rfl rfl rfl ?_
  refine q_X7_init_30 213 sh_213 (nI 0) ⟨fun h => absurd h (by decide), fun _ => ⟨214, (by decide +kernel), sh_214, 7, 76, rfl, rfl, (by decide +kernel), 6, 60, rfl, rfl, ?_⟩⟩
  rw [wn_290]
  refine b_217 (d := d) ?_
  refine ⟨vp_in_nI (by decide) (by decide), 214, (by decide +kernel), sh_214, vp_in_nI (by decide) (by decide), 217, (by decide +kernel), sh_217, ?_⟩
  refine mV_eq (pc' := 30) (ls' := [some (.ref 213), some (.int (nI 1))]) (st' := []) (G' := w_293) rfl (by decide) rfl rfl ?_
  refine q_X7_init_30 213 sh_213 (nI 1) ⟨fun h => absurd h (by decide), fun _ => ⟨214, (by decide +kernel), sh_214, 5, 56, rfl, rfl, (by decide +kernel), 4, 40, rfl, rfl, ?_⟩⟩
  rw [wn_293]
  refine b_219 (d := d) ?_
  refine ⟨vp_in_nI (by decide) (by decide), 214, (by decide +kernel), sh_214, vp_in_nI (by decide) (by decide), 219, (by decide +kernel), sh_219, ?_⟩
  refine mV_eq (pc' := 30) (ls' := [some (.ref 213), some (.int (nI 2))]) (st' := []) (G' := w_296) rfl (by decide) rfl rfl ?_
  refine q_X7_init_30 213 sh_213 (nI 2) ⟨fun h => absurd h (by decide), fun _ => ⟨214, (by decide +kernel), sh_214, 3, 36, rfl, rfl, (by decide +kernel), 2, 20, rfl, rfl, ?_⟩⟩
  rw [wn_296]
  refine b_221 (d := d) ?_
  refine ⟨vp_in_nI (by decide) (by decide), 214, (by decide +kernel), sh_214, vp_in_nI (by decide) (by decide), 221, (by decide +kernel), sh_221, ?_⟩
  refine mV_eq (pc' := 30) (ls' := [some (.ref 213), some (.int (nI 3))]) (st' := []) (G' := w_299) rfl (by decide) rfl rfl ?_
  refine q_X7_init_30 213 sh_213 (nI 3) ⟨fun h => absurd h (by decide), fun _ => ⟨214, (by decide +kernel), sh_214, 1, 16, rfl, rfl, (by decide +kernel), 0, 0, rfl, rfl, ?_⟩⟩
  rw [wn_299]
  refine b_223 (d := d) ?_
  refine ⟨vp_in_nI (by decide) (by decide), 214, (by decide +kernel), sh_214, vp_in_nI (by decide) (by decide), 223, (by decide +kernel), sh_223, ?_⟩
  refine mV_eq (pc' := 30) (ls' := [some (.ref 213), some (.int (nI 4))]) (st' := []) (G' := w_302) rfl (by decide) rfl rfl ?_
  exact q_X7_init_30 213 sh_213 (nI 4) ⟨fun _ => hK, fun h => absurd (by decide) h⟩
def w_303 : mm_G := ms_r w_302 188 2 (some 213)
theorem wn_303 : mg_n w_303 = 225 := by decide +kernel
def w_304 : mm_G := ms_i (ms_r (mg_b w_303 1) 0 10 (some 225)) 0 11 (-1)
theorem wn_304 : mg_n w_304 = 226 := by decide +kernel
set_option maxRecDepth 100000 in
set_option maxHeartbeats 4000000 in
theorem b_0 {l : Launch} {κ : mm_K} {d : Nat} {K : mm_G → Prop} (hK : K w_304) : mC l κ false (d + 5) 225 20762 m_X12_init [.ref 0] w_0 (rV K) := by
  refine f_X12_init 0 sh_0 ⟨(by decide +kernel), ?_⟩
  rw [wn_0]
  refine b_1 (d := d) ⟨(by decide +kernel), 1, (by decide +kernel), sh_1, ?_⟩
  rw [wn_62]
  refine b_7 (d := d + 1) ⟨(by decide +kernel), ?_⟩
  rw [wn_105]
  refine b_50 (d := d + 2) ⟨(by decide +kernel), ?_⟩
  rw [wn_119]
  refine b_62 (d := d + 2) ⟨(by decide +kernel), 50, (by decide +kernel), sh_50, 62, (by decide +kernel), sh_62, ?_⟩
  rw [wn_145]
  refine b_91 (d := d + 2) ⟨(by decide +kernel), 50, (by decide +kernel), sh_50, 62, (by decide +kernel), sh_62, 91, (by decide +kernel), sh_91, ?_⟩
  rw [wn_149]
  refine b_98 (d := d + 2) ⟨(by decide +kernel), 50, (by decide +kernel), sh_50, 98, (by decide +kernel), sh_98, ?_⟩
  rw [wn_249]
  refine b_168 (d := d + 3) ⟨(by decide +kernel), 50, (by decide +kernel), sh_50, 62, (by decide +kernel), sh_62, 91, (by decide +kernel), sh_91, ?_⟩
  rw [wn_251]
  refine b_171 (d := d + 2) ⟨(by decide +kernel), 50, (by decide +kernel), sh_50, 62, (by decide +kernel), sh_62, 91, (by decide +kernel), sh_91, ?_⟩
  rw [wn_255]
  refine b_175 (d := d + 3) ⟨(by decide +kernel), ?_⟩
  rw [wn_257]
  refine mV_eq (pc' := 169) (ls' := [some (.ref 0), some (.int (nI 0))]) (st' := []) (G' := w_258) rfl rfl rfl rfl ?_
  refine q_X12_init_169 0 sh_0 (nI 0) ⟨fun h => absurd h (by decide), fun _ => ⟨188, (by decide +kernel), sh_188, 36, 387, rfl, rfl, (by decide +kernel), 25, 263, rfl, rfl, ?_⟩⟩
  rw [wn_258]
  refine b_189 (d := d + 2) ?_
  refine ⟨vp_in_nI (by decide) (by decide), ?_⟩
  refine mV_eq (pc' := 169) (ls' := [some (.ref 0), some (.int (nI 1))]) (st' := []) (G' := w_273) rfl (by decide) rfl rfl ?_
  refine q_X12_init_169 0 sh_0 (nI 1) ⟨fun h => absurd h (by decide), fun _ => ⟨188, (by decide +kernel), sh_188, 24, 257, rfl, rfl, (by decide +kernel), 13, 133, rfl, rfl, ?_⟩⟩
  rw [wn_273]
  refine b_201 (d := d + 2) ?_
  refine ⟨vp_in_nI (by decide) (by decide), ?_⟩
  refine mV_eq (pc' := 169) (ls' := [some (.ref 0), some (.int (nI 2))]) (st' := []) (G' := w_288) rfl (by decide) rfl rfl ?_
  refine q_X12_init_169 0 sh_0 (nI 2) ⟨fun h => absurd h (by decide), fun _ => ⟨188, (by decide +kernel), sh_188, 12, 127, rfl, rfl, (by decide +kernel), 1, 3, rfl, rfl, ?_⟩⟩
  rw [wn_288]
  refine b_213 (d := d + 2) ?_
  refine ⟨vp_in_nI (by decide) (by decide), ?_⟩
  refine mV_eq (pc' := 169) (ls' := [some (.ref 0), some (.int (nI 3))]) (st' := []) (G' := w_303) rfl (by decide) rfl rfl ?_
  refine q_X12_init_169 0 sh_0 (nI 3) ⟨fun _ => ⟨0, 0, rfl, rfl, (by decide +kernel), ?_⟩, fun h => absurd (by decide) h⟩
  rw [wn_303]
  exact hK
def w_305 : mm_G := mg_b w_304 1
theorem wn_305 : mg_n w_305 = 227 := by decide +kernel
def w_306 : mm_G := (ms_i (ms_r (mg_b (ms_r (mg_b (ms_r (mg_b (ms_r (mg_b (ms_r (mg_b (ms_r (mg_b (ms_r (mg_b (ms_r (mg_b (ms_r (mg_b (ms_r (mg_b (ms_r (mg_b (ms_r (mg_b (ms_r (mg_b (ms_r (mg_b (ms_r (mg_b (ms_r (mg_b (ms_r (mg_b (ms_r (mg_b (ms_r (mg_b (ms_r (mg_b (ms_r (mg_b (ms_r (mg_b (ms_r (mg_b (ms_r (mg_b (ms_r (mg_b (ms_r (mg_b (ms_r (mg_b (ms_r (mg_b (ms_r (mg_b (ms_r (mg_b (ms_r (mg_b (ms_r (mg_b (ms_r (mg_b (ms_r (mg_b (ms_r (mg_b (ms_r (mg_b (ms_r (mg_b (ms_r (mg_b (ms_r (mg_b (ms_r (mg_b (ms_r (mg_b (ms_r (mg_b (ms_r (mg_b (ms_r (mg_b (ms_r (mg_b (ms_r (mg_b (ms_r (mg_b (ms_r (mg_b (ms_r (mg_b (ms_r (mg_b (ms_r (mg_b (ms_i (ms_r (mg_b (ms_r (mg_b (ms_r (mg_b (ms_r (mg_b (ms_r (mg_b (ms_r (mg_b (ms_r (mg_b w_305 1) 226 1 (some 227)) 1) 226 3 (some 228)) 1) 226 5 (some 229)) 1) 226 6 (some 230)) 1) 226 7 (some 231)) 1) 226 8 (some 232)) 1) 226 9 (some 233)) 226 17 (-1)) 1) 226 20 (some 234)) 1) 226 21 (some 235)) 1) 226 22 (some 236)) 1) 226 23 (some 237)) 1) 226 24 (some 238)) 1) 226 25 (some 239)) 1) 226 26 (some 240)) 1) 226 27 (some 241)) 1) 226 28 (some 242)) 1) 226 29 (some 243)) 1) 226 30 (some 244)) 1) 226 31 (some 245)) 1) 226 32 (some 246)) 1) 226 33 (some 247)) 1) 226 34 (some 248)) 1) 226 35 (some 249)) 1) 226 36 (some 250)) 1) 226 37 (some 251)) 1) 226 38 (some 252)) 1) 226 39 (some 253)) 1) 226 40 (some 254)) 1) 226 43 (some 255)) 1) 226 44 (some 256)) 1) 226 48 (some 257)) 1) 226 52 (some 258)) 1) 226 54 (some 259)) 1) 226 56 (some 260)) 1) 226 57 (some 261)) 1) 226 59 (some 262)) 1) 226 60 (some 263)) 1) 226 61 (some 264)) 1) 226 62 (some 265)) 1) 226 63 (some 266)) 1) 226 64 (some 267)) 1) 226 67 (some 268)) 1) 226 68 (some 269)) 1) 226 69 (some 270)) 1) 226 70 (some 271)) 1) 226 71 (some 272)) 1) 226 73 (some 273)) 1) 226 74 (some 274)) 1) 226 75 (some 275)) 1) 226 76 (some 276)) 1) 226 77 (some 277)) 1) 226 78 (some 278)) 1) 226 79 (some 279)) 1) 226 80 (some 280)) 1) 226 81 (some 281)) 1) 226 82 (some 282)) 1) 226 83 (some 283)) 1) 226 84 (some 284)) 254 0 (nI 100))
theorem wn_306 : mg_n w_306 = 285 := by decide +kernel
def b_apd (a : Int64) (c : Int32) : Int64 := if c = 0 then a else lN 27 * a + (c - nI 97 + nI 1).toInt64
theorem b_app {l : Launch} {κ : mm_K} {d : Nat} {G : mm_G} {K : Int64 → mm_G → Prop} {a : Int64} {c : Int32} (h : K (b_apd a c) G) : mC l κ false d 0 0 m_X13_appends [.long a, .int c] G (rL K) := by
  unfold b_apd at h
  refine f_X13_appends a c ⟨fun q => ?_, fun q => ?_⟩
  · rw [if_neg q] at h; exact h
  · rw [if_pos q] at h; exact h
theorem b_word {l : Launch} {κ : mm_K} {d : Nat} {G : mm_G} {K : Int64 → mm_G → Prop} {a1 a2 a3 a4 a5 a6 a7 : Int32} {w : Int64} (hw : b_apd (b_apd (b_apd (b_apd (b_apd (b_apd (b_apd (lN 0) a1) a2) a3) a4) a5) a6) a7 = w) (h : K w G) : mC l κ false (d + 1) 0 0 m_X13_word [.int a1, .int a2, .int a3, .int a4, .int a5, .int a6, .int a7] G (rL K) := by
  subst hw
  exact f_X13_word a1 a2 a3 a4 a5 a6 a7 (b_app (b_app (b_app (b_app (b_app (b_app (b_app h)))))))
theorem mC_eq {l : Launch} {κ : mm_K} {ph : Bool} {d mc ms : Nat} {y : mm_Y} {as : List Value} {G G' : mm_G} {Q : Option Value → mm_G → Prop} (e : G = G') (h : mC l κ ph d mc ms y as G' Q) : mC l κ ph d mc ms y as G Q := by
  subst e; exact h
def w_307 : mm_G := ms_l w_306 233 0 (lN 13550)
theorem wn_307 : mg_n w_307 = 285 := by decide +kernel
def w_308 : mm_G := ms_l w_307 233 1 (lN 10989714)
theorem wn_308 : mg_n w_308 = 285 := by decide +kernel
def w_309 : mm_G := ms_l w_308 233 2 (lN 3913426)
theorem wn_309 : mg_n w_309 = 285 := by decide +kernel
def w_310 : mm_G := ms_l w_309 233 3 (lN 133554)
theorem wn_310 : mg_n w_310 = 285 := by decide +kernel
def w_311 : mm_G := ms_l w_310 233 4 (lN 14006)
theorem wn_311 : mg_n w_311 = 285 := by decide +kernel
def w_312 : mm_G := ms_l w_311 233 5 (lN 841)
theorem wn_312 : mg_n w_312 = 285 := by decide +kernel
def w_313 : mm_G := ms_l w_312 233 6 (lN 14420)
theorem wn_313 : mg_n w_313 = 285 := by decide +kernel
def w_314 : mm_G := ms_l w_313 233 7 (lN 10056)
theorem wn_314 : mg_n w_314 = 285 := by decide +kernel
def w_315 : mm_G := ms_l w_314 233 8 (lN 3181)
theorem wn_315 : mg_n w_315 = 285 := by decide +kernel
def w_316 : mm_G := ms_l w_315 233 9 (lN 11522)
theorem wn_316 : mg_n w_316 = 285 := by decide +kernel
def w_317 : mm_G := ms_l w_316 233 10 (lN 204)
theorem wn_317 : mg_n w_317 = 285 := by decide +kernel
def w_318 : mm_G := ms_l w_317 233 11 (lN 249)
theorem wn_318 : mg_n w_318 = 285 := by decide +kernel
def w_319 : mm_G := ms_l w_318 233 12 (lN 60114)
theorem wn_319 : mg_n w_319 = 285 := by decide +kernel
def w_320 : mm_G := ms_l w_319 233 13 (lN 4027)
theorem wn_320 : mg_n w_320 = 285 := by decide +kernel
def w_321 : mm_G := ms_l w_320 233 14 (lN 382255)
theorem wn_321 : mg_n w_321 = 285 := by decide +kernel
def w_322 : mm_G := ms_l w_321 233 15 (lN 298)
theorem wn_322 : mg_n w_322 = 285 := by decide +kernel
def w_323 : mm_G := ms_l w_322 233 16 (lN 299)
theorem wn_323 : mg_n w_323 = 285 := by decide +kernel
def w_324 : mm_G := ms_l w_323 233 17 (lN 300)
theorem wn_324 : mg_n w_324 = 285 := by decide +kernel
def w_325 : mm_G := ms_l w_324 233 18 (lN 301)
theorem wn_325 : mg_n w_325 = 285 := by decide +kernel
def w_326 : mm_G := ms_l w_325 233 19 (lN 257)
theorem wn_326 : mg_n w_326 = 285 := by decide +kernel
set_option maxRecDepth 100000 in
set_option maxHeartbeats 4000000 in
theorem b_226 {l : Launch} {κ : mm_K} {d : Nat} {K : mm_G → Prop} (hK : K w_326) : mC l κ false (d + 2) 58 22371 m_X13_init [.ref 226] w_305 (rV K) := by
  refine f_X13_init 226 sh_226 ?_
  rw [wn_305]
  refine ⟨(by decide +kernel), (by decide +kernel), (by decide +kernel), (by decide +kernel), (by decide +kernel), (by decide +kernel), (by decide +kernel), (by decide +kernel), (by decide +kernel), (by decide +kernel), (by decide +kernel), (by decide +kernel), (by decide +kernel), (by decide +kernel), (by decide +kernel), (by decide +kernel), (by decide +kernel), (by decide +kernel), (by decide +kernel), (by decide +kernel), (by decide +kernel), (by decide +kernel), (by decide +kernel), (by decide +kernel), (by decide +kernel), (by decide +kernel), (by decide +kernel), (by decide +kernel), (by decide +kernel), (by decide +kernel), (by decide +kernel), (by decide +kernel), (by decide +kernel), (by decide +kernel), (by decide +kernel), (by decide +kernel), (by decide +kernel), (by decide +kernel), (by decide +kernel), (by decide +kernel), (by decide +kernel), (by decide +kernel), (by decide +kernel), (by decide +kernel), (by decide +kernel), (by decide +kernel), (by decide +kernel), (by decide +kernel), (by decide +kernel), (by decide +kernel), (by decide +kernel), (by decide +kernel), (by decide +kernel), (by decide +kernel), (by decide +kernel), (by decide +kernel), (by decide +kernel), (by decide +kernel), 254, (by decide +kernel), sh_254, vp_in_nI (by decide) (by decide), ?_⟩
  refine ⟨233, (by decide +kernel), sh_233, ?_⟩
  refine mC_eq (show _ = w_306 from rfl) ?_
  refine b_word (d := d) (w := lN 13550) (by decide +kernel) ⟨vp_in_nI (by decide) (by decide), ?_⟩
  refine ⟨233, (by decide +kernel), sh_233, ?_⟩
  refine mC_eq (show _ = w_307 from rfl) ?_
  refine b_word (d := d) (w := lN 10989714) (by decide +kernel) ⟨vp_in_nI (by decide) (by decide), ?_⟩
  refine ⟨233, (by decide +kernel), sh_233, ?_⟩
  refine mC_eq (show _ = w_308 from rfl) ?_
  refine b_word (d := d) (w := lN 3913426) (by decide +kernel) ⟨vp_in_nI (by decide) (by decide), ?_⟩
  refine ⟨233, (by decide +kernel), sh_233, ?_⟩
  refine mC_eq (show _ = w_309 from rfl) ?_
  refine b_word (d := d) (w := lN 133554) (by decide +kernel) ⟨vp_in_nI (by decide) (by decide), ?_⟩
  refine ⟨233, (by decide +kernel), sh_233, ?_⟩
  refine mC_eq (show _ = w_310 from rfl) ?_
  refine b_word (d := d) (w := lN 14006) (by decide +kernel) ⟨vp_in_nI (by decide) (by decide), ?_⟩
  refine ⟨233, (by decide +kernel), sh_233, ?_⟩
  refine mC_eq (show _ = w_311 from rfl) ?_
  refine b_word (d := d) (w := lN 841) (by decide +kernel) ⟨vp_in_nI (by decide) (by decide), ?_⟩
  refine ⟨233, (by decide +kernel), sh_233, ?_⟩
  refine mC_eq (show _ = w_312 from rfl) ?_
  refine b_word (d := d) (w := lN 14420) (by decide +kernel) ⟨vp_in_nI (by decide) (by decide), ?_⟩
  refine ⟨233, (by decide +kernel), sh_233, ?_⟩
  refine mC_eq (show _ = w_313 from rfl) ?_
  refine b_word (d := d) (w := lN 10056) (by decide +kernel) ⟨vp_in_nI (by decide) (by decide), ?_⟩
  refine ⟨233, (by decide +kernel), sh_233, ?_⟩
  refine mC_eq (show _ = w_314 from rfl) ?_
  refine b_word (d := d) (w := lN 3181) (by decide +kernel) ⟨vp_in_nI (by decide) (by decide), ?_⟩
  refine ⟨233, (by decide +kernel), sh_233, ?_⟩
  refine mC_eq (show _ = w_315 from rfl) ?_
  refine b_word (d := d) (w := lN 11522) (by decide +kernel) ⟨vp_in_nI (by decide) (by decide), ?_⟩
  refine ⟨233, (by decide +kernel), sh_233, ?_⟩
  refine mC_eq (show _ = w_316 from rfl) ?_
  refine b_word (d := d) (w := lN 204) (by decide +kernel) ⟨vp_in_nI (by decide) (by decide), ?_⟩
  refine ⟨233, (by decide +kernel), sh_233, ?_⟩
  refine mC_eq (show _ = w_317 from rfl) ?_
  refine b_word (d := d) (w := lN 249) (by decide +kernel) ⟨vp_in_nI (by decide) (by decide), ?_⟩
  refine ⟨233, (by decide +kernel), sh_233, ?_⟩
  refine mC_eq (show _ = w_318 from rfl) ?_
  refine b_word (d := d) (w := lN 60114) (by decide +kernel) ⟨vp_in_nI (by decide) (by decide), ?_⟩
  refine ⟨233, (by decide +kernel), sh_233, ?_⟩
  refine mC_eq (show _ = w_319 from rfl) ?_
  refine b_word (d := d) (w := lN 4027) (by decide +kernel) ⟨vp_in_nI (by decide) (by decide), ?_⟩
  refine ⟨233, (by decide +kernel), sh_233, ?_⟩
  refine mC_eq (show _ = w_320 from rfl) ?_
  refine b_word (d := d) (w := lN 382255) (by decide +kernel) ⟨vp_in_nI (by decide) (by decide), ?_⟩
  refine ⟨233, (by decide +kernel), sh_233, ?_⟩
  refine mC_eq (show _ = w_321 from rfl) ?_
  refine b_word (d := d) (w := lN 298) (by decide +kernel) ⟨vp_in_nI (by decide) (by decide), ?_⟩
  refine ⟨233, (by decide +kernel), sh_233, ?_⟩
  refine mC_eq (show _ = w_322 from rfl) ?_
  refine b_word (d := d) (w := lN 299) (by decide +kernel) ⟨vp_in_nI (by decide) (by decide), ?_⟩
  refine ⟨233, (by decide +kernel), sh_233, ?_⟩
  refine mC_eq (show _ = w_323 from rfl) ?_
  refine b_word (d := d) (w := lN 300) (by decide +kernel) ⟨vp_in_nI (by decide) (by decide), ?_⟩
  refine ⟨233, (by decide +kernel), sh_233, ?_⟩
  refine mC_eq (show _ = w_324 from rfl) ?_
  refine b_word (d := d) (w := lN 301) (by decide +kernel) ⟨vp_in_nI (by decide) (by decide), ?_⟩
  refine ⟨233, (by decide +kernel), sh_233, ?_⟩
  refine mC_eq (show _ = w_325 from rfl) ?_
  refine b_word (d := d) (w := lN 257) (by decide +kernel) ⟨vp_in_nI (by decide) (by decide), ?_⟩
  exact hK
def w_fin : mm_G := w_326
