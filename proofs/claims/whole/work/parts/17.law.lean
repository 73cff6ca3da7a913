def m_law : mm_Y := (x, code, 4, some .boolean)
set_option maxRecDepth 100000 in
set_option maxHeartbeats 40000000 in
theorem p_law_18 {l : Launch} {κ : mm_K} {d mc ms : Nat} {G : mm_G} {K : Int32 → mm_G → Prop} (v3 : Int32) (h : ((((nI (κ.2.2 11)) - (nI 6)) < v3 → K (nI 1) G) ∧ (¬ ((nI (κ.2.2 11)) - (nI 6)) < v3 → vp_in v3 (κ.2.2 11) ∧ ((((mm_xs κ (v3.toNatClampNeg)) &&& (nI 63)) = nI 0 → vp_in (v3 + (nI 1)) (κ.2.2 11) ∧ vp_in (v3 + (nI 2)) (κ.2.2 11) ∧ vp_in (v3 + (nI 3)) (κ.2.2 11) ∧ vp_in (v3 + (nI 4)) (κ.2.2 11) ∧ vp_in (v3 + (nI 5)) (κ.2.2 11) ∧ mC l κ true (d + 9) 0 0 m_X12_feed [.ref 0, .int (mm_xs κ ((v3 + (nI 1)).toNatClampNeg)), .int (mm_xs κ ((v3 + (nI 2)).toNatClampNeg)), .int (mm_xs κ ((v3 + (nI 3)).toNatClampNeg)), .int (mm_xs κ ((v3 + (nI 4)).toNatClampNeg)), .int (mm_xs κ ((v3 + (nI 5)).toNatClampNeg))] G (rI (fun r1 G2 => vp_in (v3 + (nI 1)) (κ.2.2 11) ∧ vp_in (v3 + (nI 2)) (κ.2.2 11) ∧ vp_in (v3 + (nI 3)) (κ.2.2 11) ∧ vp_in (v3 + (nI 4)) (κ.2.2 11) ∧ vp_in (v3 + (nI 5)) (κ.2.2 11) ∧ mC l κ true (d + 9) 0 0 m_X13_feed [.ref 226, .int (mm_xs κ ((v3 + (nI 1)).toNatClampNeg)), .int (mm_xs κ ((v3 + (nI 2)).toNatClampNeg)), .int (mm_xs κ ((v3 + (nI 3)).toNatClampNeg)), .int (mm_xs κ ((v3 + (nI 4)).toNatClampNeg)), .int (mm_xs κ ((v3 + (nI 5)).toNatClampNeg))] G2 (rI (fun r3 G4 => ((r1 = r3 → mV l κ true (d + 10) mc ms m_law 18 [some (.retAddr 1), some (.ref 0), some (.ref 226), some (.int (v3 + (nI 6)))] [] G4 (rI K)) ∧ (¬ r1 = r3 → K (nI 0) G4))))))) ∧ (((mm_xs κ (v3.toNatClampNeg)) &&& (nI 63)) = nI 1 → vp_in (v3 + (nI 1)) (κ.2.2 11) ∧ mC l κ true (d + 9) 0 0 m_X12_back [.ref 0, .int (mm_xs κ ((v3 + (nI 1)).toNatClampNeg))] G (rI (fun r5 G6 => vp_in (v3 + (nI 1)) (κ.2.2 11) ∧ mC l κ true (d + 9) 0 0 m_X13_back [.ref 226, .int (mm_xs κ ((v3 + (nI 1)).toNatClampNeg))] G6 (rI (fun r7 G8 => ((r5 = r7 → mV l κ true (d + 10) mc ms m_law 18 [some (.retAddr 1), some (.ref 0), some (.ref 226), some (.int (v3 + (nI 6)))] [] G8 (rI K)) ∧ (¬ r5 = r7 → K (nI 0) G8))))))) ∧ (((mm_xs κ (v3.toNatClampNeg)) &&& (nI 63)) = nI 2 → ∃ c11 s12, mc = 64 + c11 ∧ ms = 704 + s12 ∧ mC l κ true (d + 9) 64 704 m_X12_read [.ref 0] G (rI (fun r9 G10 => mC l κ true (d + 9) 0 0 m_X13_read [.ref 226] G10 (rI (fun r13 G14 => ((r9 = r13 → mV l κ true (d + 10) c11 s12 m_law 18 [some (.retAddr 1), some (.ref 0), some (.ref 226), some (.int (v3 + (nI 6)))] [] G14 (rI K)) ∧ (¬ r9 = r13 → K (nI 0) G14))))))) ∧ (((mm_xs κ (v3.toNatClampNeg)) &&& (nI 63)) = nI 3 → mC l κ true (d + 9) 0 0 m_X12_place [.ref 0] G (rI (fun r15 G16 => mC l κ true (d + 9) 0 0 m_X13_place [.ref 226] G16 (rI (fun r17 G18 => ((r15 = r17 → mV l κ true (d + 10) mc ms m_law 18 [some (.retAddr 1), some (.ref 0), some (.ref 226), some (.int (v3 + (nI 6)))] [] G18 (rI K)) ∧ (¬ r15 = r17 → K (nI 0) G18))))))) ∧ (((mm_xs κ (v3.toNatClampNeg)) &&& (nI 63)) = nI 4 → vp_in (v3 + (nI 1)) (κ.2.2 11) ∧ mC l κ true (d + 9) 0 0 m_X12_lines [.ref 0, .int (mm_xs κ ((v3 + (nI 1)).toNatClampNeg))] G (rI (fun r19 G20 => vp_in (v3 + (nI 1)) (κ.2.2 11) ∧ mC l κ true (d + 9) 0 0 m_X13_lines [.ref 226, .int (mm_xs κ ((v3 + (nI 1)).toNatClampNeg))] G20 (rI (fun r21 G22 => ((r19 = r21 → mV l κ true (d + 10) mc ms m_law 18 [some (.retAddr 1), some (.ref 0), some (.ref 226), some (.int (v3 + (nI 6)))] [] G22 (rI K)) ∧ (¬ r19 = r21 → K (nI 0) G22))))))) ∧ (((mm_xs κ (v3.toNatClampNeg)) &&& (nI 63)) = nI 5 → vp_in (v3 + (nI 1)) (κ.2.2 11) ∧ vp_in (v3 + (nI 2)) (κ.2.2 11) ∧ vp_in (v3 + (nI 3)) (κ.2.2 11) ∧ mC l κ true (d + 9) 0 0 m_X12_line [.ref 0, .int (mm_xs κ ((v3 + (nI 1)).toNatClampNeg)), .int (mm_xs κ ((v3 + (nI 2)).toNatClampNeg)), .int (mm_xs κ ((v3 + (nI 3)).toNatClampNeg))] G (rI (fun r23 G24 => vp_in (v3 + (nI 1)) (κ.2.2 11) ∧ vp_in (v3 + (nI 2)) (κ.2.2 11) ∧ vp_in (v3 + (nI 3)) (κ.2.2 11) ∧ mC l κ true (d + 9) 0 0 m_X13_line [.ref 226, .int (mm_xs κ ((v3 + (nI 1)).toNatClampNeg)), .int (mm_xs κ ((v3 + (nI 2)).toNatClampNeg)), .int (mm_xs κ ((v3 + (nI 3)).toNatClampNeg))] G24 (rI (fun r25 G26 => ((r23 = r25 → mV l κ true (d + 10) mc ms m_law 18 [some (.retAddr 1), some (.ref 0), some (.ref 226), some (.int (v3 + (nI 6)))] [] G26 (rI K)) ∧ (¬ r23 = r25 → K (nI 0) G26))))))) ∧ (((mm_xs κ (v3.toNatClampNeg)) &&& (nI 63)) = nI 6 → vp_in (v3 + (nI 1)) (κ.2.2 11) ∧ vp_in (v3 + (nI 2)) (κ.2.2 11) ∧ vp_in (v3 + (nI 3)) (κ.2.2 11) ∧ mC l κ true (d + 9) 0 0 m_X12_run [.ref 0, .int (mm_xs κ ((v3 + (nI 1)).toNatClampNeg)), .int (mm_xs κ ((v3 + (nI 2)).toNatClampNeg)), .int (mm_xs κ ((v3 + (nI 3)).toNatClampNeg))] G (rI (fun r27 G28 => vp_in (v3 + (nI 1)) (κ.2.2 11) ∧ vp_in (v3 + (nI 2)) (κ.2.2 11) ∧ vp_in (v3 + (nI 3)) (κ.2.2 11) ∧ mC l κ true (d + 9) 0 0 m_X13_run [.ref 226, .int (mm_xs κ ((v3 + (nI 1)).toNatClampNeg)), .int (mm_xs κ ((v3 + (nI 2)).toNatClampNeg)), .int (mm_xs κ ((v3 + (nI 3)).toNatClampNeg))] G28 (rI (fun r29 G30 => ((r27 = r29 → mV l κ true (d + 10) mc ms m_law 18 [some (.retAddr 1), some (.ref 0), some (.ref 226), some (.int (v3 + (nI 6)))] [] G30 (rI K)) ∧ (¬ r27 = r29 → K (nI 0) G30))))))) ∧ (((mm_xs κ (v3.toNatClampNeg)) &&& (nI 63)) = nI 7 → vp_in (v3 + (nI 1)) (κ.2.2 11) ∧ vp_in (v3 + (nI 2)) (κ.2.2 11) ∧ vp_in (v3 + (nI 3)) (κ.2.2 11) ∧ vp_in (v3 + (nI 4)) (κ.2.2 11) ∧ mC l κ true (d + 9) 0 0 m_X12_after [.ref 0, .int (mm_xs κ ((v3 + (nI 1)).toNatClampNeg)), .int (mm_xs κ ((v3 + (nI 2)).toNatClampNeg)), .int (mm_xs κ ((v3 + (nI 3)).toNatClampNeg)), .int (mm_xs κ ((v3 + (nI 4)).toNatClampNeg))] G (rI (fun r31 G32 => vp_in (v3 + (nI 1)) (κ.2.2 11) ∧ vp_in (v3 + (nI 2)) (κ.2.2 11) ∧ vp_in (v3 + (nI 3)) (κ.2.2 11) ∧ vp_in (v3 + (nI 4)) (κ.2.2 11) ∧ mC l κ true (d + 9) 0 0 m_X13_after [.ref 226, .int (mm_xs κ ((v3 + (nI 1)).toNatClampNeg)), .int (mm_xs κ ((v3 + (nI 2)).toNatClampNeg)), .int (mm_xs κ ((v3 + (nI 3)).toNatClampNeg)), .int (mm_xs κ ((v3 + (nI 4)).toNatClampNeg))] G32 (rI (fun r33 G34 => ((r31 = r33 → mV l κ true (d + 10) mc ms m_law 18 [some (.retAddr 1), some (.ref 0), some (.ref 226), some (.int (v3 + (nI 6)))] [] G34 (rI K)) ∧ (¬ r31 = r33 → K (nI 0) G34))))))) ∧ (((mm_xs κ (v3.toNatClampNeg)) &&& (nI 63)) = nI 8 → vp_in (v3 + (nI 1)) (κ.2.2 11) ∧ vp_in (v3 + (nI 2)) (κ.2.2 11) ∧ vp_in (v3 + (nI 3)) (κ.2.2 11) ∧ vp_in (v3 + (nI 4)) (κ.2.2 11) ∧ mC l κ true (d + 9) 0 0 m_X12_out [.ref 0, .int (mm_xs κ ((v3 + (nI 1)).toNatClampNeg)), .int (mm_xs κ ((v3 + (nI 2)).toNatClampNeg)), .int (mm_xs κ ((v3 + (nI 3)).toNatClampNeg)), .int (mm_xs κ ((v3 + (nI 4)).toNatClampNeg))] G (rI (fun r35 G36 => vp_in (v3 + (nI 1)) (κ.2.2 11) ∧ vp_in (v3 + (nI 2)) (κ.2.2 11) ∧ vp_in (v3 + (nI 3)) (κ.2.2 11) ∧ vp_in (v3 + (nI 4)) (κ.2.2 11) ∧ mC l κ true (d + 9) 0 0 m_X13_out [.ref 226, .int (mm_xs κ ((v3 + (nI 1)).toNatClampNeg)), .int (mm_xs κ ((v3 + (nI 2)).toNatClampNeg)), .int (mm_xs κ ((v3 + (nI 3)).toNatClampNeg)), .int (mm_xs κ ((v3 + (nI 4)).toNatClampNeg))] G36 (rI (fun r37 G38 => ((r35 = r37 → mV l κ true (d + 10) mc ms m_law 18 [some (.retAddr 1), some (.ref 0), some (.ref 226), some (.int (v3 + (nI 6)))] [] G38 (rI K)) ∧ (¬ r35 = r37 → K (nI 0) G38))))))) ∧ (((mm_xs κ (v3.toNatClampNeg)) &&& (nI 63)) = nI 9 → vp_in (v3 + (nI 1)) (κ.2.2 11) ∧ vp_in (v3 + (nI 2)) (κ.2.2 11) ∧ mC l κ true (d + 9) 0 0 m_X12_same [.ref 0, .int (mm_xs κ ((v3 + (nI 1)).toNatClampNeg)), .int (mm_xs κ ((v3 + (nI 2)).toNatClampNeg))] G (rI (fun r39 G40 => vp_in (v3 + (nI 1)) (κ.2.2 11) ∧ vp_in (v3 + (nI 2)) (κ.2.2 11) ∧ mC l κ true (d + 9) 0 0 m_X13_same [.ref 226, .int (mm_xs κ ((v3 + (nI 1)).toNatClampNeg)), .int (mm_xs κ ((v3 + (nI 2)).toNatClampNeg))] G40 (rI (fun r41 G42 => ((r39 = r41 → mV l κ true (d + 10) mc ms m_law 18 [some (.retAddr 1), some (.ref 0), some (.ref 226), some (.int (v3 + (nI 6)))] [] G42 (rI K)) ∧ (¬ r39 = r41 → K (nI 0) G42))))))) ∧ (((mm_xs κ (v3.toNatClampNeg)) &&& (nI 63)) = nI 10 → vp_in (v3 + (nI 1)) (κ.2.2 11) ∧ vp_in (v3 + (nI 2)) (κ.2.2 11) ∧ mC l κ true (d + 9) 0 0 m_X12_differs [.ref 0, .int (mm_xs κ ((v3 + (nI 1)).toNatClampNeg)), .int (mm_xs κ ((v3 + (nI 2)).toNatClampNeg))] G (rI (fun r43 G44 => vp_in (v3 + (nI 1)) (κ.2.2 11) ∧ vp_in (v3 + (nI 2)) (κ.2.2 11) ∧ mC l κ true (d + 9) 0 0 m_X13_differs [.ref 226, .int (mm_xs κ ((v3 + (nI 1)).toNatClampNeg)), .int (mm_xs κ ((v3 + (nI 2)).toNatClampNeg))] G44 (rI (fun r45 G46 => ((r43 = r45 → mV l κ true (d + 10) mc ms m_law 18 [some (.retAddr 1), some (.ref 0), some (.ref 226), some (.int (v3 + (nI 6)))] [] G46 (rI K)) ∧ (¬ r43 = r45 → K (nI 0) G46))))))) ∧ (((mm_xs κ (v3.toNatClampNeg)) &&& (nI 63)) = nI 11 → vp_in (v3 + (nI 1)) (κ.2.2 11) ∧ vp_in (v3 + (nI 2)) (κ.2.2 11) ∧ mC l κ true (d + 9) 0 0 m_X12_bears [.ref 0, .int (mm_xs κ ((v3 + (nI 1)).toNatClampNeg)), .int (mm_xs κ ((v3 + (nI 2)).toNatClampNeg))] G (rI (fun r47 G48 => vp_in (v3 + (nI 1)) (κ.2.2 11) ∧ vp_in (v3 + (nI 2)) (κ.2.2 11) ∧ mC l κ true (d + 9) 0 0 m_X13_bears [.ref 226, .int (mm_xs κ ((v3 + (nI 1)).toNatClampNeg)), .int (mm_xs κ ((v3 + (nI 2)).toNatClampNeg))] G48 (rI (fun r49 G50 => ((r47 = r49 → mV l κ true (d + 10) mc ms m_law 18 [some (.retAddr 1), some (.ref 0), some (.ref 226), some (.int (v3 + (nI 6)))] [] G50 (rI K)) ∧ (¬ r47 = r49 → K (nI 0) G50))))))) ∧ (((mm_xs κ (v3.toNatClampNeg)) &&& (nI 63)) = nI 12 → vp_in (v3 + (nI 1)) (κ.2.2 11) ∧ vp_in (v3 + (nI 2)) (κ.2.2 11) ∧ mC l κ true (d + 9) 0 0 m_X12_breaks [.ref 0, .int (mm_xs κ ((v3 + (nI 1)).toNatClampNeg)), .int (mm_xs κ ((v3 + (nI 2)).toNatClampNeg))] G (rI (fun r51 G52 => vp_in (v3 + (nI 1)) (κ.2.2 11) ∧ vp_in (v3 + (nI 2)) (κ.2.2 11) ∧ mC l κ true (d + 9) 0 0 m_X13_breaks [.ref 226, .int (mm_xs κ ((v3 + (nI 1)).toNatClampNeg)), .int (mm_xs κ ((v3 + (nI 2)).toNatClampNeg))] G52 (rI (fun r53 G54 => ((r51 = r53 → mV l κ true (d + 10) mc ms m_law 18 [some (.retAddr 1), some (.ref 0), some (.ref 226), some (.int (v3 + (nI 6)))] [] G54 (rI K)) ∧ (¬ r51 = r53 → K (nI 0) G54))))))) ∧ (((mm_xs κ (v3.toNatClampNeg)) &&& (nI 63)) = nI 13 → vp_in (v3 + (nI 1)) (κ.2.2 11) ∧ mC l κ true (d + 9) 0 0 m_X12_idle [.ref 0, .int (mm_xs κ ((v3 + (nI 1)).toNatClampNeg))] G (rI (fun r55 G56 => vp_in (v3 + (nI 1)) (κ.2.2 11) ∧ mC l κ true (d + 9) 0 0 m_X13_idle [.ref 226, .int (mm_xs κ ((v3 + (nI 1)).toNatClampNeg))] G56 (rI (fun r57 G58 => ((r55 = r57 → mV l κ true (d + 10) mc ms m_law 18 [some (.retAddr 1), some (.ref 0), some (.ref 226), some (.int (v3 + (nI 6)))] [] G58 (rI K)) ∧ (¬ r55 = r57 → K (nI 0) G58))))))) ∧ (((mm_xs κ (v3.toNatClampNeg)) &&& (nI 63)) = nI 14 → vp_in (v3 + (nI 1)) (κ.2.2 11) ∧ vp_in (v3 + (nI 2)) (κ.2.2 11) ∧ mC l κ true (d + 9) 0 0 m_X12_harm [.ref 0, .int (mm_xs κ ((v3 + (nI 1)).toNatClampNeg)), .int (mm_xs κ ((v3 + (nI 2)).toNatClampNeg))] G (rI (fun r59 G60 => vp_in (v3 + (nI 1)) (κ.2.2 11) ∧ vp_in (v3 + (nI 2)) (κ.2.2 11) ∧ mC l κ true (d + 9) 0 0 m_X13_harm [.ref 226, .int (mm_xs κ ((v3 + (nI 1)).toNatClampNeg)), .int (mm_xs κ ((v3 + (nI 2)).toNatClampNeg))] G60 (rI (fun r61 G62 => ((r59 = r61 → mV l κ true (d + 10) mc ms m_law 18 [some (.retAddr 1), some (.ref 0), some (.ref 226), some (.int (v3 + (nI 6)))] [] G62 (rI K)) ∧ (¬ r59 = r61 → K (nI 0) G62))))))) ∧ (((mm_xs κ (v3.toNatClampNeg)) &&& (nI 63)) = nI 15 → vp_in (v3 + (nI 1)) (κ.2.2 11) ∧ mC l κ true (d + 9) 0 0 m_X12_worst [.ref 0, .int (mm_xs κ ((v3 + (nI 1)).toNatClampNeg))] G (rI (fun r63 G64 => vp_in (v3 + (nI 1)) (κ.2.2 11) ∧ mC l κ true (d + 9) 0 0 m_X13_worst [.ref 226, .int (mm_xs κ ((v3 + (nI 1)).toNatClampNeg))] G64 (rI (fun r65 G66 => ((r63 = r65 → mV l κ true (d + 10) mc ms m_law 18 [some (.retAddr 1), some (.ref 0), some (.ref 226), some (.int (v3 + (nI 6)))] [] G66 (rI K)) ∧ (¬ r63 = r65 → K (nI 0) G66))))))) ∧ (((mm_xs κ (v3.toNatClampNeg)) &&& (nI 63)) = nI 16 → vp_in (v3 + (nI 1)) (κ.2.2 11) ∧ mC l κ true (d + 9) 0 0 m_X12_pair [.ref 0, .int (mm_xs κ ((v3 + (nI 1)).toNatClampNeg))] G (rI (fun r67 G68 => vp_in (v3 + (nI 1)) (κ.2.2 11) ∧ mC l κ true (d + 9) 0 0 m_X13_pair [.ref 226, .int (mm_xs κ ((v3 + (nI 1)).toNatClampNeg))] G68 (rI (fun r69 G70 => ((r67 = r69 → mV l κ true (d + 10) mc ms m_law 18 [some (.retAddr 1), some (.ref 0), some (.ref 226), some (.int (v3 + (nI 6)))] [] G70 (rI K)) ∧ (¬ r67 = r69 → K (nI 0) G70))))))) ∧ (((mm_xs κ (v3.toNatClampNeg)) &&& (nI 63)) = nI 17 → vp_in (v3 + (nI 1)) (κ.2.2 11) ∧ mC l κ true (d + 9) 0 0 m_X12_mends [.ref 0, .int (mm_xs κ ((v3 + (nI 1)).toNatClampNeg))] G (rI (fun r71 G72 => vp_in (v3 + (nI 1)) (κ.2.2 11) ∧ mC l κ true (d + 9) 0 0 m_X13_mends [.ref 226, .int (mm_xs κ ((v3 + (nI 1)).toNatClampNeg))] G72 (rI (fun r73 G74 => ((r71 = r73 → mV l κ true (d + 10) mc ms m_law 18 [some (.retAddr 1), some (.ref 0), some (.ref 226), some (.int (v3 + (nI 6)))] [] G74 (rI K)) ∧ (¬ r71 = r73 → K (nI 0) G74))))))) ∧ (((mm_xs κ (v3.toNatClampNeg)) &&& (nI 63)) = nI 18 → vp_in (v3 + (nI 1)) (κ.2.2 11) ∧ mC l κ true (d + 9) 0 0 m_X12_reached [.ref 0, .int (mm_xs κ ((v3 + (nI 1)).toNatClampNeg))] G (rI (fun r75 G76 => vp_in (v3 + (nI 1)) (κ.2.2 11) ∧ mC l κ true (d + 9) 0 0 m_X13_reached [.ref 226, .int (mm_xs κ ((v3 + (nI 1)).toNatClampNeg))] G76 (rI (fun r77 G78 => ((r75 = r77 → mV l κ true (d + 10) mc ms m_law 18 [some (.retAddr 1), some (.ref 0), some (.ref 226), some (.int (v3 + (nI 6)))] [] G78 (rI K)) ∧ (¬ r75 = r77 → K (nI 0) G78))))))) ∧ (((mm_xs κ (v3.toNatClampNeg)) &&& (nI 63)) = nI 19 → vp_in (v3 + (nI 1)) (κ.2.2 11) ∧ vp_in (v3 + (nI 2)) (κ.2.2 11) ∧ vp_in (v3 + (nI 3)) (κ.2.2 11) ∧ vp_in (v3 + (nI 4)) (κ.2.2 11) ∧ mC l κ true (d + 9) 0 0 m_X12_step [.ref 0, .int (mm_xs κ ((v3 + (nI 1)).toNatClampNeg)), .int (mm_xs κ ((v3 + (nI 2)).toNatClampNeg)), .int (mm_xs κ ((v3 + (nI 3)).toNatClampNeg)), .int (mm_xs κ ((v3 + (nI 4)).toNatClampNeg))] G (rI (fun r79 G80 => vp_in (v3 + (nI 1)) (κ.2.2 11) ∧ vp_in (v3 + (nI 2)) (κ.2.2 11) ∧ vp_in (v3 + (nI 3)) (κ.2.2 11) ∧ vp_in (v3 + (nI 4)) (κ.2.2 11) ∧ mC l κ true (d + 9) 0 0 m_X13_step [.ref 226, .int (mm_xs κ ((v3 + (nI 1)).toNatClampNeg)), .int (mm_xs κ ((v3 + (nI 2)).toNatClampNeg)), .int (mm_xs κ ((v3 + (nI 3)).toNatClampNeg)), .int (mm_xs κ ((v3 + (nI 4)).toNatClampNeg))] G80 (rI (fun r81 G82 => ((r79 = r81 → mV l κ true (d + 10) mc ms m_law 18 [some (.retAddr 1), some (.ref 0), some (.ref 226), some (.int (v3 + (nI 6)))] [] G82 (rI K)) ∧ (¬ r79 = r81 → K (nI 0) G82))))))) ∧ (((mm_xs κ (v3.toNatClampNeg)) &&& (nI 63)) = nI 20 → vp_in (v3 + (nI 1)) (κ.2.2 11) ∧ vp_in (v3 + (nI 2)) (κ.2.2 11) ∧ vp_in (v3 + (nI 3)) (κ.2.2 11) ∧ mC l κ true (d + 9) 0 0 m_X12_life [.ref 0, .int (mm_xs κ ((v3 + (nI 1)).toNatClampNeg)), .int (mm_xs κ ((v3 + (nI 2)).toNatClampNeg)), .int (mm_xs κ ((v3 + (nI 3)).toNatClampNeg))] G (rI (fun r83 G84 => vp_in (v3 + (nI 1)) (κ.2.2 11) ∧ vp_in (v3 + (nI 2)) (κ.2.2 11) ∧ vp_in (v3 + (nI 3)) (κ.2.2 11) ∧ mC l κ true (d + 9) 0 0 m_X13_life [.ref 226, .int (mm_xs κ ((v3 + (nI 1)).toNatClampNeg)), .int (mm_xs κ ((v3 + (nI 2)).toNatClampNeg)), .int (mm_xs κ ((v3 + (nI 3)).toNatClampNeg))] G84 (rI (fun r85 G86 => ((r83 = r85 → mV l κ true (d + 10) mc ms m_law 18 [some (.retAddr 1), some (.ref 0), some (.ref 226), some (.int (v3 + (nI 6)))] [] G86 (rI K)) ∧ (¬ r83 = r85 → K (nI 0) G86))))))) ∧ (((mm_xs κ (v3.toNatClampNeg)) &&& (nI 63)) = nI 21 → vp_in (v3 + (nI 1)) (κ.2.2 11) ∧ mC l κ true (d + 9) 0 0 m_X12_soonest [.ref 0, .int (mm_xs κ ((v3 + (nI 1)).toNatClampNeg))] G (rI (fun r87 G88 => vp_in (v3 + (nI 1)) (κ.2.2 11) ∧ mC l κ true (d + 9) 0 0 m_X13_soonest [.ref 226, .int (mm_xs κ ((v3 + (nI 1)).toNatClampNeg))] G88 (rI (fun r89 G90 => ((r87 = r89 → mV l κ true (d + 10) mc ms m_law 18 [some (.retAddr 1), some (.ref 0), some (.ref 226), some (.int (v3 + (nI 6)))] [] G90 (rI K)) ∧ (¬ r87 = r89 → K (nI 0) G90))))))) ∧ (((mm_xs κ (v3.toNatClampNeg)) &&& (nI 63)) = nI 22 → vp_in (v3 + (nI 1)) (κ.2.2 11) ∧ vp_in (v3 + (nI 2)) (κ.2.2 11) ∧ mC l κ true (d + 9) 0 0 m_X12_ways [.ref 0, .int (mm_xs κ ((v3 + (nI 1)).toNatClampNeg)), .int (mm_xs κ ((v3 + (nI 2)).toNatClampNeg))] G (rL (fun r91 G92 => vp_in (v3 + (nI 1)) (κ.2.2 11) ∧ vp_in (v3 + (nI 2)) (κ.2.2 11) ∧ mC l κ true (d + 9) 0 0 m_X13_ways [.ref 226, .int (mm_xs κ ((v3 + (nI 1)).toNatClampNeg)), .int (mm_xs κ ((v3 + (nI 2)).toNatClampNeg))] G92 (rL (fun r93 G94 => (((lg_cmp r91 r93) = 0 → mV l κ true (d + 10) mc ms m_law 18 [some (.retAddr 1), some (.ref 0), some (.ref 226), some (.int (v3 + (nI 6)))] [] G94 (rI K)) ∧ (¬ (lg_cmp r91 r93) = 0 → K (nI 0) G94))))))) ∧ (((mm_xs κ (v3.toNatClampNeg)) &&& (nI 63)) = nI 23 → vp_in (v3 + (nI 1)) (κ.2.2 11) ∧ vp_in (v3 + (nI 2)) (κ.2.2 11) ∧ (((mm_xs κ ((v3 + (nI 2)).toNatClampNeg)) = 0 → mC l κ true (d + 9) 0 0 m_X12_mean [.ref 0, .int (mm_xs κ ((v3 + (nI 1)).toNatClampNeg)), .int (nI 0)] G (rL (fun r95 G96 => vp_in (v3 + (nI 1)) (κ.2.2 11) ∧ vp_in (v3 + (nI 2)) (κ.2.2 11) ∧ (((mm_xs κ ((v3 + (nI 2)).toNatClampNeg)) = 0 → mC l κ true (d + 9) 0 0 m_X13_mean [.ref 226, .int (mm_xs κ ((v3 + (nI 1)).toNatClampNeg)), .int (nI 0)] G96 (rL (fun r97 G98 => (((lg_cmp r95 r97) = 0 → mV l κ true (d + 10) mc ms m_law 18 [some (.retAddr 1), some (.ref 0), some (.ref 226), some (.int (v3 + (nI 6)))] [] G98 (rI K)) ∧ (¬ (lg_cmp r95 r97) = 0 → K (nI 0) G98))))) ∧ (¬ (mm_xs κ ((v3 + (nI 2)).toNatClampNeg)) = 0 → mC l κ true (d + 9) 0 0 m_X13_mean [.ref 226, .int (mm_xs κ ((v3 + (nI 1)).toNatClampNeg)), .int (nI 1)] G96 (rL (fun r99 G100 => (((lg_cmp r95 r99) = 0 → mV l κ true (d + 10) mc ms m_law 18 [some (.retAddr 1), some (.ref 0), some (.ref 226), some (.int (v3 + (nI 6)))] [] G100 (rI K)) ∧ (¬ (lg_cmp r95 r99) = 0 → K (nI 0) G100))))))))) ∧ (¬ (mm_xs κ ((v3 + (nI 2)).toNatClampNeg)) = 0 → mC l κ true (d + 9) 0 0 m_X12_mean [.ref 0, .int (mm_xs κ ((v3 + (nI 1)).toNatClampNeg)), .int (nI 1)] G (rL (fun r101 G102 => vp_in (v3 + (nI 1)) (κ.2.2 11) ∧ vp_in (v3 + (nI 2)) (κ.2.2 11) ∧ (((mm_xs κ ((v3 + (nI 2)).toNatClampNeg)) = 0 → mC l κ true (d + 9) 0 0 m_X13_mean [.ref 226, .int (mm_xs κ ((v3 + (nI 1)).toNatClampNeg)), .int (nI 0)] G102 (rL (fun r103 G104 => (((lg_cmp r101 r103) = 0 → mV l κ true (d + 10) mc ms m_law 18 [some (.retAddr 1), some (.ref 0), some (.ref 226), some (.int (v3 + (nI 6)))] [] G104 (rI K)) ∧ (¬ (lg_cmp r101 r103) = 0 → K (nI 0) G104))))) ∧ (¬ (mm_xs κ ((v3 + (nI 2)).toNatClampNeg)) = 0 → mC l κ true (d + 9) 0 0 m_X13_mean [.ref 226, .int (mm_xs κ ((v3 + (nI 1)).toNatClampNeg)), .int (nI 1)] G102 (rL (fun r105 G106 => (((lg_cmp r101 r105) = 0 → mV l κ true (d + 10) mc ms m_law 18 [some (.retAddr 1), some (.ref 0), some (.ref 226), some (.int (v3 + (nI 6)))] [] G106 (rI K)) ∧ (¬ (lg_cmp r101 r105) = 0 → K (nI 0) G106))))))))))) ∧ (((mm_xs κ (v3.toNatClampNeg)) &&& (nI 63)) = nI 24 → vp_in (v3 + (nI 1)) (κ.2.2 11) ∧ vp_in (v3 + (nI 2)) (κ.2.2 11) ∧ mC l κ true (d + 9) 0 0 m_X12_core [.ref 0, .int (mm_xs κ ((v3 + (nI 1)).toNatClampNeg)), .int (mm_xs κ ((v3 + (nI 2)).toNatClampNeg))] G (rI (fun r107 G108 => vp_in (v3 + (nI 1)) (κ.2.2 11) ∧ vp_in (v3 + (nI 2)) (κ.2.2 11) ∧ mC l κ true (d + 9) 0 0 m_X13_core [.ref 226, .int (mm_xs κ ((v3 + (nI 1)).toNatClampNeg)), .int (mm_xs κ ((v3 + (nI 2)).toNatClampNeg))] G108 (rI (fun r109 G110 => ((r107 = r109 → mV l κ true (d + 10) mc ms m_law 18 [some (.retAddr 1), some (.ref 0), some (.ref 226), some (.int (v3 + (nI 6)))] [] G110 (rI K)) ∧ (¬ r107 = r109 → K (nI 0) G110))))))) ∧ (((mm_xs κ (v3.toNatClampNeg)) &&& (nI 63)) = nI 25 → vp_in (v3 + (nI 1)) (κ.2.2 11) ∧ vp_in (v3 + (nI 2)) (κ.2.2 11) ∧ mC l κ true (d + 9) 0 0 m_X12_does [.ref 0, .int (mm_xs κ ((v3 + (nI 1)).toNatClampNeg)), .int (mm_xs κ ((v3 + (nI 2)).toNatClampNeg))] G (rI (fun r111 G112 => vp_in (v3 + (nI 1)) (κ.2.2 11) ∧ vp_in (v3 + (nI 2)) (κ.2.2 11) ∧ mC l κ true (d + 9) 0 0 m_X13_does [.ref 226, .int (mm_xs κ ((v3 + (nI 1)).toNatClampNeg)), .int (mm_xs κ ((v3 + (nI 2)).toNatClampNeg))] G112 (rI (fun r113 G114 => ((r111 = r113 → mV l κ true (d + 10) mc ms m_law 18 [some (.retAddr 1), some (.ref 0), some (.ref 226), some (.int (v3 + (nI 6)))] [] G114 (rI K)) ∧ (¬ r111 = r113 → K (nI 0) G114))))))) ∧ (((mm_xs κ (v3.toNatClampNeg)) &&& (nI 63)) = nI 26 → vp_in (v3 + (nI 1)) (κ.2.2 11) ∧ vp_in (v3 + (nI 2)) (κ.2.2 11) ∧ vp_in (v3 + (nI 3)) (κ.2.2 11) ∧ mC l κ true (d + 9) 0 0 m_X12_sought [.ref 0, .int (mm_xs κ ((v3 + (nI 1)).toNatClampNeg)), .int (mm_xs κ ((v3 + (nI 2)).toNatClampNeg)), .int (mm_xs κ ((v3 + (nI 3)).toNatClampNeg))] G (rI (fun r115 G116 => vp_in (v3 + (nI 1)) (κ.2.2 11) ∧ vp_in (v3 + (nI 2)) (κ.2.2 11) ∧ vp_in (v3 + (nI 3)) (κ.2.2 11) ∧ mC l κ true (d + 9) 0 0 m_X13_sought [.ref 226, .int (mm_xs κ ((v3 + (nI 1)).toNatClampNeg)), .int (mm_xs κ ((v3 + (nI 2)).toNatClampNeg)), .int (mm_xs κ ((v3 + (nI 3)).toNatClampNeg))] G116 (rI (fun r117 G118 => ((r115 = r117 → mV l κ true (d + 10) mc ms m_law 18 [some (.retAddr 1), some (.ref 0), some (.ref 226), some (.int (v3 + (nI 6)))] [] G118 (rI K)) ∧ (¬ r115 = r117 → K (nI 0) G118))))))) ∧ (((mm_xs κ (v3.toNatClampNeg)) &&& (nI 63)) = nI 27 → vp_in (v3 + (nI 1)) (κ.2.2 11) ∧ vp_in (v3 + (nI 2)) (κ.2.2 11) ∧ vp_in (v3 + (nI 3)) (κ.2.2 11) ∧ vp_in (v3 + (nI 4)) (κ.2.2 11) ∧ mC l κ true (d + 9) 0 0 m_X12_soughtAt [.ref 0, .int (mm_xs κ ((v3 + (nI 1)).toNatClampNeg)), .int (mm_xs κ ((v3 + (nI 2)).toNatClampNeg)), .int (mm_xs κ ((v3 + (nI 3)).toNatClampNeg)), .int (mm_xs κ ((v3 + (nI 4)).toNatClampNeg))] G (rI (fun r119 G120 => vp_in (v3 + (nI 1)) (κ.2.2 11) ∧ vp_in (v3 + (nI 2)) (κ.2.2 11) ∧ vp_in (v3 + (nI 3)) (κ.2.2 11) ∧ vp_in (v3 + (nI 4)) (κ.2.2 11) ∧ mC l κ true (d + 9) 0 0 m_X13_soughtAt [.ref 226, .int (mm_xs κ ((v3 + (nI 1)).toNatClampNeg)), .int (mm_xs κ ((v3 + (nI 2)).toNatClampNeg)), .int (mm_xs κ ((v3 + (nI 3)).toNatClampNeg)), .int (mm_xs κ ((v3 + (nI 4)).toNatClampNeg))] G120 (rI (fun r121 G122 => ((r119 = r121 → mV l κ true (d + 10) mc ms m_law 18 [some (.retAddr 1), some (.ref 0), some (.ref 226), some (.int (v3 + (nI 6)))] [] G122 (rI K)) ∧ (¬ r119 = r121 → K (nI 0) G122))))))) ∧ (((mm_xs κ (v3.toNatClampNeg)) &&& (nI 63)) = nI 28 → vp_in (v3 + (nI 1)) (κ.2.2 11) ∧ vp_in (v3 + (nI 2)) (κ.2.2 11) ∧ vp_in (v3 + (nI 3)) (κ.2.2 11) ∧ mC l κ true (d + 9) 0 0 m_X12_put [.ref 0, .int (mm_xs κ ((v3 + (nI 1)).toNatClampNeg)), .int (mm_xs κ ((v3 + (nI 2)).toNatClampNeg)), .int (mm_xs κ ((v3 + (nI 3)).toNatClampNeg))] G (rI (fun r123 G124 => vp_in (v3 + (nI 1)) (κ.2.2 11) ∧ vp_in (v3 + (nI 2)) (κ.2.2 11) ∧ vp_in (v3 + (nI 3)) (κ.2.2 11) ∧ mC l κ true (d + 9) 0 0 m_X13_put_ [.ref 226, .int (mm_xs κ ((v3 + (nI 1)).toNatClampNeg)), .int (mm_xs κ ((v3 + (nI 2)).toNatClampNeg)), .int (mm_xs κ ((v3 + (nI 3)).toNatClampNeg))] G124 (rI (fun r125 G126 => ((r123 = r125 → mV l κ true (d + 10) mc ms m_law 18 [some (.retAddr 1), some (.ref 0), some (.ref 226), some (.int (v3 + (nI 6)))] [] G126 (rI K)) ∧ (¬ r123 = r125 → K (nI 0) G126))))))) ∧ (((mm_xs κ (v3.toNatClampNeg)) &&& (nI 63)) = nI 29 → vp_in (v3 + (nI 1)) (κ.2.2 11) ∧ vp_in (v3 + (nI 2)) (κ.2.2 11) ∧ mC l κ true (d + 9) 0 0 m_X12_take [.ref 0, .int (mm_xs κ ((v3 + (nI 1)).toNatClampNeg)), .int (mm_xs κ ((v3 + (nI 2)).toNatClampNeg))] G (rI (fun r127 G128 => vp_in (v3 + (nI 1)) (κ.2.2 11) ∧ vp_in (v3 + (nI 2)) (κ.2.2 11) ∧ mC l κ true (d + 9) 0 0 m_X13_take [.ref 226, .int (mm_xs κ ((v3 + (nI 1)).toNatClampNeg)), .int (mm_xs κ ((v3 + (nI 2)).toNatClampNeg))] G128 (rI (fun r129 G130 => ((r127 = r129 → mV l κ true (d + 10) mc ms m_law 18 [some (.retAddr 1), some (.ref 0), some (.ref 226), some (.int (v3 + (nI 6)))] [] G130 (rI K)) ∧ (¬ r127 = r129 → K (nI 0) G130))))))) ∧ (((mm_xs κ (v3.toNatClampNeg)) &&& (nI 63)) = nI 30 → vp_in (v3 + (nI 1)) (κ.2.2 11) ∧ vp_in (v3 + (nI 2)) (κ.2.2 11) ∧ vp_in (v3 + (nI 3)) (κ.2.2 11) ∧ mC l κ true (d + 9) 0 0 m_X12_see [.ref 0, .int (mm_xs κ ((v3 + (nI 1)).toNatClampNeg)), .int (mm_xs κ ((v3 + (nI 2)).toNatClampNeg)), .int (mm_xs κ ((v3 + (nI 3)).toNatClampNeg))] G (rI (fun r131 G132 => vp_in (v3 + (nI 1)) (κ.2.2 11) ∧ vp_in (v3 + (nI 2)) (κ.2.2 11) ∧ vp_in (v3 + (nI 3)) (κ.2.2 11) ∧ mC l κ true (d + 9) 0 0 m_X13_see [.ref 226, .int (mm_xs κ ((v3 + (nI 1)).toNatClampNeg)), .int (mm_xs κ ((v3 + (nI 2)).toNatClampNeg)), .int (mm_xs κ ((v3 + (nI 3)).toNatClampNeg))] G132 (rI (fun r133 G134 => ((r131 = r133 → mV l κ true (d + 10) mc ms m_law 18 [some (.retAddr 1), some (.ref 0), some (.ref 226), some (.int (v3 + (nI 6)))] [] G134 (rI K)) ∧ (¬ r131 = r133 → K (nI 0) G134))))))) ∧ (((mm_xs κ (v3.toNatClampNeg)) &&& (nI 63)) = nI 31 → mC l κ true (d + 9) 0 0 m_X12_forget [.ref 0] G (rI (fun r135 G136 => mC l κ true (d + 9) 0 0 m_X13_forget [.ref 226] G136 (rI (fun r137 G138 => ((r135 = r137 → mV l κ true (d + 10) mc ms m_law 18 [some (.retAddr 1), some (.ref 0), some (.ref 226), some (.int (v3 + (nI 6)))] [] G138 (rI K)) ∧ (¬ r135 = r137 → K (nI 0) G138))))))) ∧ (((mm_xs κ (v3.toNatClampNeg)) &&& (nI 63)) = nI 32 → vp_in (v3 + (nI 1)) (κ.2.2 11) ∧ vp_in (v3 + (nI 2)) (κ.2.2 11) ∧ vp_in (v3 + (nI 3)) (κ.2.2 11) ∧ mC l κ true (d + 9) 0 0 m_X12_suspects [.ref 0, .int (mm_xs κ ((v3 + (nI 1)).toNatClampNeg)), .int (mm_xs κ ((v3 + (nI 2)).toNatClampNeg)), .int (mm_xs κ ((v3 + (nI 3)).toNatClampNeg))] G (rI (fun r139 G140 => vp_in (v3 + (nI 1)) (κ.2.2 11) ∧ vp_in (v3 + (nI 2)) (κ.2.2 11) ∧ vp_in (v3 + (nI 3)) (κ.2.2 11) ∧ mC l κ true (d + 9) 0 0 m_X13_suspects [.ref 226, .int (mm_xs κ ((v3 + (nI 1)).toNatClampNeg)), .int (mm_xs κ ((v3 + (nI 2)).toNatClampNeg)), .int (mm_xs κ ((v3 + (nI 3)).toNatClampNeg))] G140 (rI (fun r141 G142 => ((r139 = r141 → mV l κ true (d + 10) mc ms m_law 18 [some (.retAddr 1), some (.ref 0), some (.ref 226), some (.int (v3 + (nI 6)))] [] G142 (rI K)) ∧ (¬ r139 = r141 → K (nI 0) G142))))))) ∧ (((mm_xs κ (v3.toNatClampNeg)) &&& (nI 63)) = nI 33 → vp_in (v3 + (nI 1)) (κ.2.2 11) ∧ vp_in (v3 + (nI 2)) (κ.2.2 11) ∧ vp_in (v3 + (nI 3)) (κ.2.2 11) ∧ vp_in (v3 + (nI 4)) (κ.2.2 11) ∧ mC l κ true (d + 9) 0 0 m_X12_suspect [.ref 0, .int (mm_xs κ ((v3 + (nI 1)).toNatClampNeg)), .int (mm_xs κ ((v3 + (nI 2)).toNatClampNeg)), .int (mm_xs κ ((v3 + (nI 3)).toNatClampNeg)), .int (mm_xs κ ((v3 + (nI 4)).toNatClampNeg))] G (rI (fun r143 G144 => vp_in (v3 + (nI 1)) (κ.2.2 11) ∧ vp_in (v3 + (nI 2)) (κ.2.2 11) ∧ vp_in (v3 + (nI 3)) (κ.2.2 11) ∧ vp_in (v3 + (nI 4)) (κ.2.2 11) ∧ mC l κ true (d + 9) 0 0 m_X13_suspect [.ref 226, .int (mm_xs κ ((v3 + (nI 1)).toNatClampNeg)), .int (mm_xs κ ((v3 + (nI 2)).toNatClampNeg)), .int (mm_xs κ ((v3 + (nI 3)).toNatClampNeg)), .int (mm_xs κ ((v3 + (nI 4)).toNatClampNeg))] G144 (rI (fun r145 G146 => ((r143 = r145 → mV l κ true (d + 10) mc ms m_law 18 [some (.retAddr 1), some (.ref 0), some (.ref 226), some (.int (v3 + (nI 6)))] [] G146 (rI K)) ∧ (¬ r143 = r145 → K (nI 0) G146))))))) ∧ (((mm_xs κ (v3.toNatClampNeg)) &&& (nI 63)) = nI 34 → vp_in (v3 + (nI 1)) (κ.2.2 11) ∧ vp_in (v3 + (nI 2)) (κ.2.2 11) ∧ vp_in (v3 + (nI 3)) (κ.2.2 11) ∧ mC l κ true (d + 9) 0 0 m_X12_next [.ref 0, .int (mm_xs κ ((v3 + (nI 1)).toNatClampNeg)), .int (mm_xs κ ((v3 + (nI 2)).toNatClampNeg)), .int (mm_xs κ ((v3 + (nI 3)).toNatClampNeg))] G (rI (fun r147 G148 => vp_in (v3 + (nI 1)) (κ.2.2 11) ∧ vp_in (v3 + (nI 2)) (κ.2.2 11) ∧ vp_in (v3 + (nI 3)) (κ.2.2 11) ∧ mC l κ true (d + 9) 0 0 m_X13_next [.ref 226, .int (mm_xs κ ((v3 + (nI 1)).toNatClampNeg)), .int (mm_xs κ ((v3 + (nI 2)).toNatClampNeg)), .int (mm_xs κ ((v3 + (nI 3)).toNatClampNeg))] G148 (rI (fun r149 G150 => ((r147 = r149 → mV l κ true (d + 10) mc ms m_law 18 [some (.retAddr 1), some (.ref 0), some (.ref 226), some (.int (v3 + (nI 6)))] [] G150 (rI K)) ∧ (¬ r147 = r149 → K (nI 0) G150))))))) ∧ (((mm_xs κ (v3.toNatClampNeg)) &&& (nI 63)) = nI 35 → vp_in (v3 + (nI 1)) (κ.2.2 11) ∧ vp_in (v3 + (nI 2)) (κ.2.2 11) ∧ vp_in (v3 + (nI 3)) (κ.2.2 11) ∧ mC l κ true (d + 9) 0 0 m_X12_most [.ref 0, .int (mm_xs κ ((v3 + (nI 1)).toNatClampNeg)), .int (mm_xs κ ((v3 + (nI 2)).toNatClampNeg)), .int (mm_xs κ ((v3 + (nI 3)).toNatClampNeg))] G (rI (fun r151 G152 => vp_in (v3 + (nI 1)) (κ.2.2 11) ∧ vp_in (v3 + (nI 2)) (κ.2.2 11) ∧ vp_in (v3 + (nI 3)) (κ.2.2 11) ∧ mC l κ true (d + 9) 0 0 m_X13_most [.ref 226, .int (mm_xs κ ((v3 + (nI 1)).toNatClampNeg)), .int (mm_xs κ ((v3 + (nI 2)).toNatClampNeg)), .int (mm_xs κ ((v3 + (nI 3)).toNatClampNeg))] G152 (rI (fun r153 G154 => ((r151 = r153 → mV l κ true (d + 10) mc ms m_law 18 [some (.retAddr 1), some (.ref 0), some (.ref 226), some (.int (v3 + (nI 6)))] [] G154 (rI K)) ∧ (¬ r151 = r153 → K (nI 0) G154))))))) ∧ (((mm_xs κ (v3.toNatClampNeg)) &&& (nI 63)) = nI 36 → vp_in (v3 + (nI 1)) (κ.2.2 11) ∧ mC l κ true (d + 9) 0 0 m_X12_hold [.ref 0, .int (mm_xs κ ((v3 + (nI 1)).toNatClampNeg))] G (rI (fun r155 G156 => vp_in (v3 + (nI 1)) (κ.2.2 11) ∧ mC l κ true (d + 9) 0 0 m_X13_hold [.ref 226, .int (mm_xs κ ((v3 + (nI 1)).toNatClampNeg))] G156 (rI (fun r157 G158 => ((r155 = r157 → mV l κ true (d + 10) mc ms m_law 18 [some (.retAddr 1), some (.ref 0), some (.ref 226), some (.int (v3 + (nI 6)))] [] G158 (rI K)) ∧ (¬ r155 = r157 → K (nI 0) G158))))))) ∧ (((mm_xs κ (v3.toNatClampNeg)) &&& (nI 63)) = nI 37 → vp_in (v3 + (nI 1)) (κ.2.2 11) ∧ mC l κ true (d + 9) 0 0 m_X12_restore [.ref 0, .int (mm_xs κ ((v3 + (nI 1)).toNatClampNeg))] G (rI (fun r159 G160 => vp_in (v3 + (nI 1)) (κ.2.2 11) ∧ mC l κ true (d + 9) 0 0 m_X13_restore [.ref 226, .int (mm_xs κ ((v3 + (nI 1)).toNatClampNeg))] G160 (rI (fun r161 G162 => ((r159 = r161 → mV l κ true (d + 10) mc ms m_law 18 [some (.retAddr 1), some (.ref 0), some (.ref 226), some (.int (v3 + (nI 6)))] [] G162 (rI K)) ∧ (¬ r159 = r161 → K (nI 0) G162))))))) ∧ (((mm_xs κ (v3.toNatClampNeg)) &&& (nI 63)) = nI 38 → vp_in (v3 + (nI 1)) (κ.2.2 11) ∧ mC l κ true (d + 9) 0 0 m_X12_count [.ref 0, .int (mm_xs κ ((v3 + (nI 1)).toNatClampNeg))] G (rI (fun r163 G164 => vp_in (v3 + (nI 1)) (κ.2.2 11) ∧ mC l κ true (d + 9) 0 0 m_X13_count [.ref 226, .int (mm_xs κ ((v3 + (nI 1)).toNatClampNeg))] G164 (rI (fun r165 G166 => ((r163 = r165 → mV l κ true (d + 10) mc ms m_law 18 [some (.retAddr 1), some (.ref 0), some (.ref 226), some (.int (v3 + (nI 6)))] [] G166 (rI K)) ∧ (¬ r163 = r165 → K (nI 0) G166))))))) ∧ ((((mm_xs κ (v3.toNatClampNeg)) &&& (nI 63)).toInt < 0 ∨ 38 < ((mm_xs κ (v3.toNatClampNeg)) &&& (nI 63)).toInt) → mV l κ true (d + 10) mc ms m_law 18 [some (.retAddr 1), some (.ref 0), some (.ref 226), some (.int (v3 + (nI 6)))] [] G (rI K)))))) : mV l κ true (d + 10) mc ms m_law 18 [some (.retAddr 1), some (.ref 0), some (.ref 226), some (.int v3)] [] G (rI K) := by
  refine mV_iload_n (k := 3) (by decide +kernel) rfl ?_
  refine mV_aload_nx (k := 0) (by decide +kernel) rfl ?_
  refine mV_scrl (by decide +kernel) ?_
  refine mV_bipush (n := 6) (v := nI 6) (by decide +kernel) (by decide) ?_
  refine mV_isub (by decide +kernel) ?_
  refine mV_icmp_gt (off := 1541) (tgt := 1565) (by decide +kernel) (by decide) (fun hc => ?_) (fun hc => ?_)
  · replace h := h.1 hc
    refine mV_iconst (n := 1) (v := nI 1) (by decide +kernel) (by decide) ?_
    exact mV_zret (by decide +kernel) rfl (by decide) h
  · replace h := h.2 hc
    refine mV_aload_nx (k := 0) (by decide +kernel) rfl ?_
    refine mV_iload_n (k := 3) (by decide +kernel) rfl ?_
    refine mV_scri (by decide +kernel) h.1 ?_
    replace h := h.2
    refine mV_bipush (n := 63) (v := nI 63) (by decide +kernel) (by decide) ?_
    refine mV_iand (by decide +kernel) ?_
    have hsw : (((mm_xs κ (v3.toNatClampNeg)) &&& (nI 63)).toInt < 0 ∨ 38 < ((mm_xs κ (v3.toNatClampNeg)) &&& (nI 63)).toInt) ∨ ((mm_xs κ (v3.toNatClampNeg)) &&& (nI 63)).toInt = 0 ∨ ((mm_xs κ (v3.toNatClampNeg)) &&& (nI 63)).toInt = 1 ∨ ((mm_xs κ (v3.toNatClampNeg)) &&& (nI 63)).toInt = 2 ∨ ((mm_xs κ (v3.toNatClampNeg)) &&& (nI 63)).toInt = 3 ∨ ((mm_xs κ (v3.toNatClampNeg)) &&& (nI 63)).toInt = 4 ∨ ((mm_xs κ (v3.toNatClampNeg)) &&& (nI 63)).toInt = 5 ∨ ((mm_xs κ (v3.toNatClampNeg)) &&& (nI 63)).toInt = 6 ∨ ((mm_xs κ (v3.toNatClampNeg)) &&& (nI 63)).toInt = 7 ∨ ((mm_xs κ (v3.toNatClampNeg)) &&& (nI 63)).toInt = 8 ∨ ((mm_xs κ (v3.toNatClampNeg)) &&& (nI 63)).toInt = 9 ∨ ((mm_xs κ (v3.toNatClampNeg)) &&& (nI 63)).toInt = 10 ∨ ((mm_xs κ (v3.toNatClampNeg)) &&& (nI 63)).toInt = 11 ∨ ((mm_xs κ (v3.toNatClampNeg)) &&& (nI 63)).toInt = 12 ∨ ((mm_xs κ (v3.toNatClampNeg)) &&& (nI 63)).toInt = 13 ∨ ((mm_xs κ (v3.toNatClampNeg)) &&& (nI 63)).toInt = 14 ∨ ((mm_xs κ (v3.toNatClampNeg)) &&& (nI 63)).toInt = 15 ∨ ((mm_xs κ (v3.toNatClampNeg)) &&& (nI 63)).toInt = 16 ∨ ((mm_xs κ (v3.toNatClampNeg)) &&& (nI 63)).toInt = 17 ∨ ((mm_xs κ (v3.toNatClampNeg)) &&& (nI 63)).toInt = 18 ∨ ((mm_xs κ (v3.toNatClampNeg)) &&& (nI 63)).toInt = 19 ∨ ((mm_xs κ (v3.toNatClampNeg)) &&& (nI 63)).toInt = 20 ∨ ((mm_xs κ (v3.toNatClampNeg)) &&& (nI 63)).toInt = 21 ∨ ((mm_xs κ (v3.toNatClampNeg)) &&& (nI 63)).toInt = 22 ∨ ((mm_xs κ (v3.toNatClampNeg)) &&& (nI 63)).toInt = 23 ∨ ((mm_xs κ (v3.toNatClampNeg)) &&& (nI 63)).toInt = 24 ∨ ((mm_xs κ (v3.toNatClampNeg)) &&& (nI 63)).toInt = 25 ∨ ((mm_xs κ (v3.toNatClampNeg)) &&& (nI 63)).toInt = 26 ∨ ((mm_xs κ (v3.toNatClampNeg)) &&& (nI 63)).toInt = 27 ∨ ((mm_xs κ (v3.toNatClampNeg)) &&& (nI 63)).toInt = 28 ∨ ((mm_xs κ (v3.toNatClampNeg)) &&& (nI 63)).toInt = 29 ∨ ((mm_xs κ (v3.toNatClampNeg)) &&& (nI 63)).toInt = 30 ∨ ((mm_xs κ (v3.toNatClampNeg)) &&& (nI 63)).toInt = 31 ∨ ((mm_xs κ (v3.toNatClampNeg)) &&& (nI 63)).toInt = 32 ∨ ((mm_xs κ (v3.toNatClampNeg)) &&& (nI 63)).toInt = 33 ∨ ((mm_xs κ (v3.toNatClampNeg)) &&& (nI 63)).toInt = 34 ∨ ((mm_xs κ (v3.toNatClampNeg)) &&& (nI 63)).toInt = 35 ∨ ((mm_xs κ (v3.toNatClampNeg)) &&& (nI 63)).toInt = 36 ∨ ((mm_xs κ (v3.toNatClampNeg)) &&& (nI 63)).toInt = 37 ∨ ((mm_xs κ (v3.toNatClampNeg)) &&& (nI 63)).toInt = 38 := by omega
    rcases hsw with hc | hc | hc | hc | hc | hc | hc | hc | hc | hc | hc | hc | hc | hc | hc | hc | hc | hc | hc | hc | hc | hc | hc | hc | hc | hc | hc | hc | hc | hc | hc | hc | hc | hc | hc | hc | hc | hc | hc | hc
    · replace h := h.2.2.2.2.2.2.2.2.2.2.2.2.2.2.2.2.2.2.2.2.2.2.2.2.2.2.2.2.2.2.2.2.2.2.2.2.2.2.2 hc
      refine mV_tabOut (dflt := 1526) (lo := 0) (hi := 38) (offs := #[171, 234, 257, 270, 283, 306, 349, 392, 445, 498, 531, 564, 597, 630, 653, 686, 709, 732, 755, 778, 831, 874, 897, 931, 981, 1014, 1047, 1090, 1143, 1186, 1219, 1262, 1275, 1318, 1371, 1414, 1457, 1480, 1503]) (len := 171) (tgt := 1559) (by decide +kernel) hc (by decide) ?_
      refine mV_iincc (i := 3) (n := 6) (c := nI 6) (ls' := [some (.retAddr 1), some (.ref 0), some (.ref 226), some (.int (v3 + (nI 6)))]) (by decide +kernel) (by decide) rfl (Nat.le_of_ble_eq_true rfl) rfl rfl ?_
      refine mV_goto (off := -1544) (tgt := 18) (by decide +kernel) (by decide) ?_
      exact h
    · replace h := h.1 (mm_eqI hc (by decide))
      refine mV_tabIn (dflt := 1526) (lo := 0) (hi := 38) (offs := #[171, 234, 257, 270, 283, 306, 349, 392, 445, 498, 531, 564, 597, 630, 653, 686, 709, 732, 755, 778, 831, 874, 897, 931, 981, 1014, 1047, 1090, 1143, 1186, 1219, 1262, 1275, 1318, 1371, 1414, 1457, 1480, 1503]) (len := 171) (off := 171) (tgt := 204) (by decide +kernel) (by rw [hc]; decide) (by rw [hc]; decide) (by rw [hc]; rfl) (by decide) ?_
      refine mV_aload_n (k := 1) (by decide +kernel) rfl ?_
      refine mV_aload_nx (k := 0) (by decide +kernel) rfl ?_
      refine mV_iload_n (k := 3) (by decide +kernel) rfl ?_
      refine mV_iconst (n := 1) (v := nI 1) (by decide +kernel) (by decide) ?_
      refine mV_iadd (by decide +kernel) ?_
      refine mV_scri (by decide +kernel) h.1 ?_
      replace h := h.2
      refine mV_aload_nx (k := 0) (by decide +kernel) rfl ?_
      refine mV_iload_n (k := 3) (by decide +kernel) rfl ?_
      refine mV_iconst (n := 2) (v := nI 2) (by decide +kernel) (by decide) ?_
      refine mV_iadd (by decide +kernel) ?_
      refine mV_scri (by decide +kernel) h.1 ?_
      replace h := h.2
      refine mV_aload_nx (k := 0) (by decide +kernel) rfl ?_
      refine mV_iload_n (k := 3) (by decide +kernel) rfl ?_
      refine mV_iconst (n := 3) (v := nI 3) (by decide +kernel) (by decide) ?_
      refine mV_iadd (by decide +kernel) ?_
      refine mV_scri (by decide +kernel) h.1 ?_
      replace h := h.2
      refine mV_aload_nx (k := 0) (by decide +kernel) rfl ?_
      refine mV_iload_n (k := 3) (by decide +kernel) rfl ?_
      refine mV_iconst (n := 4) (v := nI 4) (by decide +kernel) (by decide) ?_
      refine mV_iadd (by decide +kernel) ?_
      refine mV_scri (by decide +kernel) h.1 ?_
      replace h := h.2
      refine mV_aload_nx (k := 0) (by decide +kernel) rfl ?_
      refine mV_iload_n (k := 3) (by decide +kernel) rfl ?_
      refine mV_iconst (n := 5) (v := nI 5) (by decide +kernel) (by decide) ?_
      refine mV_iadd (by decide +kernel) ?_
      refine mV_scri (by decide +kernel) h.1 ?_
      replace h := h.2
      refine mV_bud (mc' := 0 + mc) (ms' := 0 + ms) (Nat.zero_add _) (Nat.zero_add _) ?_
      refine mV_cV (as := [.int (mm_xs κ ((v3 + (nI 1)).toNatClampNeg)), .int (mm_xs κ ((v3 + (nI 2)).toNatClampNeg)), .int (mm_xs κ ((v3 + (nI 3)).toNatClampNeg)), .int (mm_xs κ ((v3 + (nI 4)).toNatClampNeg)), .int (mm_xs κ ((v3 + (nI 5)).toNatClampNeg))]) (rest := []) (mc1 := 0) (ms1 := 0) (mc := mc) (ms := ms) (by decide +kernel) md_X12_feed lk_L_13 sh_0 rfl rfl rfl (Nat.le_of_ble_eq_true rfl) (mC.mono (mm_contI (fun r1 G2 hK => ?_)) h)
      replace h := hK
      refine mV_aload_n (k := 2) (by decide +kernel) rfl ?_
      refine mV_aload_nx (k := 0) (by decide +kernel) rfl ?_
      refine mV_iload_n (k := 3) (by decide +kernel) rfl ?_
      refine mV_iconst (n := 1) (v := nI 1) (by decide +kernel) (by decide) ?_
      refine mV_iadd (by decide +kernel) ?_
      refine mV_scri (by decide +kernel) h.1 ?_
      replace h := h.2
      refine mV_aload_nx (k := 0) (by decide +kernel) rfl ?_
      refine mV_iload_n (k := 3) (by decide +kernel) rfl ?_
      refine mV_iconst (n := 2) (v := nI 2) (by decide +kernel) (by decide) ?_
      refine mV_iadd (by decide +kernel) ?_
      refine mV_scri (by decide +kernel) h.1 ?_
      replace h := h.2
      refine mV_aload_nx (k := 0) (by decide +kernel) rfl ?_
      refine mV_iload_n (k := 3) (by decide +kernel) rfl ?_
      refine mV_iconst (n := 3) (v := nI 3) (by decide +kernel) (by decide) ?_
      refine mV_iadd (by decide +kernel) ?_
      refine mV_scri (by decide +kernel) h.1 ?_
      replace h := h.2
      refine mV_aload_nx (k := 0) (by decide +kernel) rfl ?_
      refine mV_iload_n (k := 3) (by decide +kernel) rfl ?_
      refine mV_iconst (n := 4) (v := nI 4) (by decide +kernel) (by decide) ?_
      refine mV_iadd (by decide +kernel) ?_
      refine mV_scri (by decide +kernel) h.1 ?_
      replace h := h.2
      refine mV_aload_nx (k := 0) (by decide +kernel) rfl ?_
      refine mV_iload_n (k := 3) (by decide +kernel) rfl ?_
      refine mV_iconst (n := 5) (v := nI 5) (by decide +kernel) (by decide) ?_
      refine mV_iadd (by decide +kernel) ?_
      refine mV_scri (by decide +kernel) h.1 ?_
      replace h := h.2
      refine mV_bud (mc' := 0 + mc) (ms' := 0 + ms) (Nat.zero_add _) (Nat.zero_add _) ?_
      refine mV_cV (as := [.int (mm_xs κ ((v3 + (nI 1)).toNatClampNeg)), .int (mm_xs κ ((v3 + (nI 2)).toNatClampNeg)), .int (mm_xs κ ((v3 + (nI 3)).toNatClampNeg)), .int (mm_xs κ ((v3 + (nI 4)).toNatClampNeg)), .int (mm_xs κ ((v3 + (nI 5)).toNatClampNeg))]) (rest := [.int r1]) (mc1 := 0) (ms1 := 0) (mc := mc) (ms := ms) (by decide +kernel) md_X13_feed lk_L_17 sh_226 rfl rfl rfl (Nat.le_of_ble_eq_true rfl) (mC.mono (mm_contI (fun r3 G4 hK => ?_)) h)
      replace h := hK
      refine mV_icmp_eq (off := 1297) (tgt := 1559) (by decide +kernel) (by decide) (fun hc => ?_) (fun hc => ?_)
      · replace h := h.1 hc
        refine mV_iincc (i := 3) (n := 6) (c := nI 6) (ls' := [some (.retAddr 1), some (.ref 0), some (.ref 226), some (.int (v3 + (nI 6)))]) (by decide +kernel) (by decide) rfl (Nat.le_of_ble_eq_true rfl) rfl rfl ?_
        refine mV_goto (off := -1544) (tgt := 18) (by decide +kernel) (by decide) ?_
        exact h
      · replace h := h.2 hc
        refine mV_iconst (n := 0) (v := nI 0) (by decide +kernel) (by decide) ?_
        exact mV_zret (by decide +kernel) rfl (by decide) h
    · replace h := h.2.1 (mm_eqI hc (by decide))
      refine mV_tabIn (dflt := 1526) (lo := 0) (hi := 38) (offs := #[171, 234, 257, 270, 283, 306, 349, 392, 445, 498, 531, 564, 597, 630, 653, 686, 709, 732, 755, 778, 831, 874, 897, 931, 981, 1014, 1047, 1090, 1143, 1186, 1219, 1262, 1275, 1318, 1371, 1414, 1457, 1480, 1503]) (len := 171) (off := 234) (tgt := 267) (by decide +kernel) (by rw [hc]; decide) (by rw [hc]; decide) (by rw [hc]; rfl) (by decide) ?_
      refine mV_aload_n (k := 1) (by decide +kernel) rfl ?_
      refine mV_aload_nx (k := 0) (by decide +kernel) rfl ?_
      refine mV_iload_n (k := 3) (by decide +kernel) rfl ?_
      refine mV_iconst (n := 1) (v := nI 1) (by decide +kernel) (by decide) ?_
      refine mV_iadd (by decide +kernel) ?_
      refine mV_scri (by decide +kernel) h.1 ?_
      replace h := h.2
      refine mV_bud (mc' := 0 + mc) (ms' := 0 + ms) (Nat.zero_add _) (Nat.zero_add _) ?_
      refine mV_cV (as := [.int (mm_xs κ ((v3 + (nI 1)).toNatClampNeg))]) (rest := []) (mc1 := 0) (ms1 := 0) (mc := mc) (ms := ms) (by decide +kernel) md_X12_back lk_L_18 sh_0 rfl rfl rfl (Nat.le_of_ble_eq_true rfl) (mC.mono (mm_contI (fun r5 G6 hK => ?_)) h)
      replace h := hK
      refine mV_aload_n (k := 2) (by decide +kernel) rfl ?_
      refine mV_aload_nx (k := 0) (by decide +kernel) rfl ?_
      refine mV_iload_n (k := 3) (by decide +kernel) rfl ?_
      refine mV_iconst (n := 1) (v := nI 1) (by decide +kernel) (by decide) ?_
      refine mV_iadd (by decide +kernel) ?_
      refine mV_scri (by decide +kernel) h.1 ?_
      replace h := h.2
      refine mV_bud (mc' := 0 + mc) (ms' := 0 + ms) (Nat.zero_add _) (Nat.zero_add _) ?_
      refine mV_cV (as := [.int (mm_xs κ ((v3 + (nI 1)).toNatClampNeg))]) (rest := [.int r5]) (mc1 := 0) (ms1 := 0) (mc := mc) (ms := ms) (by decide +kernel) md_X13_back lk_L_22 sh_226 rfl rfl rfl (Nat.le_of_ble_eq_true rfl) (mC.mono (mm_contI (fun r7 G8 hK => ?_)) h)
      replace h := hK
      refine mV_icmp_eq (off := 1274) (tgt := 1559) (by decide +kernel) (by decide) (fun hc => ?_) (fun hc => ?_)
      · replace h := h.1 hc
        refine mV_iincc (i := 3) (n := 6) (c := nI 6) (ls' := [some (.retAddr 1), some (.ref 0), some (.ref 226), some (.int (v3 + (nI 6)))]) (by decide +kernel) (by decide) rfl (Nat.le_of_ble_eq_true rfl) rfl rfl ?_
        refine mV_goto (off := -1544) (tgt := 18) (by decide +kernel) (by decide) ?_
        exact h
      · replace h := h.2 hc
        refine mV_iconst (n := 0) (v := nI 0) (by decide +kernel) (by decide) ?_
        exact mV_zret (by decide +kernel) rfl (by decide) h
    · replace h := h.2.2.1 (mm_eqI hc (by decide))
      refine mV_tabIn (dflt := 1526) (lo := 0) (hi := 38) (offs := #[171, 234, 257, 270, 283, 306, 349, 392, 445, 498, 531, 564, 597, 630, 653, 686, 709, 732, 755, 778, 831, 874, 897, 931, 981, 1014, 1047, 1090, 1143, 1186, 1219, 1262, 1275, 1318, 1371, 1414, 1457, 1480, 1503]) (len := 171) (off := 257) (tgt := 290) (by decide +kernel) (by rw [hc]; decide) (by rw [hc]; decide) (by rw [hc]; rfl) (by decide) ?_
      refine mV_aload_n (k := 1) (by decide +kernel) rfl ?_
      obtain ⟨c11, s12, rfl, rfl, h⟩ := h
      refine mV_cV (as := []) (rest := []) (mc1 := 64) (ms1 := 704) (mc := c11) (ms := s12) (by decide +kernel) md_X12_read lk_L_23 sh_0 rfl rfl rfl (Nat.le_of_ble_eq_true rfl) (mC.mono (mm_contI (fun r9 G10 hK => ?_)) h)
      replace h := hK
      refine mV_aload_n (k := 2) (by decide +kernel) rfl ?_
      refine mV_bud (mc' := 0 + c11) (ms' := 0 + s12) (Nat.zero_add _) (Nat.zero_add _) ?_
      refine mV_cV (as := []) (rest := [.int r9]) (mc1 := 0) (ms1 := 0) (mc := c11) (ms := s12) (by decide +kernel) md_X13_read lk_L_27 sh_226 rfl rfl rfl (Nat.le_of_ble_eq_true rfl) (mC.mono (mm_contI (fun r13 G14 hK => ?_)) h)
      replace h := hK
      refine mV_icmp_eq (off := 1261) (tgt := 1559) (by decide +kernel) (by decide) (fun hc => ?_) (fun hc => ?_)
      · replace h := h.1 hc
        refine mV_iincc (i := 3) (n := 6) (c := nI 6) (ls' := [some (.retAddr 1), some (.ref 0), some (.ref 226), some (.int (v3 + (nI 6)))]) (by decide +kernel) (by decide) rfl (Nat.le_of_ble_eq_true rfl) rfl rfl ?_
        refine mV_goto (off := -1544) (tgt := 18) (by decide +kernel) (by decide) ?_
        exact h
      · replace h := h.2 hc
        refine mV_iconst (n := 0) (v := nI 0) (by decide +kernel) (by decide) ?_
        exact mV_zret (by decide +kernel) rfl (by decide) h
    · replace h := h.2.2.2.1 (mm_eqI hc (by decide))
      refine mV_tabIn (dflt := 1526) (lo := 0) (hi := 38) (offs := #[171, 234, 257, 270, 283, 306, 349, 392, 445, 498, 531, 564, 597, 630, 653, 686, 709, 732, 755, 778, 831, 874, 897, 931, 981, 1014, 1047, 1090, 1143, 1186, 1219, 1262, 1275, 1318, 1371, 1414, 1457, 1480, 1503]) (len := 171) (off := 270) (tgt := 303) (by decide +kernel) (by rw [hc]; decide) (by rw [hc]; decide) (by rw [hc]; rfl) (by decide) ?_
      refine mV_aload_n (k := 1) (by decide +kernel) rfl ?_
      refine mV_bud (mc' := 0 + mc) (ms' := 0 + ms) (Nat.zero_add _) (Nat.zero_add _) ?_
      refine mV_cV (as := []) (rest := []) (mc1 := 0) (ms1 := 0) (mc := mc) (ms := ms) (by decide +kernel) md_X12_place lk_L_28 sh_0 rfl rfl rfl (Nat.le_of_ble_eq_true rfl) (mC.mono (mm_contI (fun r15 G16 hK => ?_)) h)
      replace h := hK
      refine mV_aload_n (k := 2) (by decide +kernel) rfl ?_
      refine mV_bud (mc' := 0 + mc) (ms' := 0 + ms) (Nat.zero_add _) (Nat.zero_add _) ?_
      refine mV_cV (as := []) (rest := [.int r15]) (mc1 := 0) (ms1 := 0) (mc := mc) (ms := ms) (by decide +kernel) md_X13_place lk_L_31 sh_226 rfl rfl rfl (Nat.le_of_ble_eq_true rfl) (mC.mono (mm_contI (fun r17 G18 hK => ?_)) h)
      replace h := hK
      refine mV_icmp_eq (off := 1248) (tgt := 1559) (by decide +kernel) (by decide) (fun hc => ?_) (fun hc => ?_)
      · replace h := h.1 hc
        refine mV_iincc (i := 3) (n := 6) (c := nI 6) (ls' := [some (.retAddr 1), some (.ref 0), some (.ref 226), some (.int (v3 + (nI 6)))]) (by decide +kernel) (by decide) rfl (Nat.le_of_ble_eq_true rfl) rfl rfl ?_
        refine mV_goto (off := -1544) (tgt := 18) (by decide +kernel) (by decide) ?_
        exact h
      · replace h := h.2 hc
        refine mV_iconst (n := 0) (v := nI 0) (by decide +kernel) (by decide) ?_
        exact mV_zret (by decide +kernel) rfl (by decide) h
    · replace h := h.2.2.2.2.1 (mm_eqI hc (by decide))
      refine mV_tabIn (dflt := 1526) (lo := 0) (hi := 38) (offs := #[171, 234, 257, 270, 283, 306, 349, 392, 445, 498, 531, 564, 597, 630, 653, 686, 709, 732, 755, 778, 831, 874, 897, 931, 981, 1014, 1047, 1090, 1143, 1186, 1219, 1262, 1275, 1318, 1371, 1414, 1457, 1480, 1503]) (len := 171) (off := 283) (tgt := 316) (by decide +kernel) (by rw [hc]; decide) (by rw [hc]; decide) (by rw [hc]; rfl) (by decide) ?_
      refine mV_aload_n (k := 1) (by decide +kernel) rfl ?_
      refine mV_aload_nx (k := 0) (by decide +kernel) rfl ?_
      refine mV_iload_n (k := 3) (by decide +kernel) rfl ?_
      refine mV_iconst (n := 1) (v := nI 1) (by decide +kernel) (by decide) ?_
      refine mV_iadd (by decide +kernel) ?_
      refine mV_scri (by decide +kernel) h.1 ?_
      replace h := h.2
      refine mV_bud (mc' := 0 + mc) (ms' := 0 + ms) (Nat.zero_add _) (Nat.zero_add _) ?_
      refine mV_cV (as := [.int (mm_xs κ ((v3 + (nI 1)).toNatClampNeg))]) (rest := []) (mc1 := 0) (ms1 := 0) (mc := mc) (ms := ms) (by decide +kernel) md_X12_lines lk_L_32 sh_0 rfl rfl rfl (Nat.le_of_ble_eq_true rfl) (mC.mono (mm_contI (fun r19 G20 hK => ?_)) h)
      replace h := hK
      refine mV_aload_n (k := 2) (by decide +kernel) rfl ?_
      refine mV_aload_nx (k := 0) (by decide +kernel) rfl ?_
      refine mV_iload_n (k := 3) (by decide +kernel) rfl ?_
      refine mV_iconst (n := 1) (v := nI 1) (by decide +kernel) (by decide) ?_
      refine mV_iadd (by decide +kernel) ?_
      refine mV_scri (by decide +kernel) h.1 ?_
      replace h := h.2
      refine mV_bud (mc' := 0 + mc) (ms' := 0 + ms) (Nat.zero_add _) (Nat.zero_add _) ?_
      refine mV_cV (as := [.int (mm_xs κ ((v3 + (nI 1)).toNatClampNeg))]) (rest := [.int r19]) (mc1 := 0) (ms1 := 0) (mc := mc) (ms := ms) (by decide +kernel) md_X13_lines lk_L_35 sh_226 rfl rfl rfl (Nat.le_of_ble_eq_true rfl) (mC.mono (mm_contI (fun r21 G22 hK => ?_)) h)
      replace h := hK
      refine mV_icmp_eq (off := 1225) (tgt := 1559) (by decide +kernel) (by decide) (fun hc => ?_) (fun hc => ?_)
      · replace h := h.1 hc
        refine mV_iincc (i := 3) (n := 6) (c := nI 6) (ls' := [some (.retAddr 1), some (.ref 0), some (.ref 226), some (.int (v3 + (nI 6)))]) (by decide +kernel) (by decide) rfl (Nat.le_of_ble_eq_true rfl) rfl rfl ?_
        refine mV_goto (off := -1544) (tgt := 18) (by decide +kernel) (by decide) ?_
        exact h
      · replace h := h.2 hc
        refine mV_iconst (n := 0) (v := nI 0) (by decide +kernel) (by decide) ?_
        exact mV_zret (by decide +kernel) rfl (by decide) h
    · replace h := h.2.2.2.2.2.1 (mm_eqI hc (by decide))
      refine mV_tabIn (dflt := 1526) (lo := 0) (hi := 38) (offs := #[171, 234, 257, 270, 283, 306, 349, 392, 445, 498, 531, 564, 597, 630, 653, 686, 709, 732, 755, 778, 831, 874, 897, 931, 981, 1014, 1047, 1090, 1143, 1186, 1219, 1262, 1275, 1318, 1371, 1414, 1457, 1480, 1503]) (len := 171) (off := 306) (tgt := 339) (by decide +kernel) (by rw [hc]; decide) (by rw [hc]; decide) (by rw [hc]; rfl) (by decide) ?_
      refine mV_aload_n (k := 1) (by decide +kernel) rfl ?_
      refine mV_aload_nx (k := 0) (by decide +kernel) rfl ?_
      refine mV_iload_n (k := 3) (by decide +kernel) rfl ?_
      refine mV_iconst (n := 1) (v := nI 1) (by decide +kernel) (by decide) ?_
      refine mV_iadd (by decide +kernel) ?_
      refine mV_scri (by decide +kernel) h.1 ?_
      replace h := h.2
      refine mV_aload_nx (k := 0) (by decide +kernel) rfl ?_
      refine mV_iload_n (k := 3) (by decide +kernel) rfl ?_
      refine mV_iconst (n := 2) (v := nI 2) (by decide +kernel) (by decide) ?_
      refine mV_iadd (by decide +kernel) ?_
      refine mV_scri (by decide +kernel) h.1 ?_
      replace h := h.2
      refine mV_aload_nx (k := 0) (by decide +kernel) rfl ?_
      refine mV_iload_n (k := 3) (by decide +kernel) rfl ?_
      refine mV_iconst (n := 3) (v := nI 3) (by decide +kernel) (by decide) ?_
      refine mV_iadd (by decide +kernel) ?_
      refine mV_scri (by decide +kernel) h.1 ?_
      replace h := h.2
      refine mV_bud (mc' := 0 + mc) (ms' := 0 + ms) (Nat.zero_add _) (Nat.zero_add _) ?_
      refine mV_cV (as := [.int (mm_xs κ ((v3 + (nI 1)).toNatClampNeg)), .int (mm_xs κ ((v3 + (nI 2)).toNatClampNeg)), .int (mm_xs κ ((v3 + (nI 3)).toNatClampNeg))]) (rest := []) (mc1 := 0) (ms1 := 0) (mc := mc) (ms := ms) (by decide +kernel) md_X12_line lk_L_36 sh_0 rfl rfl rfl (Nat.le_of_ble_eq_true rfl) (mC.mono (mm_contI (fun r23 G24 hK => ?_)) h)
      replace h := hK
      refine mV_aload_n (k := 2) (by decide +kernel) rfl ?_
      refine mV_aload_nx (k := 0) (by decide +kernel) rfl ?_
      refine mV_iload_n (k := 3) (by decide +kernel) rfl ?_
      refine mV_iconst (n := 1) (v := nI 1) (by decide +kernel) (by decide) ?_
      refine mV_iadd (by decide +kernel) ?_
      refine mV_scri (by decide +kernel) h.1 ?_
      replace h := h.2
      refine mV_aload_nx (k := 0) (by decide +kernel) rfl ?_
      refine mV_iload_n (k := 3) (by decide +kernel) rfl ?_
      refine mV_iconst (n := 2) (v := nI 2) (by decide +kernel) (by decide) ?_
      refine mV_iadd (by decide +kernel) ?_
      refine mV_scri (by decide +kernel) h.1 ?_
      replace h := h.2
      refine mV_aload_nx (k := 0) (by decide +kernel) rfl ?_
      refine mV_iload_n (k := 3) (by decide +kernel) rfl ?_
      refine mV_iconst (n := 3) (v := nI 3) (by decide +kernel) (by decide) ?_
      refine mV_iadd (by decide +kernel) ?_
      refine mV_scri (by decide +kernel) h.1 ?_
      replace h := h.2
      refine mV_bud (mc' := 0 + mc) (ms' := 0 + ms) (Nat.zero_add _) (Nat.zero_add _) ?_
      refine mV_cV (as := [.int (mm_xs κ ((v3 + (nI 1)).toNatClampNeg)), .int (mm_xs κ ((v3 + (nI 2)).toNatClampNeg)), .int (mm_xs κ ((v3 + (nI 3)).toNatClampNeg))]) (rest := [.int r23]) (mc1 := 0) (ms1 := 0) (mc := mc) (ms := ms) (by decide +kernel) md_X13_line lk_L_40 sh_226 rfl rfl rfl (Nat.le_of_ble_eq_true rfl) (mC.mono (mm_contI (fun r25 G26 hK => ?_)) h)
      replace h := hK
      refine mV_icmp_eq (off := 1182) (tgt := 1559) (by decide +kernel) (by decide) (fun hc => ?_) (fun hc => ?_)
      · replace h := h.1 hc
        refine mV_iincc (i := 3) (n := 6) (c := nI 6) (ls' := [some (.retAddr 1), some (.ref 0), some (.ref 226), some (.int (v3 + (nI 6)))]) (by decide +kernel) (by decide) rfl (Nat.le_of_ble_eq_true rfl) rfl rfl ?_
        refine mV_goto (off := -1544) (tgt := 18) (by decide +kernel) (by decide) ?_
        exact h
      · replace h := h.2 hc
        refine mV_iconst (n := 0) (v := nI 0) (by decide +kernel) (by decide) ?_
        exact mV_zret (by decide +kernel) rfl (by decide) h
    · replace h := h.2.2.2.2.2.2.1 (mm_eqI hc (by decide))
      refine mV_tabIn (dflt := 1526) (lo := 0) (hi := 38) (offs := #[171, 234, 257, 270, 283, 306, 349, 392, 445, 498, 531, 564, 597, 630, 653, 686, 709, 732, 755, 778, 831, 874, 897, 931, 981, 1014, 1047, 1090, 1143, 1186, 1219, 1262, 1275, 1318, 1371, 1414, 1457, 1480, 1503]) (len := 171) (off := 349) (tgt := 382) (by decide +kernel) (by rw [hc]; decide) (by rw [hc]; decide) (by rw [hc]; rfl) (by decide) ?_
      refine mV_aload_n (k := 1) (by decide +kernel) rfl ?_
      refine mV_aload_nx (k := 0) (by decide +kernel) rfl ?_
      refine mV_iload_n (k := 3) (by decide +kernel) rfl ?_
      refine mV_iconst (n := 1) (v := nI 1) (by decide +kernel) (by decide) ?_
      refine mV_iadd (by decide +kernel) ?_
      refine mV_scri (by decide +kernel) h.1 ?_
      replace h := h.2
      refine mV_aload_nx (k := 0) (by decide +kernel) rfl ?_
      refine mV_iload_n (k := 3) (by decide +kernel) rfl ?_
      refine mV_iconst (n := 2) (v := nI 2) (by decide +kernel) (by decide) ?_
      refine mV_iadd (by decide +kernel) ?_
      refine mV_scri (by decide +kernel) h.1 ?_
      replace h := h.2
      refine mV_aload_nx (k := 0) (by decide +kernel) rfl ?_
      refine mV_iload_n (k := 3) (by decide +kernel) rfl ?_
      refine mV_iconst (n := 3) (v := nI 3) (by decide +kernel) (by decide) ?_
      refine mV_iadd (by decide +kernel) ?_
      refine mV_scri (by decide +kernel) h.1 ?_
      replace h := h.2
      refine mV_bud (mc' := 0 + mc) (ms' := 0 + ms) (Nat.zero_add _) (Nat.zero_add _) ?_
      refine mV_cV (as := [.int (mm_xs κ ((v3 + (nI 1)).toNatClampNeg)), .int (mm_xs κ ((v3 + (nI 2)).toNatClampNeg)), .int (mm_xs κ ((v3 + (nI 3)).toNatClampNeg))]) (rest := []) (mc1 := 0) (ms1 := 0) (mc := mc) (ms := ms) (by decide +kernel) md_X12_run lk_L_41 sh_0 rfl rfl rfl (Nat.le_of_ble_eq_true rfl) (mC.mono (mm_contI (fun r27 G28 hK => ?_)) h)
      replace h := hK
      refine mV_aload_n (k := 2) (by decide +kernel) rfl ?_
      refine mV_aload_nx (k := 0) (by decide +kernel) rfl ?_
      refine mV_iload_n (k := 3) (by decide +kernel) rfl ?_
      refine mV_iconst (n := 1) (v := nI 1) (by decide +kernel) (by decide) ?_
      refine mV_iadd (by decide +kernel) ?_
      refine mV_scri (by decide +kernel) h.1 ?_
      replace h := h.2
      refine mV_aload_nx (k := 0) (by decide +kernel) rfl ?_
      refine mV_iload_n (k := 3) (by decide +kernel) rfl ?_
      refine mV_iconst (n := 2) (v := nI 2) (by decide +kernel) (by decide) ?_
      refine mV_iadd (by decide +kernel) ?_
      refine mV_scri (by decide +kernel) h.1 ?_
      replace h := h.2
      refine mV_aload_nx (k := 0) (by decide +kernel) rfl ?_
      refine mV_iload_n (k := 3) (by decide +kernel) rfl ?_
      refine mV_iconst (n := 3) (v := nI 3) (by decide +kernel) (by decide) ?_
      refine mV_iadd (by decide +kernel) ?_
      refine mV_scri (by decide +kernel) h.1 ?_
      replace h := h.2
      refine mV_bud (mc' := 0 + mc) (ms' := 0 + ms) (Nat.zero_add _) (Nat.zero_add _) ?_
      refine mV_cV (as := [.int (mm_xs κ ((v3 + (nI 1)).toNatClampNeg)), .int (mm_xs κ ((v3 + (nI 2)).toNatClampNeg)), .int (mm_xs κ ((v3 + (nI 3)).toNatClampNeg))]) (rest := [.int r27]) (mc1 := 0) (ms1 := 0) (mc := mc) (ms := ms) (by decide +kernel) md_X13_run lk_L_44 sh_226 rfl rfl rfl (Nat.le_of_ble_eq_true rfl) (mC.mono (mm_contI (fun r29 G30 hK => ?_)) h)
      replace h := hK
      refine mV_icmp_eq (off := 1139) (tgt := 1559) (by decide +kernel) (by decide) (fun hc => ?_) (fun hc => ?_)
      · replace h := h.1 hc
        refine mV_iincc (i := 3) (n := 6) (c := nI 6) (ls' := [some (.retAddr 1), some (.ref 0), some (.ref 226), some (.int (v3 + (nI 6)))]) (by decide +kernel) (by decide) rfl (Nat.le_of_ble_eq_true rfl) rfl rfl ?_
        refine mV_goto (off := -1544) (tgt := 18) (by decide +kernel) (by decide) ?_
        exact h
      · replace h := h.2 hc
        refine mV_iconst (n := 0) (v := nI 0) (by decide +kernel) (by decide) ?_
        exact mV_zret (by decide +kernel) rfl (by decide) h
    · replace h := h.2.2.2.2.2.2.2.1 (mm_eqI hc (by decide))
      refine mV_tabIn (dflt := 1526) (lo := 0) (hi := 38) (offs := #[171, 234, 257, 270, 283, 306, 349, 392, 445, 498, 531, 564, 597, 630, 653, 686, 709, 732, 755, 778, 831, 874, 897, 931, 981, 1014, 1047, 1090, 1143, 1186, 1219, 1262, 1275, 1318, 1371, 1414, 1457, 1480, 1503]) (len := 171) (off := 392) (tgt := 425) (by decide +kernel) (by rw [hc]; decide) (by rw [hc]; decide) (by rw [hc]; rfl) (by decide) ?_
      refine mV_aload_n (k := 1) (by decide +kernel) rfl ?_
      refine mV_aload_nx (k := 0) (by decide +kernel) rfl ?_
      refine mV_iload_n (k := 3) (by decide +kernel) rfl ?_
      refine mV_iconst (n := 1) (v := nI 1) (by decide +kernel) (by decide) ?_
      refine mV_iadd (by decide +kernel) ?_
      refine mV_scri (by decide +kernel) h.1 ?_
      replace h := h.2
      refine mV_aload_nx (k := 0) (by decide +kernel) rfl ?_
      refine mV_iload_n (k := 3) (by decide +kernel) rfl ?_
      refine mV_iconst (n := 2) (v := nI 2) (by decide +kernel) (by decide) ?_
      refine mV_iadd (by decide +kernel) ?_
      refine mV_scri (by decide +kernel) h.1 ?_
      replace h := h.2
      refine mV_aload_nx (k := 0) (by decide +kernel) rfl ?_
      refine mV_iload_n (k := 3) (by decide +kernel) rfl ?_
      refine mV_iconst (n := 3) (v := nI 3) (by decide +kernel) (by decide) ?_
      refine mV_iadd (by decide +kernel) ?_
      refine mV_scri (by decide +kernel) h.1 ?_
      replace h := h.2
      refine mV_aload_nx (k := 0) (by decide +kernel) rfl ?_
      refine mV_iload_n (k := 3) (by decide +kernel) rfl ?_
      refine mV_iconst (n := 4) (v := nI 4) (by decide +kernel) (by decide) ?_
      refine mV_iadd (by decide +kernel) ?_
      refine mV_scri (by decide +kernel) h.1 ?_
      replace h := h.2
      refine mV_bud (mc' := 0 + mc) (ms' := 0 + ms) (Nat.zero_add _) (Nat.zero_add _) ?_
      refine mV_cV (as := [.int (mm_xs κ ((v3 + (nI 1)).toNatClampNeg)), .int (mm_xs κ ((v3 + (nI 2)).toNatClampNeg)), .int (mm_xs κ ((v3 + (nI 3)).toNatClampNeg)), .int (mm_xs κ ((v3 + (nI 4)).toNatClampNeg))]) (rest := []) (mc1 := 0) (ms1 := 0) (mc := mc) (ms := ms) (by decide +kernel) md_X12_after lk_L_45 sh_0 rfl rfl rfl (Nat.le_of_ble_eq_true rfl) (mC.mono (mm_contI (fun r31 G32 hK => ?_)) h)
      replace h := hK
      refine mV_aload_n (k := 2) (by decide +kernel) rfl ?_
      refine mV_aload_nx (k := 0) (by decide +kernel) rfl ?_
      refine mV_iload_n (k := 3) (by decide +kernel) rfl ?_
      refine mV_iconst (n := 1) (v := nI 1) (by decide +kernel) (by decide) ?_
      refine mV_iadd (by decide +kernel) ?_
      refine mV_scri (by decide +kernel) h.1 ?_
      replace h := h.2
      refine mV_aload_nx (k := 0) (by decide +kernel) rfl ?_
      refine mV_iload_n (k := 3) (by decide +kernel) rfl ?_
      refine mV_iconst (n := 2) (v := nI 2) (by decide +kernel) (by decide) ?_
      refine mV_iadd (by decide +kernel) ?_
      refine mV_scri (by decide +kernel) h.1 ?_
      replace h := h.2
      refine mV_aload_nx (k := 0) (by decide +kernel) rfl ?_
      refine mV_iload_n (k := 3) (by decide +kernel) rfl ?_
      refine mV_iconst (n := 3) (v := nI 3) (by decide +kernel) (by decide) ?_
      refine mV_iadd (by decide +kernel) ?_
      refine mV_scri (by decide +kernel) h.1 ?_
      replace h := h.2
      refine mV_aload_nx (k := 0) (by decide +kernel) rfl ?_
      refine mV_iload_n (k := 3) (by decide +kernel) rfl ?_
      refine mV_iconst (n := 4) (v := nI 4) (by decide +kernel) (by decide) ?_
      refine mV_iadd (by decide +kernel) ?_
      refine mV_scri (by decide +kernel) h.1 ?_
      replace h := h.2
      refine mV_bud (mc' := 0 + mc) (ms' := 0 + ms) (Nat.zero_add _) (Nat.zero_add _) ?_
      refine mV_cV (as := [.int (mm_xs κ ((v3 + (nI 1)).toNatClampNeg)), .int (mm_xs κ ((v3 + (nI 2)).toNatClampNeg)), .int (mm_xs κ ((v3 + (nI 3)).toNatClampNeg)), .int (mm_xs κ ((v3 + (nI 4)).toNatClampNeg))]) (rest := [.int r31]) (mc1 := 0) (ms1 := 0) (mc := mc) (ms := ms) (by decide +kernel) md_X13_after lk_L_49 sh_226 rfl rfl rfl (Nat.le_of_ble_eq_true rfl) (mC.mono (mm_contI (fun r33 G34 hK => ?_)) h)
      replace h := hK
      refine mV_icmp_eq (off := 1086) (tgt := 1559) (by decide +kernel) (by decide) (fun hc => ?_) (fun hc => ?_)
      · replace h := h.1 hc
        refine mV_iincc (i := 3) (n := 6) (c := nI 6) (ls' := [some (.retAddr 1), some (.ref 0), some (.ref 226), some (.int (v3 + (nI 6)))]) (by decide +kernel) (by decide) rfl (Nat.le_of_ble_eq_true rfl) rfl rfl ?_
        refine mV_goto (off := -1544) (tgt := 18) (by decide +kernel) (by decide) ?_
        exact h
      · replace h := h.2 hc
        refine mV_iconst (n := 0) (v := nI 0) (by decide +kernel) (by decide) ?_
        exact mV_zret (by decide +kernel) rfl (by decide) h
    · replace h := h.2.2.2.2.2.2.2.2.1 (mm_eqI hc (by decide))
      refine mV_tabIn (dflt := 1526) (lo := 0) (hi := 38) (offs := #[171, 234, 257, 270, 283, 306, 349, 392, 445, 498, 531, 564, 597, 630, 653, 686, 709, 732, 755, 778, 831, 874, 897, 931, 981, 1014, 1047, 1090, 1143, 1186, 1219, 1262, 1275, 1318, 1371, 1414, 1457, 1480, 1503]) (len := 171) (off := 445) (tgt := 478) (by decide +kernel) (by rw [hc]; decide) (by rw [hc]; decide) (by rw [hc]; rfl) (by decide) ?_
      refine mV_aload_n (k := 1) (by decide +kernel) rfl ?_
      refine mV_aload_nx (k := 0) (by decide +kernel) rfl ?_
      refine mV_iload_n (k := 3) (by decide +kernel) rfl ?_
      refine mV_iconst (n := 1) (v := nI 1) (by decide +kernel) (by decide) ?_
      refine mV_iadd (by decide +kernel) ?_
      refine mV_scri (by decide +kernel) h.1 ?_
      replace h := h.2
      refine mV_aload_nx (k := 0) (by decide +kernel) rfl ?_
      refine mV_iload_n (k := 3) (by decide +kernel) rfl ?_
      refine mV_iconst (n := 2) (v := nI 2) (by decide +kernel) (by decide) ?_
      refine mV_iadd (by decide +kernel) ?_
      refine mV_scri (by decide +kernel) h.1 ?_
      replace h := h.2
      refine mV_aload_nx (k := 0) (by decide +kernel) rfl ?_
      refine mV_iload_n (k := 3) (by decide +kernel) rfl ?_
      refine mV_iconst (n := 3) (v := nI 3) (by decide +kernel) (by decide) ?_
      refine mV_iadd (by decide +kernel) ?_
      refine mV_scri (by decide +kernel) h.1 ?_
      replace h := h.2
      refine mV_aload_nx (k := 0) (by decide +kernel) rfl ?_
      refine mV_iload_n (k := 3) (by decide +kernel) rfl ?_
      refine mV_iconst (n := 4) (v := nI 4) (by decide +kernel) (by decide) ?_
      refine mV_iadd (by decide +kernel) ?_
      refine mV_scri (by decide +kernel) h.1 ?_
      replace h := h.2
      refine mV_bud (mc' := 0 + mc) (ms' := 0 + ms) (Nat.zero_add _) (Nat.zero_add _) ?_
      refine mV_cV (as := [.int (mm_xs κ ((v3 + (nI 1)).toNatClampNeg)), .int (mm_xs κ ((v3 + (nI 2)).toNatClampNeg)), .int (mm_xs κ ((v3 + (nI 3)).toNatClampNeg)), .int (mm_xs κ ((v3 + (nI 4)).toNatClampNeg))]) (rest := []) (mc1 := 0) (ms1 := 0) (mc := mc) (ms := ms) (by decide +kernel) md_X12_out lk_L_50 sh_0 rfl rfl rfl (Nat.le_of_ble_eq_true rfl) (mC.mono (mm_contI (fun r35 G36 hK => ?_)) h)
      replace h := hK
      refine mV_aload_n (k := 2) (by decide +kernel) rfl ?_
      refine mV_aload_nx (k := 0) (by decide +kernel) rfl ?_
      refine mV_iload_n (k := 3) (by decide +kernel) rfl ?_
      refine mV_iconst (n := 1) (v := nI 1) (by decide +kernel) (by decide) ?_
      refine mV_iadd (by decide +kernel) ?_
      refine mV_scri (by decide +kernel) h.1 ?_
      replace h := h.2
      refine mV_aload_nx (k := 0) (by decide +kernel) rfl ?_
      refine mV_iload_n (k := 3) (by decide +kernel) rfl ?_
      refine mV_iconst (n := 2) (v := nI 2) (by decide +kernel) (by decide) ?_
      refine mV_iadd (by decide +kernel) ?_
      refine mV_scri (by decide +kernel) h.1 ?_
      replace h := h.2
      refine mV_aload_nx (k := 0) (by decide +kernel) rfl ?_
      refine mV_iload_n (k := 3) (by decide +kernel) rfl ?_
      refine mV_iconst (n := 3) (v := nI 3) (by decide +kernel) (by decide) ?_
      refine mV_iadd (by decide +kernel) ?_
      refine mV_scri (by decide +kernel) h.1 ?_
      replace h := h.2
      refine mV_aload_nx (k := 0) (by decide +kernel) rfl ?_
      refine mV_iload_n (k := 3) (by decide +kernel) rfl ?_
      refine mV_iconst (n := 4) (v := nI 4) (by decide +kernel) (by decide) ?_
      refine mV_iadd (by decide +kernel) ?_
      refine mV_scri (by decide +kernel) h.1 ?_
      replace h := h.2
      refine mV_bud (mc' := 0 + mc) (ms' := 0 + ms) (Nat.zero_add _) (Nat.zero_add _) ?_
      refine mV_cV (as := [.int (mm_xs κ ((v3 + (nI 1)).toNatClampNeg)), .int (mm_xs κ ((v3 + (nI 2)).toNatClampNeg)), .int (mm_xs κ ((v3 + (nI 3)).toNatClampNeg)), .int (mm_xs κ ((v3 + (nI 4)).toNatClampNeg))]) (rest := [.int r35]) (mc1 := 0) (ms1 := 0) (mc := mc) (ms := ms) (by decide +kernel) md_X13_out lk_L_53 sh_226 rfl rfl rfl (Nat.le_of_ble_eq_true rfl) (mC.mono (mm_contI (fun r37 G38 hK => ?_)) h)
      replace h := hK
      refine mV_icmp_eq (off := 1033) (tgt := 1559) (by decide +kernel) (by decide) (fun hc => ?_) (fun hc => ?_)
      · replace h := h.1 hc
        refine mV_iincc (i := 3) (n := 6) (c := nI 6) (ls' := [some (.retAddr 1), some (.ref 0), some (.ref 226), some (.int (v3 + (nI 6)))]) (by decide +kernel) (by decide) rfl (Nat.le_of_ble_eq_true rfl) rfl rfl ?_
        refine mV_goto (off := -1544) (tgt := 18) (by decide +kernel) (by decide) ?_
        exact h
      · replace h := h.2 hc
        refine mV_iconst (n := 0) (v := nI 0) (by decide +kernel) (by decide) ?_
        exact mV_zret (by decide +kernel) rfl (by decide) h
    · replace h := h.2.2.2.2.2.2.2.2.2.1 (mm_eqI hc (by decide))
      refine mV_tabIn (dflt := 1526) (lo := 0) (hi := 38) (offs := #[171, 234, 257, 270, 283, 306, 349, 392, 445, 498, 531, 564, 597, 630, 653, 686, 709, 732, 755, 778, 831, 874, 897, 931, 981, 1014, 1047, 1090, 1143, 1186, 1219, 1262, 1275, 1318, 1371, 1414, 1457, 1480, 1503]) (len := 171) (off := 498) (tgt := 531) (by decide +kernel) (by rw [hc]; decide) (by rw [hc]; decide) (by rw [hc]; rfl) (by decide) ?_
      refine mV_aload_n (k := 1) (by decide +kernel) rfl ?_
      refine mV_aload_nx (k := 0) (by decide +kernel) rfl ?_
      refine mV_iload_n (k := 3) (by decide +kernel) rfl ?_
      refine mV_iconst (n := 1) (v := nI 1) (by decide +kernel) (by decide) ?_
      refine mV_iadd (by decide +kernel) ?_
      refine mV_scri (by decide +kernel) h.1 ?_
      replace h := h.2
      refine mV_aload_nx (k := 0) (by decide +kernel) rfl ?_
      refine mV_iload_n (k := 3) (by decide +kernel) rfl ?_
      refine mV_iconst (n := 2) (v := nI 2) (by decide +kernel) (by decide) ?_
      refine mV_iadd (by decide +kernel) ?_
      refine mV_scri (by decide +kernel) h.1 ?_
      replace h := h.2
      refine mV_bud (mc' := 0 + mc) (ms' := 0 + ms) (Nat.zero_add _) (Nat.zero_add _) ?_
      refine mV_cV (as := [.int (mm_xs κ ((v3 + (nI 1)).toNatClampNeg)), .int (mm_xs κ ((v3 + (nI 2)).toNatClampNeg))]) (rest := []) (mc1 := 0) (ms1 := 0) (mc := mc) (ms := ms) (by decide +kernel) md_X12_same lk_L_54 sh_0 rfl rfl rfl (Nat.le_of_ble_eq_true rfl) (mC.mono (mm_contI (fun r39 G40 hK => ?_)) h)
      replace h := hK
      refine mV_aload_n (k := 2) (by decide +kernel) rfl ?_
      refine mV_aload_nx (k := 0) (by decide +kernel) rfl ?_
      refine mV_iload_n (k := 3) (by decide +kernel) rfl ?_
      refine mV_iconst (n := 1) (v := nI 1) (by decide +kernel) (by decide) ?_
      refine mV_iadd (by decide +kernel) ?_
      refine mV_scri (by decide +kernel) h.1 ?_
      replace h := h.2
      refine mV_aload_nx (k := 0) (by decide +kernel) rfl ?_
      refine mV_iload_n (k := 3) (by decide +kernel) rfl ?_
      refine mV_iconst (n := 2) (v := nI 2) (by decide +kernel) (by decide) ?_
      refine mV_iadd (by decide +kernel) ?_
      refine mV_scri (by decide +kernel) h.1 ?_
      replace h := h.2
      refine mV_bud (mc' := 0 + mc) (ms' := 0 + ms) (Nat.zero_add _) (Nat.zero_add _) ?_
      refine mV_cV (as := [.int (mm_xs κ ((v3 + (nI 1)).toNatClampNeg)), .int (mm_xs κ ((v3 + (nI 2)).toNatClampNeg))]) (rest := [.int r39]) (mc1 := 0) (ms1 := 0) (mc := mc) (ms := ms) (by decide +kernel) md_X13_same lk_L_58 sh_226 rfl rfl rfl (Nat.le_of_ble_eq_true rfl) (mC.mono (mm_contI (fun r41 G42 hK => ?_)) h)
      replace h := hK
      refine mV_icmp_eq (off := 1000) (tgt := 1559) (by decide +kernel) (by decide) (fun hc => ?_) (fun hc => ?_)
      · replace h := h.1 hc
        refine mV_iincc (i := 3) (n := 6) (c := nI 6) (ls' := [some (.retAddr 1), some (.ref 0), some (.ref 226), some (.int (v3 + (nI 6)))]) (by decide +kernel) (by decide) rfl (Nat.le_of_ble_eq_true rfl) rfl rfl ?_
        refine mV_goto (off := -1544) (tgt := 18) (by decide +kernel) (by decide) ?_
        exact h
      · replace h := h.2 hc
        refine mV_iconst (n := 0) (v := nI 0) (by decide +kernel) (by decide) ?_
        exact mV_zret (by decide +kernel) rfl (by decide) h
    · replace h := h.2.2.2.2.2.2.2.2.2.2.1 (mm_eqI hc (by decide))
      refine mV_tabIn (dflt := 1526) (lo := 0) (hi := 38) (offs := #[171, 234, 257, 270, 283, 306, 349, 392, 445, 498, 531, 564, 597, 630, 653, 686, 709, 732, 755, 778, 831, 874, 897, 931, 981, 1014, 1047, 1090, 1143, 1186, 1219, 1262, 1275, 1318, 1371, 1414, 1457, 1480, 1503]) (len := 171) (off := 531) (tgt := 564) (by decide +kernel) (by rw [hc]; decide) (by rw [hc]; decide) (by rw [hc]; rfl) (by decide) ?_
      refine mV_aload_n (k := 1) (by decide +kernel) rfl ?_
      refine mV_aload_nx (k := 0) (by decide +kernel) rfl ?_
      refine mV_iload_n (k := 3) (by decide +kernel) rfl ?_
      refine mV_iconst (n := 1) (v := nI 1) (by decide +kernel) (by decide) ?_
      refine mV_iadd (by decide +kernel) ?_
      refine mV_scri (by decide +kernel) h.1 ?_
      replace h := h.2
      refine mV_aload_nx (k := 0) (by decide +kernel) rfl ?_
      refine mV_iload_n (k := 3) (by decide +kernel) rfl ?_
      refine mV_iconst (n := 2) (v := nI 2) (by decide +kernel) (by decide) ?_
      refine mV_iadd (by decide +kernel) ?_
      refine mV_scri (by decide +kernel) h.1 ?_
      replace h := h.2
      refine mV_bud (mc' := 0 + mc) (ms' := 0 + ms) (Nat.zero_add _) (Nat.zero_add _) ?_
      refine mV_cV (as := [.int (mm_xs κ ((v3 + (nI 1)).toNatClampNeg)), .int (mm_xs κ ((v3 + (nI 2)).toNatClampNeg))]) (rest := []) (mc1 := 0) (ms1 := 0) (mc := mc) (ms := ms) (by decide +kernel) md_X12_differs lk_L_59 sh_0 rfl rfl rfl (Nat.le_of_ble_eq_true rfl) (mC.mono (mm_contI (fun r43 G44 hK => ?_)) h)
      replace h := hK
      refine mV_aload_n (k := 2) (by decide +kernel) rfl ?_
      refine mV_aload_nx (k := 0) (by decide +kernel) rfl ?_
      refine mV_iload_n (k := 3) (by decide +kernel) rfl ?_
      refine mV_iconst (n := 1) (v := nI 1) (by decide +kernel) (by decide) ?_
      refine mV_iadd (by decide +kernel) ?_
      refine mV_scri (by decide +kernel) h.1 ?_
      replace h := h.2
      refine mV_aload_nx (k := 0) (by decide +kernel) rfl ?_
      refine mV_iload_n (k := 3) (by decide +kernel) rfl ?_
      refine mV_iconst (n := 2) (v := nI 2) (by decide +kernel) (by decide) ?_
      refine mV_iadd (by decide +kernel) ?_
      refine mV_scri (by decide +kernel) h.1 ?_
      replace h := h.2
      refine mV_bud (mc' := 0 + mc) (ms' := 0 + ms) (Nat.zero_add _) (Nat.zero_add _) ?_
      refine mV_cV (as := [.int (mm_xs κ ((v3 + (nI 1)).toNatClampNeg)), .int (mm_xs κ ((v3 + (nI 2)).toNatClampNeg))]) (rest := [.int r43]) (mc1 := 0) (ms1 := 0) (mc := mc) (ms := ms) (by decide +kernel) md_X13_differs lk_L_62 sh_226 rfl rfl rfl (Nat.le_of_ble_eq_true rfl) (mC.mono (mm_contI (fun r45 G46 hK => ?_)) h)
      replace h := hK
      refine mV_icmp_eq (off := 967) (tgt := 1559) (by decide +kernel) (by decide) (fun hc => ?_) (fun hc => ?_)
      · replace h := h.1 hc
        refine mV_iincc (i := 3) (n := 6) (c := nI 6) (ls' := [some (.retAddr 1), some (.ref 0), some (.ref 226), some (.int (v3 + (nI 6)))]) (by decide +kernel) (by decide) rfl (Nat.le_of_ble_eq_true rfl) rfl rfl ?_
        refine mV_goto (off := -1544) (tgt := 18) (by decide +kernel) (by decide) ?_
        exact h
      · replace h := h.2 hc
        refine mV_iconst (n := 0) (v := nI 0) (by decide +kernel) (by decide) ?_
        exact mV_zret (by decide +kernel) rfl (by decide) h
    · replace h := h.2.2.2.2.2.2.2.2.2.2.2.1 (mm_eqI hc (by decide))
      refine mV_tabIn (dflt := 1526) (lo := 0) (hi := 38) (offs := #[171, 234, 257, 270, 283, 306, 349, 392, 445, 498, 531, 564, 597, 630, 653, 686, 709, 732, 755, 778, 831, 874, 897, 931, 981, 1014, 1047, 1090, 1143, 1186, 1219, 1262, 1275, 1318, 1371, 1414, 1457, 1480, 1503]) (len := 171) (off := 564) (tgt := 597) (by decide +kernel) (by rw [hc]; decide) (by rw [hc]; decide) (by rw [hc]; rfl) (by decide) ?_
      refine mV_aload_n (k := 1) (by decide +kernel) rfl ?_
      refine mV_aload_nx (k := 0) (by decide +kernel) rfl ?_
      refine mV_iload_n (k := 3) (by decide +kernel) rfl ?_
      refine mV_iconst (n := 1) (v := nI 1) (by decide +kernel) (by decide) ?_
      refine mV_iadd (by decide +kernel) ?_
      refine mV_scri (by decide +kernel) h.1 ?_
      replace h := h.2
      refine mV_aload_nx (k := 0) (by decide +kernel) rfl ?_
      refine mV_iload_n (k := 3) (by decide +kernel) rfl ?_
      refine mV_iconst (n := 2) (v := nI 2) (by decide +kernel) (by decide) ?_
      refine mV_iadd (by decide +kernel) ?_
      refine mV_scri (by decide +kernel) h.1 ?_
      replace h := h.2
      refine mV_bud (mc' := 0 + mc) (ms' := 0 + ms) (Nat.zero_add _) (Nat.zero_add _) ?_
      refine mV_cV (as := [.int (mm_xs κ ((v3 + (nI 1)).toNatClampNeg)), .int (mm_xs κ ((v3 + (nI 2)).toNatClampNeg))]) (rest := []) (mc1 := 0) (ms1 := 0) (mc := mc) (ms := ms) (by decide +kernel) md_X12_bears lk_L_63 sh_0 rfl rfl rfl (Nat.le_of_ble_eq_true rfl) (mC.mono (mm_contI (fun r47 G48 hK => ?_)) h)
      replace h := hK
      refine mV_aload_n (k := 2) (by decide +kernel) rfl ?_
      refine mV_aload_nx (k := 0) (by decide +kernel) rfl ?_
      refine mV_iload_n (k := 3) (by decide +kernel) rfl ?_
      refine mV_iconst (n := 1) (v := nI 1) (by decide +kernel) (by decide) ?_
      refine mV_iadd (by decide +kernel) ?_
      refine mV_scri (by decide +kernel) h.1 ?_
      replace h := h.2
      refine mV_aload_nx (k := 0) (by decide +kernel) rfl ?_
      refine mV_iload_n (k := 3) (by decide +kernel) rfl ?_
      refine mV_iconst (n := 2) (v := nI 2) (by decide +kernel) (by decide) ?_
      refine mV_iadd (by decide +kernel) ?_
      refine mV_scri (by decide +kernel) h.1 ?_
      replace h := h.2
      refine mV_bud (mc' := 0 + mc) (ms' := 0 + ms) (Nat.zero_add _) (Nat.zero_add _) ?_
      refine mV_cV (as := [.int (mm_xs κ ((v3 + (nI 1)).toNatClampNeg)), .int (mm_xs κ ((v3 + (nI 2)).toNatClampNeg))]) (rest := [.int r47]) (mc1 := 0) (ms1 := 0) (mc := mc) (ms := ms) (by decide +kernel) md_X13_bears lk_L_66 sh_226 rfl rfl rfl (Nat.le_of_ble_eq_true rfl) (mC.mono (mm_contI (fun r49 G50 hK => ?_)) h)
      replace h := hK
      refine mV_icmp_eq (off := 934) (tgt := 1559) (by decide +kernel) (by decide) (fun hc => ?_) (fun hc => ?_)
      · replace h := h.1 hc
        refine mV_iincc (i := 3) (n := 6) (c := nI 6) (ls' := [some (.retAddr 1), some (.ref 0), some (.ref 226), some (.int (v3 + (nI 6)))]) (by decide +kernel) (by decide) rfl (Nat.le_of_ble_eq_true rfl) rfl rfl ?_
        refine mV_goto (off := -1544) (tgt := 18) (by decide +kernel) (by decide) ?_
        exact h
      · replace h := h.2 hc
        refine mV_iconst (n := 0) (v := nI 0) (by decide +kernel) (by decide) ?_
        exact mV_zret (by decide +kernel) rfl (by decide) h
    · replace h := h.2.2.2.2.2.2.2.2.2.2.2.2.1 (mm_eqI hc (by decide))
      refine mV_tabIn (dflt := 1526) (lo := 0) (hi := 38) (offs := #[171, 234, 257, 270, 283, 306, 349, 392, 445, 498, 531, 564, 597, 630, 653, 686, 709, 732, 755, 778, 831, 874, 897, 931, 981, 1014, 1047, 1090, 1143, 1186, 1219, 1262, 1275, 1318, 1371, 1414, 1457, 1480, 1503]) (len := 171) (off := 597) (tgt := 630) (by decide +kernel) (by rw [hc]; decide) (by rw [hc]; decide) (by rw [hc]; rfl) (by decide) ?_
      refine mV_aload_n (k := 1) (by decide +kernel) rfl ?_
      refine mV_aload_nx (k := 0) (by decide +kernel) rfl ?_
      refine mV_iload_n (k := 3) (by decide +kernel) rfl ?_
      refine mV_iconst (n := 1) (v := nI 1) (by decide +kernel) (by decide) ?_
      refine mV_iadd (by decide +kernel) ?_
      refine mV_scri (by decide +kernel) h.1 ?_
      replace h := h.2
      refine mV_aload_nx (k := 0) (by decide +kernel) rfl ?_
      refine mV_iload_n (k := 3) (by decide +kernel) rfl ?_
      refine mV_iconst (n := 2) (v := nI 2) (by decide +kernel) (by decide) ?_
      refine mV_iadd (by decide +kernel) ?_
      refine mV_scri (by decide +kernel) h.1 ?_
      replace h := h.2
      refine mV_bud (mc' := 0 + mc) (ms' := 0 + ms) (Nat.zero_add _) (Nat.zero_add _) ?_
      refine mV_cV (as := [.int (mm_xs κ ((v3 + (nI 1)).toNatClampNeg)), .int (mm_xs κ ((v3 + (nI 2)).toNatClampNeg))]) (rest := []) (mc1 := 0) (ms1 := 0) (mc := mc) (ms := ms) (by decide +kernel) md_X12_breaks lk_L_67 sh_0 rfl rfl rfl (Nat.le_of_ble_eq_true rfl) (mC.mono (mm_contI (fun r51 G52 hK => ?_)) h)
      replace h := hK
      refine mV_aload_n (k := 2) (by decide +kernel) rfl ?_
      refine mV_aload_nx (k := 0) (by decide +kernel) rfl ?_
      refine mV_iload_n (k := 3) (by decide +kernel) rfl ?_
      refine mV_iconst (n := 1) (v := nI 1) (by decide +kernel) (by decide) ?_
      refine mV_iadd (by decide +kernel) ?_
      refine mV_scri (by decide +kernel) h.1 ?_
      replace h := h.2
      refine mV_aload_nx (k := 0) (by decide +kernel) rfl ?_
      refine mV_iload_n (k := 3) (by decide +kernel) rfl ?_
      refine mV_iconst (n := 2) (v := nI 2) (by decide +kernel) (by decide) ?_
      refine mV_iadd (by decide +kernel) ?_
      refine mV_scri (by decide +kernel) h.1 ?_
      replace h := h.2
      refine mV_bud (mc' := 0 + mc) (ms' := 0 + ms) (Nat.zero_add _) (Nat.zero_add _) ?_
      refine mV_cV (as := [.int (mm_xs κ ((v3 + (nI 1)).toNatClampNeg)), .int (mm_xs κ ((v3 + (nI 2)).toNatClampNeg))]) (rest := [.int r51]) (mc1 := 0) (ms1 := 0) (mc := mc) (ms := ms) (by decide +kernel) md_X13_breaks lk_L_70 sh_226 rfl rfl rfl (Nat.le_of_ble_eq_true rfl) (mC.mono (mm_contI (fun r53 G54 hK => ?_)) h)
      replace h := hK
      refine mV_icmp_eq (off := 901) (tgt := 1559) (by decide +kernel) (by decide) (fun hc => ?_) (fun hc => ?_)
      · replace h := h.1 hc
        refine mV_iincc (i := 3) (n := 6) (c := nI 6) (ls' := [some (.retAddr 1), some (.ref 0), some (.ref 226), some (.int (v3 + (nI 6)))]) (by decide +kernel) (by decide) rfl (Nat.le_of_ble_eq_true rfl) rfl rfl ?_
        refine mV_goto (off := -1544) (tgt := 18) (by decide +kernel) (by decide) ?_
        exact h
      · replace h := h.2 hc
        refine mV_iconst (n := 0) (v := nI 0) (by decide +kernel) (by decide) ?_
        exact mV_zret (by decide +kernel) rfl (by decide) h
    · replace h := h.2.2.2.2.2.2.2.2.2.2.2.2.2.1 (mm_eqI hc (by decide))
      refine mV_tabIn (dflt := 1526) (lo := 0) (hi := 38) (offs := #[171, 234, 257, 270, 283, 306, 349, 392, 445, 498, 531, 564, 597, 630, 653, 686, 709, 732, 755, 778, 831, 874, 897, 931, 981, 1014, 1047, 1090, 1143, 1186, 1219, 1262, 1275, 1318, 1371, 1414, 1457, 1480, 1503]) (len := 171) (off := 630) (tgt := 663) (by decide +kernel) (by rw [hc]; decide) (by rw [hc]; decide) (by rw [hc]; rfl) (by decide) ?_
      refine mV_aload_n (k := 1) (by decide +kernel) rfl ?_
      refine mV_aload_nx (k := 0) (by decide +kernel) rfl ?_
      refine mV_iload_n (k := 3) (by decide +kernel) rfl ?_
      refine mV_iconst (n := 1) (v := nI 1) (by decide +kernel) (by decide) ?_
      refine mV_iadd (by decide +kernel) ?_
      refine mV_scri (by decide +kernel) h.1 ?_
      replace h := h.2
      refine mV_bud (mc' := 0 + mc) (ms' := 0 + ms) (Nat.zero_add _) (Nat.zero_add _) ?_
      refine mV_cV (as := [.int (mm_xs κ ((v3 + (nI 1)).toNatClampNeg))]) (rest := []) (mc1 := 0) (ms1 := 0) (mc := mc) (ms := ms) (by decide +kernel) md_X12_idle lk_L_71 sh_0 rfl rfl rfl (Nat.le_of_ble_eq_true rfl) (mC.mono (mm_contI (fun r55 G56 hK => ?_)) h)
      replace h := hK
      refine mV_aload_n (k := 2) (by decide +kernel) rfl ?_
      refine mV_aload_nx (k := 0) (by decide +kernel) rfl ?_
      refine mV_iload_n (k := 3) (by decide +kernel) rfl ?_
      refine mV_iconst (n := 1) (v := nI 1) (by decide +kernel) (by decide) ?_
      refine mV_iadd (by decide +kernel) ?_
      refine mV_scri (by decide +kernel) h.1 ?_
      replace h := h.2
      refine mV_bud (mc' := 0 + mc) (ms' := 0 + ms) (Nat.zero_add _) (Nat.zero_add _) ?_
      refine mV_cV (as := [.int (mm_xs κ ((v3 + (nI 1)).toNatClampNeg))]) (rest := [.int r55]) (mc1 := 0) (ms1 := 0) (mc := mc) (ms := ms) (by decide +kernel) md_X13_idle lk_L_74 sh_226 rfl rfl rfl (Nat.le_of_ble_eq_true rfl) (mC.mono (mm_contI (fun r57 G58 hK => ?_)) h)
      replace h := hK
      refine mV_icmp_eq (off := 878) (tgt := 1559) (by decide +kernel) (by decide) (fun hc => ?_) (fun hc => ?_)
      · replace h := h.1 hc
        refine mV_iincc (i := 3) (n := 6) (c := nI 6) (ls' := [some (.retAddr 1), some (.ref 0), some (.ref 226), some (.int (v3 + (nI 6)))]) (by decide +kernel) (by decide) rfl (Nat.le_of_ble_eq_true rfl) rfl rfl ?_
        refine mV_goto (off := -1544) (tgt := 18) (by decide +kernel) (by decide) ?_
        exact h
      · replace h := h.2 hc
        refine mV_iconst (n := 0) (v := nI 0) (by decide +kernel) (by decide) ?_
        exact mV_zret (by decide +kernel) rfl (by decide) h
    · replace h := h.2.2.2.2.2.2.2.2.2.2.2.2.2.2.1 (mm_eqI hc (by decide))
      refine mV_tabIn (dflt := 1526) (lo := 0) (hi := 38) (offs := #[171, 234, 257, 270, 283, 306, 349, 392, 445, 498, 531, 564, 597, 630, 653, 686, 709, 732, 755, 778, 831, 874, 897, 931, 981, 1014, 1047, 1090, 1143, 1186, 1219, 1262, 1275, 1318, 1371, 1414, 1457, 1480, 1503]) (len := 171) (off := 653) (tgt := 686) (by decide +kernel) (by rw [hc]; decide) (by rw [hc]; decide) (by rw [hc]; rfl) (by decide) ?_
      refine mV_aload_n (k := 1) (by decide +kernel) rfl ?_
      refine mV_aload_nx (k := 0) (by decide +kernel) rfl ?_
      refine mV_iload_n (k := 3) (by decide +kernel) rfl ?_
      refine mV_iconst (n := 1) (v := nI 1) (by decide +kernel) (by decide) ?_
      refine mV_iadd (by decide +kernel) ?_
      refine mV_scri (by decide +kernel) h.1 ?_
      replace h := h.2
      refine mV_aload_nx (k := 0) (by decide +kernel) rfl ?_
      refine mV_iload_n (k := 3) (by decide +kernel) rfl ?_
      refine mV_iconst (n := 2) (v := nI 2) (by decide +kernel) (by decide) ?_
      refine mV_iadd (by decide +kernel) ?_
      refine mV_scri (by decide +kernel) h.1 ?_
      replace h := h.2
      refine mV_bud (mc' := 0 + mc) (ms' := 0 + ms) (Nat.zero_add _) (Nat.zero_add _) ?_
      refine mV_cV (as := [.int (mm_xs κ ((v3 + (nI 1)).toNatClampNeg)), .int (mm_xs κ ((v3 + (nI 2)).toNatClampNeg))]) (rest := []) (mc1 := 0) (ms1 := 0) (mc := mc) (ms := ms) (by decide +kernel) md_X12_harm lk_L_75 sh_0 rfl rfl rfl (Nat.le_of_ble_eq_true rfl) (mC.mono (mm_contI (fun r59 G60 hK => ?_)) h)
      replace h := hK
      refine mV_aload_n (k := 2) (by decide +kernel) rfl ?_
      refine mV_aload_nx (k := 0) (by decide +kernel) rfl ?_
      refine mV_iload_n (k := 3) (by decide +kernel) rfl ?_
      refine mV_iconst (n := 1) (v := nI 1) (by decide +kernel) (by decide) ?_
      refine mV_iadd (by decide +kernel) ?_
      refine mV_scri (by decide +kernel) h.1 ?_
      replace h := h.2
      refine mV_aload_nx (k := 0) (by decide +kernel) rfl ?_
      refine mV_iload_n (k := 3) (by decide +kernel) rfl ?_
      refine mV_iconst (n := 2) (v := nI 2) (by decide +kernel) (by decide) ?_
      refine mV_iadd (by decide +kernel) ?_
      refine mV_scri (by decide +kernel) h.1 ?_
      replace h := h.2
      refine mV_bud (mc' := 0 + mc) (ms' := 0 + ms) (Nat.zero_add _) (Nat.zero_add _) ?_
      refine mV_cV (as := [.int (mm_xs κ ((v3 + (nI 1)).toNatClampNeg)), .int (mm_xs κ ((v3 + (nI 2)).toNatClampNeg))]) (rest := [.int r59]) (mc1 := 0) (ms1 := 0) (mc := mc) (ms := ms) (by decide +kernel) md_X13_harm lk_L_78 sh_226 rfl rfl rfl (Nat.le_of_ble_eq_true rfl) (mC.mono (mm_contI (fun r61 G62 hK => ?_)) h)
      replace h := hK
      refine mV_icmp_eq (off := 845) (tgt := 1559) (by decide +kernel) (by decide) (fun hc => ?_) (fun hc => ?_)
      · replace h := h.1 hc
        refine mV_iincc (i := 3) (n := 6) (c := nI 6) (ls' := [some (.retAddr 1), some (.ref 0), some (.ref 226), some (.int (v3 + (nI 6)))]) (by decide +kernel) (by decide) rfl (Nat.le_of_ble_eq_true rfl) rfl rfl ?_
        refine mV_goto (off := -1544) (tgt := 18) (by decide +kernel) (by decide) ?_
        exact h
      · replace h := h.2 hc
        refine mV_iconst (n := 0) (v := nI 0) (by decide +kernel) (by decide) ?_
        exact mV_zret (by decide +kernel) rfl (by decide) h
    · replace h := h.2.2.2.2.2.2.2.2.2.2.2.2.2.2.2.1 (mm_eqI hc (by decide))
      refine mV_tabIn (dflt := 1526) (lo := 0) (hi := 38) (offs := #[171, 234, 257, 270, 283, 306, 349, 392, 445, 498, 531, 564, 597, 630, 653, 686, 709, 732, 755, 778, 831, 874, 897, 931, 981, 1014, 1047, 1090, 1143, 1186, 1219, 1262, 1275, 1318, 1371, 1414, 1457, 1480, 1503]) (len := 171) (off := 686) (tgt := 719) (by decide +kernel) (by rw [hc]; decide) (by rw [hc]; decide) (by rw [hc]; rfl) (by decide) ?_
      refine mV_aload_n (k := 1) (by decide +kernel) rfl ?_
      refine mV_aload_nx (k := 0) (by decide +kernel) rfl ?_
      refine mV_iload_n (k := 3) (by decide +kernel) rfl ?_
      refine mV_iconst (n := 1) (v := nI 1) (by decide +kernel) (by decide) ?_
      refine mV_iadd (by decide +kernel) ?_
      refine mV_scri (by decide +kernel) h.1 ?_
      replace h := h.2
      refine mV_bud (mc' := 0 + mc) (ms' := 0 + ms) (Nat.zero_add _) (Nat.zero_add _) ?_
      refine mV_cV (as := [.int (mm_xs κ ((v3 + (nI 1)).toNatClampNeg))]) (rest := []) (mc1 := 0) (ms1 := 0) (mc := mc) (ms := ms) (by decide +kernel) md_X12_worst lk_L_79 sh_0 rfl rfl rfl (Nat.le_of_ble_eq_true rfl) (mC.mono (mm_contI (fun r63 G64 hK => ?_)) h)
      replace h := hK
      refine mV_aload_n (k := 2) (by decide +kernel) rfl ?_
      refine mV_aload_nx (k := 0) (by decide +kernel) rfl ?_
      refine mV_iload_n (k := 3) (by decide +kernel) rfl ?_
      refine mV_iconst (n := 1) (v := nI 1) (by decide +kernel) (by decide) ?_
      refine mV_iadd (by decide +kernel) ?_
      refine mV_scri (by decide +kernel) h.1 ?_
      replace h := h.2
      refine mV_bud (mc' := 0 + mc) (ms' := 0 + ms) (Nat.zero_add _) (Nat.zero_add _) ?_
      refine mV_cV (as := [.int (mm_xs κ ((v3 + (nI 1)).toNatClampNeg))]) (rest := [.int r63]) (mc1 := 0) (ms1 := 0) (mc := mc) (ms := ms) (by decide +kernel) md_X13_worst lk_L_82 sh_226 rfl rfl rfl (Nat.le_of_ble_eq_true rfl) (mC.mono (mm_contI (fun r65 G66 hK => ?_)) h)
      replace h := hK
      refine mV_icmp_eq (off := 822) (tgt := 1559) (by decide +kernel) (by decide) (fun hc => ?_) (fun hc => ?_)
      · replace h := h.1 hc
        refine mV_iincc (i := 3) (n := 6) (c := nI 6) (ls' := [some (.retAddr 1), some (.ref 0), some (.ref 226), some (.int (v3 + (nI 6)))]) (by decide +kernel) (by decide) rfl (Nat.le_of_ble_eq_true rfl) rfl rfl ?_
        refine mV_goto (off := -1544) (tgt := 18) (by decide +kernel) (by decide) ?_
        exact h
      · replace h := h.2 hc
        refine mV_iconst (n := 0) (v := nI 0) (by decide +kernel) (by decide) ?_
        exact mV_zret (by decide +kernel) rfl (by decide) h
    · replace h := h.2.2.2.2.2.2.2.2.2.2.2.2.2.2.2.2.1 (mm_eqI hc (by decide))
      refine mV_tabIn (dflt := 1526) (lo := 0) (hi := 38) (offs := #[171, 234, 257, 270, 283, 306, 349, 392, 445, 498, 531, 564, 597, 630, 653, 686, 709, 732, 755, 778, 831, 874, 897, 931, 981, 1014, 1047, 1090, 1143, 1186, 1219, 1262, 1275, 1318, 1371, 1414, 1457, 1480, 1503]) (len := 171) (off := 709) (tgt := 742) (by decide +kernel) (by rw [hc]; decide) (by rw [hc]; decide) (by rw [hc]; rfl) (by decide) ?_
      refine mV_aload_n (k := 1) (by decide +kernel) rfl ?_
      refine mV_aload_nx (k := 0) (by decide +kernel) rfl ?_
      refine mV_iload_n (k := 3) (by decide +kernel) rfl ?_
      refine mV_iconst (n := 1) (v := nI 1) (by decide +kernel) (by decide) ?_
      refine mV_iadd (by decide +kernel) ?_
      refine mV_scri (by decide +kernel) h.1 ?_
      replace h := h.2
      refine mV_bud (mc' := 0 + mc) (ms' := 0 + ms) (Nat.zero_add _) (Nat.zero_add _) ?_
      refine mV_cV (as := [.int (mm_xs κ ((v3 + (nI 1)).toNatClampNeg))]) (rest := []) (mc1 := 0) (ms1 := 0) (mc := mc) (ms := ms) (by decide +kernel) md_X12_pair lk_L_83 sh_0 rfl rfl rfl (Nat.le_of_ble_eq_true rfl) (mC.mono (mm_contI (fun r67 G68 hK => ?_)) h)
      replace h := hK
      refine mV_aload_n (k := 2) (by decide +kernel) rfl ?_
      refine mV_aload_nx (k := 0) (by decide +kernel) rfl ?_
      refine mV_iload_n (k := 3) (by decide +kernel) rfl ?_
      refine mV_iconst (n := 1) (v := nI 1) (by decide +kernel) (by decide) ?_
      refine mV_iadd (by decide +kernel) ?_
      refine mV_scri (by decide +kernel) h.1 ?_
      replace h := h.2
      refine mV_bud (mc' := 0 + mc) (ms' := 0 + ms) (Nat.zero_add _) (Nat.zero_add _) ?_
      refine mV_cV (as := [.int (mm_xs κ ((v3 + (nI 1)).toNatClampNeg))]) (rest := [.int r67]) (mc1 := 0) (ms1 := 0) (mc := mc) (ms := ms) (by decide +kernel) md_X13_pair lk_L_86 sh_226 rfl rfl rfl (Nat.le_of_ble_eq_true rfl) (mC.mono (mm_contI (fun r69 G70 hK => ?_)) h)
      replace h := hK
      refine mV_icmp_eq (off := 799) (tgt := 1559) (by decide +kernel) (by decide) (fun hc => ?_) (fun hc => ?_)
      · replace h := h.1 hc
        refine mV_iincc (i := 3) (n := 6) (c := nI 6) (ls' := [some (.retAddr 1), some (.ref 0), some (.ref 226), some (.int (v3 + (nI 6)))]) (by decide +kernel) (by decide) rfl (Nat.le_of_ble_eq_true rfl) rfl rfl ?_
        refine mV_goto (off := -1544) (tgt := 18) (by decide +kernel) (by decide) ?_
        exact h
      · replace h := h.2 hc
        refine mV_iconst (n := 0) (v := nI 0) (by decide +kernel) (by decide) ?_
        exact mV_zret (by decide +kernel) rfl (by decide) h
    · replace h := h.2.2.2.2.2.2.2.2.2.2.2.2.2.2.2.2.2.1 (mm_eqI hc (by decide))
      refine mV_tabIn (dflt := 1526) (lo := 0) (hi := 38) (offs := #[171, 234, 257, 270, 283, 306, 349, 392, 445, 498, 531, 564, 597, 630, 653, 686, 709, 732, 755, 778, 831, 874, 897, 931, 981, 1014, 1047, 1090, 1143, 1186, 1219, 1262, 1275, 1318, 1371, 1414, 1457, 1480, 1503]) (len := 171) (off := 732) (tgt := 765) (by decide +kernel) (by rw [hc]; decide) (by rw [hc]; decide) (by rw [hc]; rfl) (by decide) ?_
      refine mV_aload_n (k := 1) (by decide +kernel) rfl ?_
      refine mV_aload_nx (k := 0) (by decide +kernel) rfl ?_
      refine mV_iload_n (k := 3) (by decide +kernel) rfl ?_
      refine mV_iconst (n := 1) (v := nI 1) (by decide +kernel) (by decide) ?_
      refine mV_iadd (by decide +kernel) ?_
      refine mV_scri (by decide +kernel) h.1 ?_
      replace h := h.2
      refine mV_bud (mc' := 0 + mc) (ms' := 0 + ms) (Nat.zero_add _) (Nat.zero_add _) ?_
      refine mV_cV (as := [.int (mm_xs κ ((v3 + (nI 1)).toNatClampNeg))]) (rest := []) (mc1 := 0) (ms1 := 0) (mc := mc) (ms := ms) (by decide +kernel) md_X12_mends lk_L_87 sh_0 rfl rfl rfl (Nat.le_of_ble_eq_true rfl) (mC.mono (mm_contI (fun r71 G72 hK => ?_)) h)
      replace h := hK
      refine mV_aload_n (k := 2) (by decide +kernel) rfl ?_
      refine mV_aload_nx (k := 0) (by decide +kernel) rfl ?_
      refine mV_iload_n (k := 3) (by decide +kernel) rfl ?_
      refine mV_iconst (n := 1) (v := nI 1) (by decide +kernel) (by decide) ?_
      refine mV_iadd (by decide +kernel) ?_
      refine mV_scri (by decide +kernel) h.1 ?_
      replace h := h.2
      refine mV_bud (mc' := 0 + mc) (ms' := 0 + ms) (Nat.zero_add _) (Nat.zero_add _) ?_
      refine mV_cV (as := [.int (mm_xs κ ((v3 + (nI 1)).toNatClampNeg))]) (rest := [.int r71]) (mc1 := 0) (ms1 := 0) (mc := mc) (ms := ms) (by decide +kernel) md_X13_mends lk_L_90 sh_226 rfl rfl rfl (Nat.le_of_ble_eq_true rfl) (mC.mono (mm_contI (fun r73 G74 hK => ?_)) h)
      replace h := hK
      refine mV_icmp_eq (off := 776) (tgt := 1559) (by decide +kernel) (by decide) (fun hc => ?_) (fun hc => ?_)
      · replace h := h.1 hc
        refine mV_iincc (i := 3) (n := 6) (c := nI 6) (ls' := [some (.retAddr 1), some (.ref 0), some (.ref 226), some (.int (v3 + (nI 6)))]) (by decide +kernel) (by decide) rfl (Nat.le_of_ble_eq_true rfl) rfl rfl ?_
        refine mV_goto (off := -1544) (tgt := 18) (by decide +kernel) (by decide) ?_
        exact h
      · replace h := h.2 hc
        refine mV_iconst (n := 0) (v := nI 0) (by decide +kernel) (by decide) ?_
        exact mV_zret (by decide +kernel) rfl (by decide) h
    · replace h := h.2.2.2.2.2.2.2.2.2.2.2.2.2.2.2.2.2.2.1 (mm_eqI hc (by decide))
      refine mV_tabIn (dflt := 1526) (lo := 0) (hi := 38) (offs := #[171, 234, 257, 270, 283, 306, 349, 392, 445, 498, 531, 564, 597, 630, 653, 686, 709, 732, 755, 778, 831, 874, 897, 931, 981, 1014, 1047, 1090, 1143, 1186, 1219, 1262, 1275, 1318, 1371, 1414, 1457, 1480, 1503]) (len := 171) (off := 755) (tgt := 788) (by decide +kernel) (by rw [hc]; decide) (by rw [hc]; decide) (by rw [hc]; rfl) (by decide) ?_
      refine mV_aload_n (k := 1) (by decide +kernel) rfl ?_
      refine mV_aload_nx (k := 0) (by decide +kernel) rfl ?_
      refine mV_iload_n (k := 3) (by decide +kernel) rfl ?_
      refine mV_iconst (n := 1) (v := nI 1) (by decide +kernel) (by decide) ?_
      refine mV_iadd (by decide +kernel) ?_
      refine mV_scri (by decide +kernel) h.1 ?_
      replace h := h.2
      refine mV_bud (mc' := 0 + mc) (ms' := 0 + ms) (Nat.zero_add _) (Nat.zero_add _) ?_
      refine mV_cV (as := [.int (mm_xs κ ((v3 + (nI 1)).toNatClampNeg))]) (rest := []) (mc1 := 0) (ms1 := 0) (mc := mc) (ms := ms) (by decide +kernel) md_X12_reached lk_L_91 sh_0 rfl rfl rfl (Nat.le_of_ble_eq_true rfl) (mC.mono (mm_contI (fun r75 G76 hK => ?_)) h)
      replace h := hK
      refine mV_aload_n (k := 2) (by decide +kernel) rfl ?_
      refine mV_aload_nx (k := 0) (by decide +kernel) rfl ?_
      refine mV_iload_n (k := 3) (by decide +kernel) rfl ?_
      refine mV_iconst (n := 1) (v := nI 1) (by decide +kernel) (by decide) ?_
      refine mV_iadd (by decide +kernel) ?_
      refine mV_scri (by decide +kernel) h.1 ?_
      replace h := h.2
      refine mV_bud (mc' := 0 + mc) (ms' := 0 + ms) (Nat.zero_add _) (Nat.zero_add _) ?_
      refine mV_cV (as := [.int (mm_xs κ ((v3 + (nI 1)).toNatClampNeg))]) (rest := [.int r75]) (mc1 := 0) (ms1 := 0) (mc := mc) (ms := ms) (by decide +kernel) md_X13_reached lk_L_94 sh_226 rfl rfl rfl (Nat.le_of_ble_eq_true rfl) (mC.mono (mm_contI (fun r77 G78 hK => ?_)) h)
      replace h := hK
      refine mV_icmp_eq (off := 753) (tgt := 1559) (by decide +kernel) (by decide) (fun hc => ?_) (fun hc => ?_)
      · replace h := h.1 hc
        refine mV_iincc (i := 3) (n := 6) (c := nI 6) (ls' := [some (.retAddr 1), some (.ref 0), some (.ref 226), some (.int (v3 + (nI 6)))]) (by decide +kernel) (by decide) rfl (Nat.le_of_ble_eq_true rfl) rfl rfl ?_
        refine mV_goto (off := -1544) (tgt := 18) (by decide +kernel) (by decide) ?_
        exact h
      · replace h := h.2 hc
        refine mV_iconst (n := 0) (v := nI 0) (by decide +kernel) (by decide) ?_
        exact mV_zret (by decide +kernel) rfl (by decide) h
    · replace h := h.2.2.2.2.2.2.2.2.2.2.2.2.2.2.2.2.2.2.2.1 (mm_eqI hc (by decide))
      refine mV_tabIn (dflt := 1526) (lo := 0) (hi := 38) (offs := #[171, 234, 257, 270, 283, 306, 349, 392, 445, 498, 531, 564, 597, 630, 653, 686, 709, 732, 755, 778, 831, 874, 897, 931, 981, 1014, 1047, 1090, 1143, 1186, 1219, 1262, 1275, 1318, 1371, 1414, 1457, 1480, 1503]) (len := 171) (off := 778) (tgt := 811) (by decide +kernel) (by rw [hc]; decide) (by rw [hc]; decide) (by rw [hc]; rfl) (by decide) ?_
      refine mV_aload_n (k := 1) (by decide +kernel) rfl ?_
      refine mV_aload_nx (k := 0) (by decide +kernel) rfl ?_
      refine mV_iload_n (k := 3) (by decide +kernel) rfl ?_
      refine mV_iconst (n := 1) (v := nI 1) (by decide +kernel) (by decide) ?_
      refine mV_iadd (by decide +kernel) ?_
      refine mV_scri (by decide +kernel) h.1 ?_
      replace h := h.2
      refine mV_aload_nx (k := 0) (by decide +kernel) rfl ?_
      refine mV_iload_n (k := 3) (by decide +kernel) rfl ?_
      refine mV_iconst (n := 2) (v := nI 2) (by decide +kernel) (by decide) ?_
      refine mV_iadd (by decide +kernel) ?_
      refine mV_scri (by decide +kernel) h.1 ?_
      replace h := h.2
      refine mV_aload_nx (k := 0) (by decide +kernel) rfl ?_
      refine mV_iload_n (k := 3) (by decide +kernel) rfl ?_
      refine mV_iconst (n := 3) (v := nI 3) (by decide +kernel) (by decide) ?_
      refine mV_iadd (by decide +kernel) ?_
      refine mV_scri (by decide +kernel) h.1 ?_
      replace h := h.2
      refine mV_aload_nx (k := 0) (by decide +kernel) rfl ?_
      refine mV_iload_n (k := 3) (by decide +kernel) rfl ?_
      refine mV_iconst (n := 4) (v := nI 4) (by decide +kernel) (by decide) ?_
      refine mV_iadd (by decide +kernel) ?_
      refine mV_scri (by decide +kernel) h.1 ?_
      replace h := h.2
      refine mV_bud (mc' := 0 + mc) (ms' := 0 + ms) (Nat.zero_add _) (Nat.zero_add _) ?_
      refine mV_cV (as := [.int (mm_xs κ ((v3 + (nI 1)).toNatClampNeg)), .int (mm_xs κ ((v3 + (nI 2)).toNatClampNeg)), .int (mm_xs κ ((v3 + (nI 3)).toNatClampNeg)), .int (mm_xs κ ((v3 + (nI 4)).toNatClampNeg))]) (rest := []) (mc1 := 0) (ms1 := 0) (mc := mc) (ms := ms) (by decide +kernel) md_X12_step lk_L_95 sh_0 rfl rfl rfl (Nat.le_of_ble_eq_true rfl) (mC.mono (mm_contI (fun r79 G80 hK => ?_)) h)
      replace h := hK
      refine mV_aload_n (k := 2) (by decide +kernel) rfl ?_
      refine mV_aload_nx (k := 0) (by decide +kernel) rfl ?_
      refine mV_iload_n (k := 3) (by decide +kernel) rfl ?_
      refine mV_iconst (n := 1) (v := nI 1) (by decide +kernel) (by decide) ?_
      refine mV_iadd (by decide +kernel) ?_
      refine mV_scri (by decide +kernel) h.1 ?_
      replace h := h.2
      refine mV_aload_nx (k := 0) (by decide +kernel) rfl ?_
      refine mV_iload_n (k := 3) (by decide +kernel) rfl ?_
      refine mV_iconst (n := 2) (v := nI 2) (by decide +kernel) (by decide) ?_
      refine mV_iadd (by decide +kernel) ?_
      refine mV_scri (by decide +kernel) h.1 ?_
      replace h := h.2
      refine mV_aload_nx (k := 0) (by decide +kernel) rfl ?_
      refine mV_iload_n (k := 3) (by decide +kernel) rfl ?_
      refine mV_iconst (n := 3) (v := nI 3) (by decide +kernel) (by decide) ?_
      refine mV_iadd (by decide +kernel) ?_
      refine mV_scri (by decide +kernel) h.1 ?_
      replace h := h.2
      refine mV_aload_nx (k := 0) (by decide +kernel) rfl ?_
      refine mV_iload_n (k := 3) (by decide +kernel) rfl ?_
      refine mV_iconst (n := 4) (v := nI 4) (by decide +kernel) (by decide) ?_
      refine mV_iadd (by decide +kernel) ?_
      refine mV_scri (by decide +kernel) h.1 ?_
      replace h := h.2
      refine mV_bud (mc' := 0 + mc) (ms' := 0 + ms) (Nat.zero_add _) (Nat.zero_add _) ?_
      refine mV_cV (as := [.int (mm_xs κ ((v3 + (nI 1)).toNatClampNeg)), .int (mm_xs κ ((v3 + (nI 2)).toNatClampNeg)), .int (mm_xs κ ((v3 + (nI 3)).toNatClampNeg)), .int (mm_xs κ ((v3 + (nI 4)).toNatClampNeg))]) (rest := [.int r79]) (mc1 := 0) (ms1 := 0) (mc := mc) (ms := ms) (by decide +kernel) md_X13_step lk_L_98 sh_226 rfl rfl rfl (Nat.le_of_ble_eq_true rfl) (mC.mono (mm_contI (fun r81 G82 hK => ?_)) h)
      replace h := hK
      refine mV_icmp_eq (off := 700) (tgt := 1559) (by decide +kernel) (by decide) (fun hc => ?_) (fun hc => ?_)
      · replace h := h.1 hc
        refine mV_iincc (i := 3) (n := 6) (c := nI 6) (ls' := [some (.retAddr 1), some (.ref 0), some (.ref 226), some (.int (v3 + (nI 6)))]) (by decide +kernel) (by decide) rfl (Nat.le_of_ble_eq_true rfl) rfl rfl ?_
        refine mV_goto (off := -1544) (tgt := 18) (by decide +kernel) (by decide) ?_
        exact h
      · replace h := h.2 hc
        refine mV_iconst (n := 0) (v := nI 0) (by decide +kernel) (by decide) ?_
        exact mV_zret (by decide +kernel) rfl (by decide) h
    · replace h := h.2.2.2.2.2.2.2.2.2.2.2.2.2.2.2.2.2.2.2.2.1 (mm_eqI hc (by decide))
      refine mV_tabIn (dflt := 1526) (lo := 0) (hi := 38) (offs := #[171, 234, 257, 270, 283, 306, 349, 392, 445, 498, 531, 564, 597, 630, 653, 686, 709, 732, 755, 778, 831, 874, 897, 931, 981, 1014, 1047, 1090, 1143, 1186, 1219, 1262, 1275, 1318, 1371, 1414, 1457, 1480, 1503]) (len := 171) (off := 831) (tgt := 864) (by decide +kernel) (by rw [hc]; decide) (by rw [hc]; decide) (by rw [hc]; rfl) (by decide) ?_
      refine mV_aload_n (k := 1) (by decide +kernel) rfl ?_
      refine mV_aload_nx (k := 0) (by decide +kernel) rfl ?_
      refine mV_iload_n (k := 3) (by decide +kernel) rfl ?_
      refine mV_iconst (n := 1) (v := nI 1) (by decide +kernel) (by decide) ?_
      refine mV_iadd (by decide +kernel) ?_
      refine mV_scri (by decide +kernel) h.1 ?_
      replace h := h.2
      refine mV_aload_nx (k := 0) (by decide +kernel) rfl ?_
      refine mV_iload_n (k := 3) (by decide +kernel) rfl ?_
      refine mV_iconst (n := 2) (v := nI 2) (by decide +kernel) (by decide) ?_
      refine mV_iadd (by decide +kernel) ?_
      refine mV_scri (by decide +kernel) h.1 ?_
      replace h := h.2
      refine mV_aload_nx (k := 0) (by decide +kernel) rfl ?_
      refine mV_iload_n (k := 3) (by decide +kernel) rfl ?_
      refine mV_iconst (n := 3) (v := nI 3) (by decide +kernel) (by decide) ?_
      refine mV_iadd (by decide +kernel) ?_
      refine mV_scri (by decide +kernel) h.1 ?_
      replace h := h.2
      refine mV_bud (mc' := 0 + mc) (ms' := 0 + ms) (Nat.zero_add _) (Nat.zero_add _) ?_
      refine mV_cV (as := [.int (mm_xs κ ((v3 + (nI 1)).toNatClampNeg)), .int (mm_xs κ ((v3 + (nI 2)).toNatClampNeg)), .int (mm_xs κ ((v3 + (nI 3)).toNatClampNeg))]) (rest := []) (mc1 := 0) (ms1 := 0) (mc := mc) (ms := ms) (by decide +kernel) md_X12_life lk_L_99 sh_0 rfl rfl rfl (Nat.le_of_ble_eq_true rfl) (mC.mono (mm_contI (fun r83 G84 hK => ?_)) h)
      replace h := hK
      refine mV_aload_n (k := 2) (by decide +kernel) rfl ?_
      refine mV_aload_nx (k := 0) (by decide +kernel) rfl ?_
      refine mV_iload_n (k := 3) (by decide +kernel) rfl ?_
      refine mV_iconst (n := 1) (v := nI 1) (by decide +kernel) (by decide) ?_
      refine mV_iadd (by decide +kernel) ?_
      refine mV_scri (by decide +kernel) h.1 ?_
      replace h := h.2
      refine mV_aload_nx (k := 0) (by decide +kernel) rfl ?_
      refine mV_iload_n (k := 3) (by decide +kernel) rfl ?_
      refine mV_iconst (n := 2) (v := nI 2) (by decide +kernel) (by decide) ?_
      refine mV_iadd (by decide +kernel) ?_
      refine mV_scri (by decide +kernel) h.1 ?_
      replace h := h.2
      refine mV_aload_nx (k := 0) (by decide +kernel) rfl ?_
      refine mV_iload_n (k := 3) (by decide +kernel) rfl ?_
      refine mV_iconst (n := 3) (v := nI 3) (by decide +kernel) (by decide) ?_
      refine mV_iadd (by decide +kernel) ?_
      refine mV_scri (by decide +kernel) h.1 ?_
      replace h := h.2
      refine mV_bud (mc' := 0 + mc) (ms' := 0 + ms) (Nat.zero_add _) (Nat.zero_add _) ?_
      refine mV_cV (as := [.int (mm_xs κ ((v3 + (nI 1)).toNatClampNeg)), .int (mm_xs κ ((v3 + (nI 2)).toNatClampNeg)), .int (mm_xs κ ((v3 + (nI 3)).toNatClampNeg))]) (rest := [.int r83]) (mc1 := 0) (ms1 := 0) (mc := mc) (ms := ms) (by decide +kernel) md_X13_life lk_L_102 sh_226 rfl rfl rfl (Nat.le_of_ble_eq_true rfl) (mC.mono (mm_contI (fun r85 G86 hK => ?_)) h)
      replace h := hK
      refine mV_icmp_eq (off := 657) (tgt := 1559) (by decide +kernel) (by decide) (fun hc => ?_) (fun hc => ?_)
      · replace h := h.1 hc
        refine mV_iincc (i := 3) (n := 6) (c := nI 6) (ls' := [some (.retAddr 1), some (.ref 0), some (.ref 226), some (.int (v3 + (nI 6)))]) (by decide +kernel) (by decide) rfl (Nat.le_of_ble_eq_true rfl) rfl rfl ?_
        refine mV_goto (off := -1544) (tgt := 18) (by decide +kernel) (by decide) ?_
        exact h
      · replace h := h.2 hc
        refine mV_iconst (n := 0) (v := nI 0) (by decide +kernel) (by decide) ?_
        exact mV_zret (by decide +kernel) rfl (by decide) h
    · replace h := h.2.2.2.2.2.2.2.2.2.2.2.2.2.2.2.2.2.2.2.2.2.1 (mm_eqI hc (by decide))
      refine mV_tabIn (dflt := 1526) (lo := 0) (hi := 38) (offs := #[171, 234, 257, 270, 283, 306, 349, 392, 445, 498, 531, 564, 597, 630, 653, 686, 709, 732, 755, 778, 831, 874, 897, 931, 981, 1014, 1047, 1090, 1143, 1186, 1219, 1262, 1275, 1318, 1371, 1414, 1457, 1480, 1503]) (len := 171) (off := 874) (tgt := 907) (by decide +kernel) (by rw [hc]; decide) (by rw [hc]; decide) (by rw [hc]; rfl) (by decide) ?_
      refine mV_aload_n (k := 1) (by decide +kernel) rfl ?_
      refine mV_aload_nx (k := 0) (by decide +kernel) rfl ?_
      refine mV_iload_n (k := 3) (by decide +kernel) rfl ?_
      refine mV_iconst (n := 1) (v := nI 1) (by decide +kernel) (by decide) ?_
      refine mV_iadd (by decide +kernel) ?_
      refine mV_scri (by decide +kernel) h.1 ?_
      replace h := h.2
      refine mV_bud (mc' := 0 + mc) (ms' := 0 + ms) (Nat.zero_add _) (Nat.zero_add _) ?_
      refine mV_cV (as := [.int (mm_xs κ ((v3 + (nI 1)).toNatClampNeg))]) (rest := []) (mc1 := 0) (ms1 := 0) (mc := mc) (ms := ms) (by decide +kernel) md_X12_soonest lk_L_103 sh_0 rfl rfl rfl (Nat.le_of_ble_eq_true rfl) (mC.mono (mm_contI (fun r87 G88 hK => ?_)) h)
      replace h := hK
      refine mV_aload_n (k := 2) (by decide +kernel) rfl ?_
      refine mV_aload_nx (k := 0) (by decide +kernel) rfl ?_
      refine mV_iload_n (k := 3) (by decide +kernel) rfl ?_
      refine mV_iconst (n := 1) (v := nI 1) (by decide +kernel) (by decide) ?_
      refine mV_iadd (by decide +kernel) ?_
      refine mV_scri (by decide +kernel) h.1 ?_
      replace h := h.2
      refine mV_bud (mc' := 0 + mc) (ms' := 0 + ms) (Nat.zero_add _) (Nat.zero_add _) ?_
      refine mV_cV (as := [.int (mm_xs κ ((v3 + (nI 1)).toNatClampNeg))]) (rest := [.int r87]) (mc1 := 0) (ms1 := 0) (mc := mc) (ms := ms) (by decide +kernel) md_X13_soonest lk_L_106 sh_226 rfl rfl rfl (Nat.le_of_ble_eq_true rfl) (mC.mono (mm_contI (fun r89 G90 hK => ?_)) h)
      replace h := hK
      refine mV_icmp_eq (off := 634) (tgt := 1559) (by decide +kernel) (by decide) (fun hc => ?_) (fun hc => ?_)
      · replace h := h.1 hc
        refine mV_iincc (i := 3) (n := 6) (c := nI 6) (ls' := [some (.retAddr 1), some (.ref 0), some (.ref 226), some (.int (v3 + (nI 6)))]) (by decide +kernel) (by decide) rfl (Nat.le_of_ble_eq_true rfl) rfl rfl ?_
        refine mV_goto (off := -1544) (tgt := 18) (by decide +kernel) (by decide) ?_
        exact h
      · replace h := h.2 hc
        refine mV_iconst (n := 0) (v := nI 0) (by decide +kernel) (by decide) ?_
        exact mV_zret (by decide +kernel) rfl (by decide) h
    · replace h := h.2.2.2.2.2.2.2.2.2.2.2.2.2.2.2.2.2.2.2.2.2.2.1 (mm_eqI hc (by decide))
      refine mV_tabIn (dflt := 1526) (lo := 0) (hi := 38) (offs := #[171, 234, 257, 270, 283, 306, 349, 392, 445, 498, 531, 564, 597, 630, 653, 686, 709, 732, 755, 778, 831, 874, 897, 931, 981, 1014, 1047, 1090, 1143, 1186, 1219, 1262, 1275, 1318, 1371, 1414, 1457, 1480, 1503]) (len := 171) (off := 897) (tgt := 930) (by decide +kernel) (by rw [hc]; decide) (by rw [hc]; decide) (by rw [hc]; rfl) (by decide) ?_
      refine mV_aload_n (k := 1) (by decide +kernel) rfl ?_
      refine mV_aload_nx (k := 0) (by decide +kernel) rfl ?_
      refine mV_iload_n (k := 3) (by decide +kernel) rfl ?_
      refine mV_iconst (n := 1) (v := nI 1) (by decide +kernel) (by decide) ?_
      refine mV_iadd (by decide +kernel) ?_
      refine mV_scri (by decide +kernel) h.1 ?_
      replace h := h.2
      refine mV_aload_nx (k := 0) (by decide +kernel) rfl ?_
      refine mV_iload_n (k := 3) (by decide +kernel) rfl ?_
      refine mV_iconst (n := 2) (v := nI 2) (by decide +kernel) (by decide) ?_
      refine mV_iadd (by decide +kernel) ?_
      refine mV_scri (by decide +kernel) h.1 ?_
      replace h := h.2
      refine mV_bud (mc' := 0 + mc) (ms' := 0 + ms) (Nat.zero_add _) (Nat.zero_add _) ?_
      refine mV_cV (as := [.int (mm_xs κ ((v3 + (nI 1)).toNatClampNeg)), .int (mm_xs κ ((v3 + (nI 2)).toNatClampNeg))]) (rest := []) (mc1 := 0) (ms1 := 0) (mc := mc) (ms := ms) (by decide +kernel) md_X12_ways lk_L_107 sh_0 rfl rfl rfl (Nat.le_of_ble_eq_true rfl) (mC.mono (mm_contL (fun r91 G92 hK => ?_)) h)
      replace h := hK
      refine mV_aload_n (k := 2) (by decide +kernel) rfl ?_
      refine mV_aload_nx (k := 0) (by decide +kernel) rfl ?_
      refine mV_iload_n (k := 3) (by decide +kernel) rfl ?_
      refine mV_iconst (n := 1) (v := nI 1) (by decide +kernel) (by decide) ?_
      refine mV_iadd (by decide +kernel) ?_
      refine mV_scri (by decide +kernel) h.1 ?_
      replace h := h.2
      refine mV_aload_nx (k := 0) (by decide +kernel) rfl ?_
      refine mV_iload_n (k := 3) (by decide +kernel) rfl ?_
      refine mV_iconst (n := 2) (v := nI 2) (by decide +kernel) (by decide) ?_
      refine mV_iadd (by decide +kernel) ?_
      refine mV_scri (by decide +kernel) h.1 ?_
      replace h := h.2
      refine mV_bud (mc' := 0 + mc) (ms' := 0 + ms) (Nat.zero_add _) (Nat.zero_add _) ?_
      refine mV_cV (as := [.int (mm_xs κ ((v3 + (nI 1)).toNatClampNeg)), .int (mm_xs κ ((v3 + (nI 2)).toNatClampNeg))]) (rest := [.long r91]) (mc1 := 0) (ms1 := 0) (mc := mc) (ms := ms) (by decide +kernel) md_X13_ways lk_L_111 sh_226 rfl rfl rfl (Nat.le_of_ble_eq_true rfl) (mC.mono (mm_contL (fun r93 G94 hK => ?_)) h)
      replace h := hK
      refine mV_lcmp (by decide +kernel) ?_
      refine mV_if_eq (off := 600) (tgt := 1559) (by decide +kernel) (by decide) (fun hc => ?_) (fun hc => ?_)
      · replace h := h.1 hc
        refine mV_iincc (i := 3) (n := 6) (c := nI 6) (ls' := [some (.retAddr 1), some (.ref 0), some (.ref 226), some (.int (v3 + (nI 6)))]) (by decide +kernel) (by decide) rfl (Nat.le_of_ble_eq_true rfl) rfl rfl ?_
        refine mV_goto (off := -1544) (tgt := 18) (by decide +kernel) (by decide) ?_
        exact h
      · replace h := h.2 hc
        refine mV_iconst (n := 0) (v := nI 0) (by decide +kernel) (by decide) ?_
        exact mV_zret (by decide +kernel) rfl (by decide) h
    · replace h := h.2.2.2.2.2.2.2.2.2.2.2.2.2.2.2.2.2.2.2.2.2.2.2.1 (mm_eqI hc (by decide))
      refine mV_tabIn (dflt := 1526) (lo := 0) (hi := 38) (offs := #[171, 234, 257, 270, 283, 306, 349, 392, 445, 498, 531, 564, 597, 630, 653, 686, 709, 732, 755, 778, 831, 874, 897, 931, 981, 1014, 1047, 1090, 1143, 1186, 1219, 1262, 1275, 1318, 1371, 1414, 1457, 1480, 1503]) (len := 171) (off := 931) (tgt := 964) (by decide +kernel) (by rw [hc]; decide) (by rw [hc]; decide) (by rw [hc]; rfl) (by decide) ?_
      refine mV_aload_n (k := 1) (by decide +kernel) rfl ?_
      refine mV_aload_nx (k := 0) (by decide +kernel) rfl ?_
      refine mV_iload_n (k := 3) (by decide +kernel) rfl ?_
      refine mV_iconst (n := 1) (v := nI 1) (by decide +kernel) (by decide) ?_
      refine mV_iadd (by decide +kernel) ?_
      refine mV_scri (by decide +kernel) h.1 ?_
      replace h := h.2
      refine mV_aload_nx (k := 0) (by decide +kernel) rfl ?_
      refine mV_iload_n (k := 3) (by decide +kernel) rfl ?_
      refine mV_iconst (n := 2) (v := nI 2) (by decide +kernel) (by decide) ?_
      refine mV_iadd (by decide +kernel) ?_
      refine mV_scri (by decide +kernel) h.1 ?_
      replace h := h.2
      refine mV_if_eq (off := 7) (tgt := 982) (by decide +kernel) (by decide) (fun hc => ?_) (fun hc => ?_)
      · replace h := h.1 hc
        refine mV_iconst (n := 0) (v := nI 0) (by decide +kernel) (by decide) ?_
        refine mV_bud (mc' := 0 + mc) (ms' := 0 + ms) (Nat.zero_add _) (Nat.zero_add _) ?_
        refine mV_cV (as := [.int (mm_xs κ ((v3 + (nI 1)).toNatClampNeg)), .int (nI 0)]) (rest := []) (mc1 := 0) (ms1 := 0) (mc := mc) (ms := ms) (by decide +kernel) md_X12_mean lk_L_112 sh_0 rfl rfl rfl (Nat.le_of_ble_eq_true rfl) (mC.mono (mm_contL (fun r95 G96 hK => ?_)) h)
        replace h := hK
        refine mV_aload_n (k := 2) (by decide +kernel) rfl ?_
        refine mV_aload_nx (k := 0) (by decide +kernel) rfl ?_
        refine mV_iload_n (k := 3) (by decide +kernel) rfl ?_
        refine mV_iconst (n := 1) (v := nI 1) (by decide +kernel) (by decide) ?_
        refine mV_iadd (by decide +kernel) ?_
        refine mV_scri (by decide +kernel) h.1 ?_
        replace h := h.2
        refine mV_aload_nx (k := 0) (by decide +kernel) rfl ?_
        refine mV_iload_n (k := 3) (by decide +kernel) rfl ?_
        refine mV_iconst (n := 2) (v := nI 2) (by decide +kernel) (by decide) ?_
        refine mV_iadd (by decide +kernel) ?_
        refine mV_scri (by decide +kernel) h.1 ?_
        replace h := h.2
        refine mV_if_eq (off := 7) (tgt := 1004) (by decide +kernel) (by decide) (fun hc => ?_) (fun hc => ?_)
        · replace h := h.1 hc
          refine mV_iconst (n := 0) (v := nI 0) (by decide +kernel) (by decide) ?_
          refine mV_bud (mc' := 0 + mc) (ms' := 0 + ms) (Nat.zero_add _) (Nat.zero_add _) ?_
          refine mV_cV (as := [.int (mm_xs κ ((v3 + (nI 1)).toNatClampNeg)), .int (nI 0)]) (rest := [.long r95]) (mc1 := 0) (ms1 := 0) (mc := mc) (ms := ms) (by decide +kernel) md_X13_mean lk_L_116 sh_226 rfl rfl rfl (Nat.le_of_ble_eq_true rfl) (mC.mono (mm_contL (fun r97 G98 hK => ?_)) h)
          replace h := hK
          refine mV_lcmp (by decide +kernel) ?_
          refine mV_if_eq (off := 550) (tgt := 1559) (by decide +kernel) (by decide) (fun hc => ?_) (fun hc => ?_)
          · replace h := h.1 hc
            refine mV_iincc (i := 3) (n := 6) (c := nI 6) (ls' := [some (.retAddr 1), some (.ref 0), some (.ref 226), some (.int (v3 + (nI 6)))]) (by decide +kernel) (by decide) rfl (Nat.le_of_ble_eq_true rfl) rfl rfl ?_
            refine mV_goto (off := -1544) (tgt := 18) (by decide +kernel) (by decide) ?_
            exact h
          · replace h := h.2 hc
            refine mV_iconst (n := 0) (v := nI 0) (by decide +kernel) (by decide) ?_
            exact mV_zret (by decide +kernel) rfl (by decide) h
        · replace h := h.2 hc
          refine mV_iconst (n := 1) (v := nI 1) (by decide +kernel) (by decide) ?_
          refine mV_goto (off := 4) (tgt := 1005) (by decide +kernel) (by decide) ?_
          refine mV_bud (mc' := 0 + mc) (ms' := 0 + ms) (Nat.zero_add _) (Nat.zero_add _) ?_
          refine mV_cV (as := [.int (mm_xs κ ((v3 + (nI 1)).toNatClampNeg)), .int (nI 1)]) (rest := [.long r95]) (mc1 := 0) (ms1 := 0) (mc := mc) (ms := ms) (by decide +kernel) md_X13_mean lk_L_116 sh_226 rfl rfl rfl (Nat.le_of_ble_eq_true rfl) (mC.mono (mm_contL (fun r99 G100 hK => ?_)) h)
          replace h := hK
          refine mV_lcmp (by decide +kernel) ?_
          refine mV_if_eq (off := 550) (tgt := 1559) (by decide +kernel) (by decide) (fun hc => ?_) (fun hc => ?_)
          · replace h := h.1 hc
            refine mV_iincc (i := 3) (n := 6) (c := nI 6) (ls' := [some (.retAddr 1), some (.ref 0), some (.ref 226), some (.int (v3 + (nI 6)))]) (by decide +kernel) (by decide) rfl (Nat.le_of_ble_eq_true rfl) rfl rfl ?_
            refine mV_goto (off := -1544) (tgt := 18) (by decide +kernel) (by decide) ?_
            exact h
          · replace h := h.2 hc
            refine mV_iconst (n := 0) (v := nI 0) (by decide +kernel) (by decide) ?_
            exact mV_zret (by decide +kernel) rfl (by decide) h
      · replace h := h.2 hc
        refine mV_iconst (n := 1) (v := nI 1) (by decide +kernel) (by decide) ?_
        refine mV_goto (off := 4) (tgt := 983) (by decide +kernel) (by decide) ?_
        refine mV_bud (mc' := 0 + mc) (ms' := 0 + ms) (Nat.zero_add _) (Nat.zero_add _) ?_
        refine mV_cV (as := [.int (mm_xs κ ((v3 + (nI 1)).toNatClampNeg)), .int (nI 1)]) (rest := []) (mc1 := 0) (ms1 := 0) (mc := mc) (ms := ms) (by decide +kernel) md_X12_mean lk_L_112 sh_0 rfl rfl rfl (Nat.le_of_ble_eq_true rfl) (mC.mono (mm_contL (fun r101 G102 hK => ?_)) h)
        replace h := hK
        refine mV_aload_n (k := 2) (by decide +kernel) rfl ?_
        refine mV_aload_nx (k := 0) (by decide +kernel) rfl ?_
        refine mV_iload_n (k := 3) (by decide +kernel) rfl ?_
        refine mV_iconst (n := 1) (v := nI 1) (by decide +kernel) (by decide) ?_
        refine mV_iadd (by decide +kernel) ?_
        refine mV_scri (by decide +kernel) h.1 ?_
        replace h := h.2
        refine mV_aload_nx (k := 0) (by decide +kernel) rfl ?_
        refine mV_iload_n (k := 3) (by decide +kernel) rfl ?_
        refine mV_iconst (n := 2) (v := nI 2) (by decide +kernel) (by decide) ?_
        refine mV_iadd (by decide +kernel) ?_
        refine mV_scri (by decide +kernel) h.1 ?_
        replace h := h.2
        refine mV_if_eq (off := 7) (tgt := 1004) (by decide +kernel) (by decide) (fun hc => ?_) (fun hc => ?_)
        · replace h := h.1 hc
          refine mV_iconst (n := 0) (v := nI 0) (by decide +kernel) (by decide) ?_
          refine mV_bud (mc' := 0 + mc) (ms' := 0 + ms) (Nat.zero_add _) (Nat.zero_add _) ?_
          refine mV_cV (as := [.int (mm_xs κ ((v3 + (nI 1)).toNatClampNeg)), .int (nI 0)]) (rest := [.long r101]) (mc1 := 0) (ms1 := 0) (mc := mc) (ms := ms) (by decide +kernel) md_X13_mean lk_L_116 sh_226 rfl rfl rfl (Nat.le_of_ble_eq_true rfl) (mC.mono (mm_contL (fun r103 G104 hK => ?_)) h)
          replace h := hK
          refine mV_lcmp (by decide +kernel) ?_
          refine mV_if_eq (off := 550) (tgt := 1559) (by decide +kernel) (by decide) (fun hc => ?_) (fun hc => ?_)
          · replace h := h.1 hc
            refine mV_iincc (i := 3) (n := 6) (c := nI 6) (ls' := [some (.retAddr 1), some (.ref 0), some (.ref 226), some (.int (v3 + (nI 6)))]) (by decide +kernel) (by decide) rfl (Nat.le_of_ble_eq_true rfl) rfl rfl ?_
            refine mV_goto (off := -1544) (tgt := 18) (by decide +kernel) (by decide) ?_
            exact h
          · replace h := h.2 hc
            refine mV_iconst (n := 0) (v := nI 0) (by decide +kernel) (by decide) ?_
            exact mV_zret (by decide +kernel) rfl (by decide) h
        · replace h := h.2 hc
          refine mV_iconst (n := 1) (v := nI 1) (by decide +kernel) (by decide) ?_
          refine mV_goto (off := 4) (tgt := 1005) (by decide +kernel) (by decide) ?_
          refine mV_bud (mc' := 0 + mc) (ms' := 0 + ms) (Nat.zero_add _) (Nat.zero_add _) ?_
          refine mV_cV (as := [.int (mm_xs κ ((v3 + (nI 1)).toNatClampNeg)), .int (nI 1)]) (rest := [.long r101]) (mc1 := 0) (ms1 := 0) (mc := mc) (ms := ms) (by decide +kernel) md_X13_mean lk_L_116 sh_226 rfl rfl rfl (Nat.le_of_ble_eq_true rfl) (mC.mono (mm_contL (fun r105 G106 hK => ?_)) h)
          replace h := hK
          refine mV_lcmp (by decide +kernel) ?_
          refine mV_if_eq (off := 550) (tgt := 1559) (by decide +kernel) (by decide) (fun hc => ?_) (fun hc => ?_)
          · replace h := h.1 hc
            refine mV_iincc (i := 3) (n := 6) (c := nI 6) (ls' := [some (.retAddr 1), some (.ref 0), some (.ref 226), some (.int (v3 + (nI 6)))]) (by decide +kernel) (by decide) rfl (Nat.le_of_ble_eq_true rfl) rfl rfl ?_
            refine mV_goto (off := -1544) (tgt := 18) (by decide +kernel) (by decide) ?_
            exact h
          · replace h := h.2 hc
            refine mV_iconst (n := 0) (v := nI 0) (by decide +kernel) (by decide) ?_
            exact mV_zret (by decide +kernel) rfl (by decide) h
    · replace h := h.2.2.2.2.2.2.2.2.2.2.2.2.2.2.2.2.2.2.2.2.2.2.2.2.1 (mm_eqI hc (by decide))
      refine mV_tabIn (dflt := 1526) (lo := 0) (hi := 38) (offs := #[171, 234, 257, 270, 283, 306, 349, 392, 445, 498, 531, 564, 597, 630, 653, 686, 709, 732, 755, 778, 831, 874, 897, 931, 981, 1014, 1047, 1090, 1143, 1186, 1219, 1262, 1275, 1318, 1371, 1414, 1457, 1480, 1503]) (len := 171) (off := 981) (tgt := 1014) (by decide +kernel) (by rw [hc]; decide) (by rw [hc]; decide) (by rw [hc]; rfl) (by decide) ?_
      refine mV_aload_n (k := 1) (by decide +kernel) rfl ?_
      refine mV_aload_nx (k := 0) (by decide +kernel) rfl ?_
      refine mV_iload_n (k := 3) (by decide +kernel) rfl ?_
      refine mV_iconst (n := 1) (v := nI 1) (by decide +kernel) (by decide) ?_
      refine mV_iadd (by decide +kernel) ?_
      refine mV_scri (by decide +kernel) h.1 ?_
      replace h := h.2
      refine mV_aload_nx (k := 0) (by decide +kernel) rfl ?_
      refine mV_iload_n (k := 3) (by decide +kernel) rfl ?_
      refine mV_iconst (n := 2) (v := nI 2) (by decide +kernel) (by decide) ?_
      refine mV_iadd (by decide +kernel) ?_
      refine mV_scri (by decide +kernel) h.1 ?_
      replace h := h.2
      refine mV_bud (mc' := 0 + mc) (ms' := 0 + ms) (Nat.zero_add _) (Nat.zero_add _) ?_
      refine mV_cV (as := [.int (mm_xs κ ((v3 + (nI 1)).toNatClampNeg)), .int (mm_xs κ ((v3 + (nI 2)).toNatClampNeg))]) (rest := []) (mc1 := 0) (ms1 := 0) (mc := mc) (ms := ms) (by decide +kernel) md_X12_core lk_L_117 sh_0 rfl rfl rfl (Nat.le_of_ble_eq_true rfl) (mC.mono (mm_contI (fun r107 G108 hK => ?_)) h)
      replace h := hK
      refine mV_aload_n (k := 2) (by decide +kernel) rfl ?_
      refine mV_aload_nx (k := 0) (by decide +kernel) rfl ?_
      refine mV_iload_n (k := 3) (by decide +kernel) rfl ?_
      refine mV_iconst (n := 1) (v := nI 1) (by decide +kernel) (by decide) ?_
      refine mV_iadd (by decide +kernel) ?_
      refine mV_scri (by decide +kernel) h.1 ?_
      replace h := h.2
      refine mV_aload_nx (k := 0) (by decide +kernel) rfl ?_
      refine mV_iload_n (k := 3) (by decide +kernel) rfl ?_
      refine mV_iconst (n := 2) (v := nI 2) (by decide +kernel) (by decide) ?_
      refine mV_iadd (by decide +kernel) ?_
      refine mV_scri (by decide +kernel) h.1 ?_
      replace h := h.2
      refine mV_bud (mc' := 0 + mc) (ms' := 0 + ms) (Nat.zero_add _) (Nat.zero_add _) ?_
      refine mV_cV (as := [.int (mm_xs κ ((v3 + (nI 1)).toNatClampNeg)), .int (mm_xs κ ((v3 + (nI 2)).toNatClampNeg))]) (rest := [.int r107]) (mc1 := 0) (ms1 := 0) (mc := mc) (ms := ms) (by decide +kernel) md_X13_core lk_L_120 sh_226 rfl rfl rfl (Nat.le_of_ble_eq_true rfl) (mC.mono (mm_contI (fun r109 G110 hK => ?_)) h)
      replace h := hK
      refine mV_icmp_eq (off := 517) (tgt := 1559) (by decide +kernel) (by decide) (fun hc => ?_) (fun hc => ?_)
      · replace h := h.1 hc
        refine mV_iincc (i := 3) (n := 6) (c := nI 6) (ls' := [some (.retAddr 1), some (.ref 0), some (.ref 226), some (.int (v3 + (nI 6)))]) (by decide +kernel) (by decide) rfl (Nat.le_of_ble_eq_true rfl) rfl rfl ?_
        refine mV_goto (off := -1544) (tgt := 18) (by decide +kernel) (by decide) ?_
        exact h
      · replace h := h.2 hc
        refine mV_iconst (n := 0) (v := nI 0) (by decide +kernel) (by decide) ?_
        exact mV_zret (by decide +kernel) rfl (by decide) h
    · replace h := h.2.2.2.2.2.2.2.2.2.2.2.2.2.2.2.2.2.2.2.2.2.2.2.2.2.1 (mm_eqI hc (by decide))
      refine mV_tabIn (dflt := 1526) (lo := 0) (hi := 38) (offs := #[171, 234, 257, 270, 283, 306, 349, 392, 445, 498, 531, 564, 597, 630, 653, 686, 709, 732, 755, 778, 831, 874, 897, 931, 981, 1014, 1047, 1090, 1143, 1186, 1219, 1262, 1275, 1318, 1371, 1414, 1457, 1480, 1503]) (len := 171) (off := 1014) (tgt := 1047) (by decide +kernel) (by rw [hc]; decide) (by rw [hc]; decide) (by rw [hc]; rfl) (by decide) ?_
      refine mV_aload_n (k := 1) (by decide +kernel) rfl ?_
      refine mV_aload_nx (k := 0) (by decide +kernel) rfl ?_
      refine mV_iload_n (k := 3) (by decide +kernel) rfl ?_
      refine mV_iconst (n := 1) (v := nI 1) (by decide +kernel) (by decide) ?_
      refine mV_iadd (by decide +kernel) ?_
      refine mV_scri (by decide +kernel) h.1 ?_
      replace h := h.2
      refine mV_aload_nx (k := 0) (by decide +kernel) rfl ?_
      refine mV_iload_n (k := 3) (by decide +kernel) rfl ?_
      refine mV_iconst (n := 2) (v := nI 2) (by decide +kernel) (by decide) ?_
      refine mV_iadd (by decide +kernel) ?_
      refine mV_scri (by decide +kernel) h.1 ?_
      replace h := h.2
      refine mV_bud (mc' := 0 + mc) (ms' := 0 + ms) (Nat.zero_add _) (Nat.zero_add _) ?_
      refine mV_cV (as := [.int (mm_xs κ ((v3 + (nI 1)).toNatClampNeg)), .int (mm_xs κ ((v3 + (nI 2)).toNatClampNeg))]) (rest := []) (mc1 := 0) (ms1 := 0) (mc := mc) (ms := ms) (by decide +kernel) md_X12_does lk_L_121 sh_0 rfl rfl rfl (Nat.le_of_ble_eq_true rfl) (mC.mono (mm_contI (fun r111 G112 hK => ?_)) h)
      replace h := hK
      refine mV_aload_n (k := 2) (by decide +kernel) rfl ?_
      refine mV_aload_nx (k := 0) (by decide +kernel) rfl ?_
      refine mV_iload_n (k := 3) (by decide +kernel) rfl ?_
      refine mV_iconst (n := 1) (v := nI 1) (by decide +kernel) (by decide) ?_
      refine mV_iadd (by decide +kernel) ?_
      refine mV_scri (by decide +kernel) h.1 ?_
      replace h := h.2
      refine mV_aload_nx (k := 0) (by decide +kernel) rfl ?_
      refine mV_iload_n (k := 3) (by decide +kernel) rfl ?_
      refine mV_iconst (n := 2) (v := nI 2) (by decide +kernel) (by decide) ?_
      refine mV_iadd (by decide +kernel) ?_
      refine mV_scri (by decide +kernel) h.1 ?_
      replace h := h.2
      refine mV_bud (mc' := 0 + mc) (ms' := 0 + ms) (Nat.zero_add _) (Nat.zero_add _) ?_
      refine mV_cV (as := [.int (mm_xs κ ((v3 + (nI 1)).toNatClampNeg)), .int (mm_xs κ ((v3 + (nI 2)).toNatClampNeg))]) (rest := [.int r111]) (mc1 := 0) (ms1 := 0) (mc := mc) (ms := ms) (by decide +kernel) md_X13_does lk_L_124 sh_226 rfl rfl rfl (Nat.le_of_ble_eq_true rfl) (mC.mono (mm_contI (fun r113 G114 hK => ?_)) h)
      replace h := hK
      refine mV_icmp_eq (off := 484) (tgt := 1559) (by decide +kernel) (by decide) (fun hc => ?_) (fun hc => ?_)
      · replace h := h.1 hc
        refine mV_iincc (i := 3) (n := 6) (c := nI 6) (ls' := [some (.retAddr 1), some (.ref 0), some (.ref 226), some (.int (v3 + (nI 6)))]) (by decide +kernel) (by decide) rfl (Nat.le_of_ble_eq_true rfl) rfl rfl ?_
        refine mV_goto (off := -1544) (tgt := 18) (by decide +kernel) (by decide) ?_
        exact h
      · replace h := h.2 hc
        refine mV_iconst (n := 0) (v := nI 0) (by decide +kernel) (by decide) ?_
        exact mV_zret (by decide +kernel) rfl (by decide) h
    · replace h := h.2.2.2.2.2.2.2.2.2.2.2.2.2.2.2.2.2.2.2.2.2.2.2.2.2.2.1 (mm_eqI hc (by decide))
      refine mV_tabIn (dflt := 1526) (lo := 0) (hi := 38) (offs := #[171, 234, 257, 270, 283, 306, 349, 392, 445, 498, 531, 564, 597, 630, 653, 686, 709, 732, 755, 778, 831, 874, 897, 931, 981, 1014, 1047, 1090, 1143, 1186, 1219, 1262, 1275, 1318, 1371, 1414, 1457, 1480, 1503]) (len := 171) (off := 1047) (tgt := 1080) (by decide +kernel) (by rw [hc]; decide) (by rw [hc]; decide) (by rw [hc]; rfl) (by decide) ?_
      refine mV_aload_n (k := 1) (by decide +kernel) rfl ?_
      refine mV_aload_nx (k := 0) (by decide +kernel) rfl ?_
      refine mV_iload_n (k := 3) (by decide +kernel) rfl ?_
      refine mV_iconst (n := 1) (v := nI 1) (by decide +kernel) (by decide) ?_
      refine mV_iadd (by decide +kernel) ?_
      refine mV_scri (by decide +kernel) h.1 ?_
      replace h := h.2
      refine mV_aload_nx (k := 0) (by decide +kernel) rfl ?_
      refine mV_iload_n (k := 3) (by decide +kernel) rfl ?_
      refine mV_iconst (n := 2) (v := nI 2) (by decide +kernel) (by decide) ?_
      refine mV_iadd (by decide +kernel) ?_
      refine mV_scri (by decide +kernel) h.1 ?_
      replace h := h.2
      refine mV_aload_nx (k := 0) (by decide +kernel) rfl ?_
      refine mV_iload_n (k := 3) (by decide +kernel) rfl ?_
      refine mV_iconst (n := 3) (v := nI 3) (by decide +kernel) (by decide) ?_
      refine mV_iadd (by decide +kernel) ?_
      refine mV_scri (by decide +kernel) h.1 ?_
      replace h := h.2
      refine mV_bud (mc' := 0 + mc) (ms' := 0 + ms) (Nat.zero_add _) (Nat.zero_add _) ?_
      refine mV_cV (as := [.int (mm_xs κ ((v3 + (nI 1)).toNatClampNeg)), .int (mm_xs κ ((v3 + (nI 2)).toNatClampNeg)), .int (mm_xs κ ((v3 + (nI 3)).toNatClampNeg))]) (rest := []) (mc1 := 0) (ms1 := 0) (mc := mc) (ms := ms) (by decide +kernel) md_X12_sought lk_L_125 sh_0 rfl rfl rfl (Nat.le_of_ble_eq_true rfl) (mC.mono (mm_contI (fun r115 G116 hK => ?_)) h)
      replace h := hK
      refine mV_aload_n (k := 2) (by decide +kernel) rfl ?_
      refine mV_aload_nx (k := 0) (by decide +kernel) rfl ?_
      refine mV_iload_n (k := 3) (by decide +kernel) rfl ?_
      refine mV_iconst (n := 1) (v := nI 1) (by decide +kernel) (by decide) ?_
      refine mV_iadd (by decide +kernel) ?_
      refine mV_scri (by decide +kernel) h.1 ?_
      replace h := h.2
      refine mV_aload_nx (k := 0) (by decide +kernel) rfl ?_
      refine mV_iload_n (k := 3) (by decide +kernel) rfl ?_
      refine mV_iconst (n := 2) (v := nI 2) (by decide +kernel) (by decide) ?_
      refine mV_iadd (by decide +kernel) ?_
      refine mV_scri (by decide +kernel) h.1 ?_
      replace h := h.2
      refine mV_aload_nx (k := 0) (by decide +kernel) rfl ?_
      refine mV_iload_n (k := 3) (by decide +kernel) rfl ?_
      refine mV_iconst (n := 3) (v := nI 3) (by decide +kernel) (by decide) ?_
      refine mV_iadd (by decide +kernel) ?_
      refine mV_scri (by decide +kernel) h.1 ?_
      replace h := h.2
      refine mV_bud (mc' := 0 + mc) (ms' := 0 + ms) (Nat.zero_add _) (Nat.zero_add _) ?_
      refine mV_cV (as := [.int (mm_xs κ ((v3 + (nI 1)).toNatClampNeg)), .int (mm_xs κ ((v3 + (nI 2)).toNatClampNeg)), .int (mm_xs κ ((v3 + (nI 3)).toNatClampNeg))]) (rest := [.int r115]) (mc1 := 0) (ms1 := 0) (mc := mc) (ms := ms) (by decide +kernel) md_X13_sought lk_L_128 sh_226 rfl rfl rfl (Nat.le_of_ble_eq_true rfl) (mC.mono (mm_contI (fun r117 G118 hK => ?_)) h)
      replace h := hK
      refine mV_icmp_eq (off := 441) (tgt := 1559) (by decide +kernel) (by decide) (fun hc => ?_) (fun hc => ?_)
      · replace h := h.1 hc
        refine mV_iincc (i := 3) (n := 6) (c := nI 6) (ls' := [some (.retAddr 1), some (.ref 0), some (.ref 226), some (.int (v3 + (nI 6)))]) (by decide +kernel) (by decide) rfl (Nat.le_of_ble_eq_true rfl) rfl rfl ?_
        refine mV_goto (off := -1544) (tgt := 18) (by decide +kernel) (by decide) ?_
        exact h
      · replace h := h.2 hc
        refine mV_iconst (n := 0) (v := nI 0) (by decide +kernel) (by decide) ?_
        exact mV_zret (by decide +kernel) rfl (by decide) h
    · replace h := h.2.2.2.2.2.2.2.2.2.2.2.2.2.2.2.2.2.2.2.2.2.2.2.2.2.2.2.1 (mm_eqI hc (by decide))
      refine mV_tabIn (dflt := 1526) (lo := 0) (hi := 38) (offs := #[171, 234, 257, 270, 283, 306, 349, 392, 445, 498, 531, 564, 597, 630, 653, 686, 709, 732, 755, 778, 831, 874, 897, 931, 981, 1014, 1047, 1090, 1143, 1186, 1219, 1262, 1275, 1318, 1371, 1414, 1457, 1480, 1503]) (len := 171) (off := 1090) (tgt := 1123) (by decide +kernel) (by rw [hc]; decide) (by rw [hc]; decide) (by rw [hc]; rfl) (by decide) ?_
      refine mV_aload_n (k := 1) (by decide +kernel) rfl ?_
      refine mV_aload_nx (k := 0) (by decide +kernel) rfl ?_
      refine mV_iload_n (k := 3) (by decide +kernel) rfl ?_
      refine mV_iconst (n := 1) (v := nI 1) (by decide +kernel) (by decide) ?_
      refine mV_iadd (by decide +kernel) ?_
      refine mV_scri (by decide +kernel) h.1 ?_
      replace h := h.2
      refine mV_aload_nx (k := 0) (by decide +kernel) rfl ?_
      refine mV_iload_n (k := 3) (by decide +kernel) rfl ?_
      refine mV_iconst (n := 2) (v := nI 2) (by decide +kernel) (by decide) ?_
      refine mV_iadd (by decide +kernel) ?_
      refine mV_scri (by decide +kernel) h.1 ?_
      replace h := h.2
      refine mV_aload_nx (k := 0) (by decide +kernel) rfl ?_
      refine mV_iload_n (k := 3) (by decide +kernel) rfl ?_
      refine mV_iconst (n := 3) (v := nI 3) (by decide +kernel) (by decide) ?_
      refine mV_iadd (by decide +kernel) ?_
      refine mV_scri (by decide +kernel) h.1 ?_
      replace h := h.2
      refine mV_aload_nx (k := 0) (by decide +kernel) rfl ?_
      refine mV_iload_n (k := 3) (by decide +kernel) rfl ?_
      refine mV_iconst (n := 4) (v := nI 4) (by decide +kernel) (by decide) ?_
      refine mV_iadd (by decide +kernel) ?_
      refine mV_scri (by decide +kernel) h.1 ?_
      replace h := h.2
      refine mV_bud (mc' := 0 + mc) (ms' := 0 + ms) (Nat.zero_add _) (Nat.zero_add _) ?_
      refine mV_cV (as := [.int (mm_xs κ ((v3 + (nI 1)).toNatClampNeg)), .int (mm_xs κ ((v3 + (nI 2)).toNatClampNeg)), .int (mm_xs κ ((v3 + (nI 3)).toNatClampNeg)), .int (mm_xs κ ((v3 + (nI 4)).toNatClampNeg))]) (rest := []) (mc1 := 0) (ms1 := 0) (mc := mc) (ms := ms) (by decide +kernel) md_X12_soughtAt lk_L_129 sh_0 rfl rfl rfl (Nat.le_of_ble_eq_true rfl) (mC.mono (mm_contI (fun r119 G120 hK => ?_)) h)
      replace h := hK
      refine mV_aload_n (k := 2) (by decide +kernel) rfl ?_
      refine mV_aload_nx (k := 0) (by decide +kernel) rfl ?_
      refine mV_iload_n (k := 3) (by decide +kernel) rfl ?_
      refine mV_iconst (n := 1) (v := nI 1) (by decide +kernel) (by decide) ?_
      refine mV_iadd (by decide +kernel) ?_
      refine mV_scri (by decide +kernel) h.1 ?_
      replace h := h.2
      refine mV_aload_nx (k := 0) (by decide +kernel) rfl ?_
      refine mV_iload_n (k := 3) (by decide +kernel) rfl ?_
      refine mV_iconst (n := 2) (v := nI 2) (by decide +kernel) (by decide) ?_
      refine mV_iadd (by decide +kernel) ?_
      refine mV_scri (by decide +kernel) h.1 ?_
      replace h := h.2
      refine mV_aload_nx (k := 0) (by decide +kernel) rfl ?_
      refine mV_iload_n (k := 3) (by decide +kernel) rfl ?_
      refine mV_iconst (n := 3) (v := nI 3) (by decide +kernel) (by decide) ?_
      refine mV_iadd (by decide +kernel) ?_
      refine mV_scri (by decide +kernel) h.1 ?_
      replace h := h.2
      refine mV_aload_nx (k := 0) (by decide +kernel) rfl ?_
      refine mV_iload_n (k := 3) (by decide +kernel) rfl ?_
      refine mV_iconst (n := 4) (v := nI 4) (by decide +kernel) (by decide) ?_
      refine mV_iadd (by decide +kernel) ?_
      refine mV_scri (by decide +kernel) h.1 ?_
      replace h := h.2
      refine mV_bud (mc' := 0 + mc) (ms' := 0 + ms) (Nat.zero_add _) (Nat.zero_add _) ?_
      refine mV_cV (as := [.int (mm_xs κ ((v3 + (nI 1)).toNatClampNeg)), .int (mm_xs κ ((v3 + (nI 2)).toNatClampNeg)), .int (mm_xs κ ((v3 + (nI 3)).toNatClampNeg)), .int (mm_xs κ ((v3 + (nI 4)).toNatClampNeg))]) (rest := [.int r119]) (mc1 := 0) (ms1 := 0) (mc := mc) (ms := ms) (by decide +kernel) md_X13_soughtAt lk_L_132 sh_226 rfl rfl rfl (Nat.le_of_ble_eq_true rfl) (mC.mono (mm_contI (fun r121 G122 hK => ?_)) h)
      replace h := hK
      refine mV_icmp_eq (off := 388) (tgt := 1559) (by decide +kernel) (by decide) (fun hc => ?_) (fun hc => ?_)
      · replace h := h.1 hc
        refine mV_iincc (i := 3) (n := 6) (c := nI 6) (ls' := [some (.retAddr 1), some (.ref 0), some (.ref 226), some (.int (v3 + (nI 6)))]) (by decide +kernel) (by decide) rfl (Nat.le_of_ble_eq_true rfl) rfl rfl ?_
        refine mV_goto (off := -1544) (tgt := 18) (by decide +kernel) (by decide) ?_
        exact h
      · replace h := h.2 hc
        refine mV_iconst (n := 0) (v := nI 0) (by decide +kernel) (by decide) ?_
        exact mV_zret (by decide +kernel) rfl (by decide) h
    · replace h := h.2.2.2.2.2.2.2.2.2.2.2.2.2.2.2.2.2.2.2.2.2.2.2.2.2.2.2.2.1 (mm_eqI hc (by decide))
      refine mV_tabIn (dflt := 1526) (lo := 0) (hi := 38) (offs := #[171, 234, 257, 270, 283, 306, 349, 392, 445, 498, 531, 564, 597, 630, 653, 686, 709, 732, 755, 778, 831, 874, 897, 931, 981, 1014, 1047, 1090, 1143, 1186, 1219, 1262, 1275, 1318, 1371, 1414, 1457, 1480, 1503]) (len := 171) (off := 1143) (tgt := 1176) (by decide +kernel) (by rw [hc]; decide) (by rw [hc]; decide) (by rw [hc]; rfl) (by decide) ?_
      refine mV_aload_n (k := 1) (by decide +kernel) rfl ?_
      refine mV_aload_nx (k := 0) (by decide +kernel) rfl ?_
      refine mV_iload_n (k := 3) (by decide +kernel) rfl ?_
      refine mV_iconst (n := 1) (v := nI 1) (by decide +kernel) (by decide) ?_
      refine mV_iadd (by decide +kernel) ?_
      refine mV_scri (by decide +kernel) h.1 ?_
      replace h := h.2
      refine mV_aload_nx (k := 0) (by decide +kernel) rfl ?_
      refine mV_iload_n (k := 3) (by decide +kernel) rfl ?_
      refine mV_iconst (n := 2) (v := nI 2) (by decide +kernel) (by decide) ?_
      refine mV_iadd (by decide +kernel) ?_
      refine mV_scri (by decide +kernel) h.1 ?_
      replace h := h.2
      refine mV_aload_nx (k := 0) (by decide +kernel) rfl ?_
      refine mV_iload_n (k := 3) (by decide +kernel) rfl ?_
      refine mV_iconst (n := 3) (v := nI 3) (by decide +kernel) (by decide) ?_
      refine mV_iadd (by decide +kernel) ?_
      refine mV_scri (by decide +kernel) h.1 ?_
      replace h := h.2
      refine mV_bud (mc' := 0 + mc) (ms' := 0 + ms) (Nat.zero_add _) (Nat.zero_add _) ?_
      refine mV_cV (as := [.int (mm_xs κ ((v3 + (nI 1)).toNatClampNeg)), .int (mm_xs κ ((v3 + (nI 2)).toNatClampNeg)), .int (mm_xs κ ((v3 + (nI 3)).toNatClampNeg))]) (rest := []) (mc1 := 0) (ms1 := 0) (mc := mc) (ms := ms) (by decide +kernel) md_X12_put lk_L_133 sh_0 rfl rfl rfl (Nat.le_of_ble_eq_true rfl) (mC.mono (mm_contI (fun r123 G124 hK => ?_)) h)
      replace h := hK
      refine mV_aload_n (k := 2) (by decide +kernel) rfl ?_
      refine mV_aload_nx (k := 0) (by decide +kernel) rfl ?_
      refine mV_iload_n (k := 3) (by decide +kernel) rfl ?_
      refine mV_iconst (n := 1) (v := nI 1) (by decide +kernel) (by decide) ?_
      refine mV_iadd (by decide +kernel) ?_
      refine mV_scri (by decide +kernel) h.1 ?_
      replace h := h.2
      refine mV_aload_nx (k := 0) (by decide +kernel) rfl ?_
      refine mV_iload_n (k := 3) (by decide +kernel) rfl ?_
      refine mV_iconst (n := 2) (v := nI 2) (by decide +kernel) (by decide) ?_
      refine mV_iadd (by decide +kernel) ?_
      refine mV_scri (by decide +kernel) h.1 ?_
      replace h := h.2
      refine mV_aload_nx (k := 0) (by decide +kernel) rfl ?_
      refine mV_iload_n (k := 3) (by decide +kernel) rfl ?_
      refine mV_iconst (n := 3) (v := nI 3) (by decide +kernel) (by decide) ?_
      refine mV_iadd (by decide +kernel) ?_
      refine mV_scri (by decide +kernel) h.1 ?_
      replace h := h.2
      refine mV_bud (mc' := 0 + mc) (ms' := 0 + ms) (Nat.zero_add _) (Nat.zero_add _) ?_
      refine mV_cV (as := [.int (mm_xs κ ((v3 + (nI 1)).toNatClampNeg)), .int (mm_xs κ ((v3 + (nI 2)).toNatClampNeg)), .int (mm_xs κ ((v3 + (nI 3)).toNatClampNeg))]) (rest := [.int r123]) (mc1 := 0) (ms1 := 0) (mc := mc) (ms := ms) (by decide +kernel) md_X13_put_ lk_L_136 sh_226 rfl rfl rfl (Nat.le_of_ble_eq_true rfl) (mC.mono (mm_contI (fun r125 G126 hK => ?_)) h)
      replace h := hK
      refine mV_icmp_eq (off := 345) (tgt := 1559) (by decide +kernel) (by decide) (fun hc => ?_) (fun hc => ?_)
      · replace h := h.1 hc
        refine mV_iincc (i := 3) (n := 6) (c := nI 6) (ls' := [some (.retAddr 1), some (.ref 0), some (.ref 226), some (.int (v3 + (nI 6)))]) (by decide +kernel) (by decide) rfl (Nat.le_of_ble_eq_true rfl) rfl rfl ?_
        refine mV_goto (off := -1544) (tgt := 18) (by decide +kernel) (by decide) ?_
        exact h
      · replace h := h.2 hc
        refine mV_iconst (n := 0) (v := nI 0) (by decide +kernel) (by decide) ?_
        exact mV_zret (by decide +kernel) rfl (by decide) h
    · replace h := h.2.2.2.2.2.2.2.2.2.2.2.2.2.2.2.2.2.2.2.2.2.2.2.2.2.2.2.2.2.1 (mm_eqI hc (by decide))
      refine mV_tabIn (dflt := 1526) (lo := 0) (hi := 38) (offs := #[171, 234, 257, 270, 283, 306, 349, 392, 445, 498, 531, 564, 597, 630, 653, 686, 709, 732, 755, 778, 831, 874, 897, 931, 981, 1014, 1047, 1090, 1143, 1186, 1219, 1262, 1275, 1318, 1371, 1414, 1457, 1480, 1503]) (len := 171) (off := 1186) (tgt := 1219) (by decide +kernel) (by rw [hc]; decide) (by rw [hc]; decide) (by rw [hc]; rfl) (by decide) ?_
      refine mV_aload_n (k := 1) (by decide +kernel) rfl ?_
      refine mV_aload_nx (k := 0) (by decide +kernel) rfl ?_
      refine mV_iload_n (k := 3) (by decide +kernel) rfl ?_
      refine mV_iconst (n := 1) (v := nI 1) (by decide +kernel) (by decide) ?_
      refine mV_iadd (by decide +kernel) ?_
      refine mV_scri (by decide +kernel) h.1 ?_
      replace h := h.2
      refine mV_aload_nx (k := 0) (by decide +kernel) rfl ?_
      refine mV_iload_n (k := 3) (by decide +kernel) rfl ?_
      refine mV_iconst (n := 2) (v := nI 2) (by decide +kernel) (by decide) ?_
      refine mV_iadd (by decide +kernel) ?_
      refine mV_scri (by decide +kernel) h.1 ?_
      replace h := h.2
      refine mV_bud (mc' := 0 + mc) (ms' := 0 + ms) (Nat.zero_add _) (Nat.zero_add _) ?_
      refine mV_cV (as := [.int (mm_xs κ ((v3 + (nI 1)).toNatClampNeg)), .int (mm_xs κ ((v3 + (nI 2)).toNatClampNeg))]) (rest := []) (mc1 := 0) (ms1 := 0) (mc := mc) (ms := ms) (by decide +kernel) md_X12_take lk_L_137 sh_0 rfl rfl rfl (Nat.le_of_ble_eq_true rfl) (mC.mono (mm_contI (fun r127 G128 hK => ?_)) h)
      replace h := hK
      refine mV_aload_n (k := 2) (by decide +kernel) rfl ?_
      refine mV_aload_nx (k := 0) (by decide +kernel) rfl ?_
      refine mV_iload_n (k := 3) (by decide +kernel) rfl ?_
      refine mV_iconst (n := 1) (v := nI 1) (by decide +kernel) (by decide) ?_
      refine mV_iadd (by decide +kernel) ?_
      refine mV_scri (by decide +kernel) h.1 ?_
      replace h := h.2
      refine mV_aload_nx (k := 0) (by decide +kernel) rfl ?_
      refine mV_iload_n (k := 3) (by decide +kernel) rfl ?_
      refine mV_iconst (n := 2) (v := nI 2) (by decide +kernel) (by decide) ?_
      refine mV_iadd (by decide +kernel) ?_
      refine mV_scri (by decide +kernel) h.1 ?_
      replace h := h.2
      refine mV_bud (mc' := 0 + mc) (ms' := 0 + ms) (Nat.zero_add _) (Nat.zero_add _) ?_
      refine mV_cV (as := [.int (mm_xs κ ((v3 + (nI 1)).toNatClampNeg)), .int (mm_xs κ ((v3 + (nI 2)).toNatClampNeg))]) (rest := [.int r127]) (mc1 := 0) (ms1 := 0) (mc := mc) (ms := ms) (by decide +kernel) md_X13_take lk_L_140 sh_226 rfl rfl rfl (Nat.le_of_ble_eq_true rfl) (mC.mono (mm_contI (fun r129 G130 hK => ?_)) h)
      replace h := hK
      refine mV_icmp_eq (off := 312) (tgt := 1559) (by decide +kernel) (by decide) (fun hc => ?_) (fun hc => ?_)
      · replace h := h.1 hc
        refine mV_iincc (i := 3) (n := 6) (c := nI 6) (ls' := [some (.retAddr 1), some (.ref 0), some (.ref 226), some (.int (v3 + (nI 6)))]) (by decide +kernel) (by decide) rfl (Nat.le_of_ble_eq_true rfl) rfl rfl ?_
        refine mV_goto (off := -1544) (tgt := 18) (by decide +kernel) (by decide) ?_
        exact h
      · replace h := h.2 hc
        refine mV_iconst (n := 0) (v := nI 0) (by decide +kernel) (by decide) ?_
        exact mV_zret (by decide +kernel) rfl (by decide) h
    · replace h := h.2.2.2.2.2.2.2.2.2.2.2.2.2.2.2.2.2.2.2.2.2.2.2.2.2.2.2.2.2.2.1 (mm_eqI hc (by decide))
      refine mV_tabIn (dflt := 1526) (lo := 0) (hi := 38) (offs := #[171, 234, 257, 270, 283, 306, 349, 392, 445, 498, 531, 564, 597, 630, 653, 686, 709, 732, 755, 778, 831, 874, 897, 931, 981, 1014, 1047, 1090, 1143, 1186, 1219, 1262, 1275, 1318, 1371, 1414, 1457, 1480, 1503]) (len := 171) (off := 1219) (tgt := 1252) (by decide +kernel) (by rw [hc]; decide) (by rw [hc]; decide) (by rw [hc]; rfl) (by decide) ?_
      refine mV_aload_n (k := 1) (by decide +kernel) rfl ?_
      refine mV_aload_nx (k := 0) (by decide +kernel) rfl ?_
      refine mV_iload_n (k := 3) (by decide +kernel) rfl ?_
      refine mV_iconst (n := 1) (v := nI 1) (by decide +kernel) (by decide) ?_
      refine mV_iadd (by decide +kernel) ?_
      refine mV_scri (by decide +kernel) h.1 ?_
      replace h := h.2
      refine mV_aload_nx (k := 0) (by decide +kernel) rfl ?_
      refine mV_iload_n (k := 3) (by decide +kernel) rfl ?_
      refine mV_iconst (n := 2) (v := nI 2) (by decide +kernel) (by decide) ?_
      refine mV_iadd (by decide +kernel) ?_
      refine mV_scri (by decide +kernel) h.1 ?_
      replace h := h.2
      refine mV_aload_nx (k := 0) (by decide +kernel) rfl ?_
      refine mV_iload_n (k := 3) (by decide +kernel) rfl ?_
      refine mV_iconst (n := 3) (v := nI 3) (by decide +kernel) (by decide) ?_
      refine mV_iadd (by decide +kernel) ?_
      refine mV_scri (by decide +kernel) h.1 ?_
      replace h := h.2
      refine mV_bud (mc' := 0 + mc) (ms' := 0 + ms) (Nat.zero_add _) (Nat.zero_add _) ?_
      refine mV_cV (as := [.int (mm_xs κ ((v3 + (nI 1)).toNatClampNeg)), .int (mm_xs κ ((v3 + (nI 2)).toNatClampNeg)), .int (mm_xs κ ((v3 + (nI 3)).toNatClampNeg))]) (rest := []) (mc1 := 0) (ms1 := 0) (mc := mc) (ms := ms) (by decide +kernel) md_X12_see lk_L_141 sh_0 rfl rfl rfl (Nat.le_of_ble_eq_true rfl) (mC.mono (mm_contI (fun r131 G132 hK => ?_)) h)
      replace h := hK
      refine mV_aload_n (k := 2) (by decide +kernel) rfl ?_
      refine mV_aload_nx (k := 0) (by decide +kernel) rfl ?_
      refine mV_iload_n (k := 3) (by decide +kernel) rfl ?_
      refine mV_iconst (n := 1) (v := nI 1) (by decide +kernel) (by decide) ?_
      refine mV_iadd (by decide +kernel) ?_
      refine mV_scri (by decide +kernel) h.1 ?_
      replace h := h.2
      refine mV_aload_nx (k := 0) (by decide +kernel) rfl ?_
      refine mV_iload_n (k := 3) (by decide +kernel) rfl ?_
      refine mV_iconst (n := 2) (v := nI 2) (by decide +kernel) (by decide) ?_
      refine mV_iadd (by decide +kernel) ?_
      refine mV_scri (by decide +kernel) h.1 ?_
      replace h := h.2
      refine mV_aload_nx (k := 0) (by decide +kernel) rfl ?_
      refine mV_iload_n (k := 3) (by decide +kernel) rfl ?_
      refine mV_iconst (n := 3) (v := nI 3) (by decide +kernel) (by decide) ?_
      refine mV_iadd (by decide +kernel) ?_
      refine mV_scri (by decide +kernel) h.1 ?_
      replace h := h.2
      refine mV_bud (mc' := 0 + mc) (ms' := 0 + ms) (Nat.zero_add _) (Nat.zero_add _) ?_
      refine mV_cV (as := [.int (mm_xs κ ((v3 + (nI 1)).toNatClampNeg)), .int (mm_xs κ ((v3 + (nI 2)).toNatClampNeg)), .int (mm_xs κ ((v3 + (nI 3)).toNatClampNeg))]) (rest := [.int r131]) (mc1 := 0) (ms1 := 0) (mc := mc) (ms := ms) (by decide +kernel) md_X13_see lk_L_144 sh_226 rfl rfl rfl (Nat.le_of_ble_eq_true rfl) (mC.mono (mm_contI (fun r133 G134 hK => ?_)) h)
      replace h := hK
      refine mV_icmp_eq (off := 269) (tgt := 1559) (by decide +kernel) (by decide) (fun hc => ?_) (fun hc => ?_)
      · replace h := h.1 hc
        refine mV_iincc (i := 3) (n := 6) (c := nI 6) (ls' := [some (.retAddr 1), some (.ref 0), some (.ref 226), some (.int (v3 + (nI 6)))]) (by decide +kernel) (by decide) rfl (Nat.le_of_ble_eq_true rfl) rfl rfl ?_
        refine mV_goto (off := -1544) (tgt := 18) (by decide +kernel) (by decide) ?_
        exact h
      · replace h := h.2 hc
        refine mV_iconst (n := 0) (v := nI 0) (by decide +kernel) (by decide) ?_
        exact mV_zret (by decide +kernel) rfl (by decide) h
    · replace h := h.2.2.2.2.2.2.2.2.2.2.2.2.2.2.2.2.2.2.2.2.2.2.2.2.2.2.2.2.2.2.2.1 (mm_eqI hc (by decide))
      refine mV_tabIn (dflt := 1526) (lo := 0) (hi := 38) (offs := #[171, 234, 257, 270, 283, 306, 349, 392, 445, 498, 531, 564, 597, 630, 653, 686, 709, 732, 755, 778, 831, 874, 897, 931, 981, 1014, 1047, 1090, 1143, 1186, 1219, 1262, 1275, 1318, 1371, 1414, 1457, 1480, 1503]) (len := 171) (off := 1262) (tgt := 1295) (by decide +kernel) (by rw [hc]; decide) (by rw [hc]; decide) (by rw [hc]; rfl) (by decide) ?_
      refine mV_aload_n (k := 1) (by decide +kernel) rfl ?_
      refine mV_bud (mc' := 0 + mc) (ms' := 0 + ms) (Nat.zero_add _) (Nat.zero_add _) ?_
      refine mV_cV (as := []) (rest := []) (mc1 := 0) (ms1 := 0) (mc := mc) (ms := ms) (by decide +kernel) md_X12_forget lk_L_145 sh_0 rfl rfl rfl (Nat.le_of_ble_eq_true rfl) (mC.mono (mm_contI (fun r135 G136 hK => ?_)) h)
      replace h := hK
      refine mV_aload_n (k := 2) (by decide +kernel) rfl ?_
      refine mV_bud (mc' := 0 + mc) (ms' := 0 + ms) (Nat.zero_add _) (Nat.zero_add _) ?_
      refine mV_cV (as := []) (rest := [.int r135]) (mc1 := 0) (ms1 := 0) (mc := mc) (ms := ms) (by decide +kernel) md_X13_forget lk_L_148 sh_226 rfl rfl rfl (Nat.le_of_ble_eq_true rfl) (mC.mono (mm_contI (fun r137 G138 hK => ?_)) h)
      replace h := hK
      refine mV_icmp_eq (off := 256) (tgt := 1559) (by decide +kernel) (by decide) (fun hc => ?_) (fun hc => ?_)
      · replace h := h.1 hc
        refine mV_iincc (i := 3) (n := 6) (c := nI 6) (ls' := [some (.retAddr 1), some (.ref 0), some (.ref 226), some (.int (v3 + (nI 6)))]) (by decide +kernel) (by decide) rfl (Nat.le_of_ble_eq_true rfl) rfl rfl ?_
        refine mV_goto (off := -1544) (tgt := 18) (by decide +kernel) (by decide) ?_
        exact h
      · replace h := h.2 hc
        refine mV_iconst (n := 0) (v := nI 0) (by decide +kernel) (by decide) ?_
        exact mV_zret (by decide +kernel) rfl (by decide) h
    · replace h := h.2.2.2.2.2.2.2.2.2.2.2.2.2.2.2.2.2.2.2.2.2.2.2.2.2.2.2.2.2.2.2.2.1 (mm_eqI hc (by decide))
      refine mV_tabIn (dflt := 1526) (lo := 0) (hi := 38) (offs := #[171, 234, 257, 270, 283, 306, 349, 392, 445, 498, 531, 564, 597, 630, 653, 686, 709, 732, 755, 778, 831, 874, 897, 931, 981, 1014, 1047, 1090, 1143, 1186, 1219, 1262, 1275, 1318, 1371, 1414, 1457, 1480, 1503]) (len := 171) (off := 1275) (tgt := 1308) (by decide +kernel) (by rw [hc]; decide) (by rw [hc]; decide) (by rw [hc]; rfl) (by decide) ?_
      refine mV_aload_n (k := 1) (by decide +kernel) rfl ?_
      refine mV_aload_nx (k := 0) (by decide +kernel) rfl ?_
      refine mV_iload_n (k := 3) (by decide +kernel) rfl ?_
      refine mV_iconst (n := 1) (v := nI 1) (by decide +kernel) (by decide) ?_
      refine mV_iadd (by decide +kernel) ?_
      refine mV_scri (by decide +kernel) h.1 ?_
      replace h := h.2
      refine mV_aload_nx (k := 0) (by decide +kernel) rfl ?_
      refine mV_iload_n (k := 3) (by decide +kernel) rfl ?_
      refine mV_iconst (n := 2) (v := nI 2) (by decide +kernel) (by decide) ?_
      refine mV_iadd (by decide +kernel) ?_
      refine mV_scri (by decide +kernel) h.1 ?_
      replace h := h.2
      refine mV_aload_nx (k := 0) (by decide +kernel) rfl ?_
      refine mV_iload_n (k := 3) (by decide +kernel) rfl ?_
      refine mV_iconst (n := 3) (v := nI 3) (by decide +kernel) (by decide) ?_
      refine mV_iadd (by decide +kernel) ?_
      refine mV_scri (by decide +kernel) h.1 ?_
      replace h := h.2
      refine mV_bud (mc' := 0 + mc) (ms' := 0 + ms) (Nat.zero_add _) (Nat.zero_add _) ?_
      refine mV_cV (as := [.int (mm_xs κ ((v3 + (nI 1)).toNatClampNeg)), .int (mm_xs κ ((v3 + (nI 2)).toNatClampNeg)), .int (mm_xs κ ((v3 + (nI 3)).toNatClampNeg))]) (rest := []) (mc1 := 0) (ms1 := 0) (mc := mc) (ms := ms) (by decide +kernel) md_X12_suspects lk_L_149 sh_0 rfl rfl rfl (Nat.le_of_ble_eq_true rfl) (mC.mono (mm_contI (fun r139 G140 hK => ?_)) h)
      replace h := hK
      refine mV_aload_n (k := 2) (by decide +kernel) rfl ?_
      refine mV_aload_nx (k := 0) (by decide +kernel) rfl ?_
      refine mV_iload_n (k := 3) (by decide +kernel) rfl ?_
      refine mV_iconst (n := 1) (v := nI 1) (by decide +kernel) (by decide) ?_
      refine mV_iadd (by decide +kernel) ?_
      refine mV_scri (by decide +kernel) h.1 ?_
      replace h := h.2
      refine mV_aload_nx (k := 0) (by decide +kernel) rfl ?_
      refine mV_iload_n (k := 3) (by decide +kernel) rfl ?_
      refine mV_iconst (n := 2) (v := nI 2) (by decide +kernel) (by decide) ?_
      refine mV_iadd (by decide +kernel) ?_
      refine mV_scri (by decide +kernel) h.1 ?_
      replace h := h.2
      refine mV_aload_nx (k := 0) (by decide +kernel) rfl ?_
      refine mV_iload_n (k := 3) (by decide +kernel) rfl ?_
      refine mV_iconst (n := 3) (v := nI 3) (by decide +kernel) (by decide) ?_
      refine mV_iadd (by decide +kernel) ?_
      refine mV_scri (by decide +kernel) h.1 ?_
      replace h := h.2
      refine mV_bud (mc' := 0 + mc) (ms' := 0 + ms) (Nat.zero_add _) (Nat.zero_add _) ?_
      refine mV_cV (as := [.int (mm_xs κ ((v3 + (nI 1)).toNatClampNeg)), .int (mm_xs κ ((v3 + (nI 2)).toNatClampNeg)), .int (mm_xs κ ((v3 + (nI 3)).toNatClampNeg))]) (rest := [.int r139]) (mc1 := 0) (ms1 := 0) (mc := mc) (ms := ms) (by decide +kernel) md_X13_suspects lk_L_152 sh_226 rfl rfl rfl (Nat.le_of_ble_eq_true rfl) (mC.mono (mm_contI (fun r141 G142 hK => ?_)) h)
      replace h := hK
      refine mV_icmp_eq (off := 213) (tgt := 1559) (by decide +kernel) (by decide) (fun hc => ?_) (fun hc => ?_)
      · replace h := h.1 hc
        refine mV_iincc (i := 3) (n := 6) (c := nI 6) (ls' := [some (.retAddr 1), some (.ref 0), some (.ref 226), some (.int (v3 + (nI 6)))]) (by decide +kernel) (by decide) rfl (Nat.le_of_ble_eq_true rfl) rfl rfl ?_
        refine mV_goto (off := -1544) (tgt := 18) (by decide +kernel) (by decide) ?_
        exact h
      · replace h := h.2 hc
        refine mV_iconst (n := 0) (v := nI 0) (by decide +kernel) (by decide) ?_
        exact mV_zret (by decide +kernel) rfl (by decide) h
    · replace h := h.2.2.2.2.2.2.2.2.2.2.2.2.2.2.2.2.2.2.2.2.2.2.2.2.2.2.2.2.2.2.2.2.2.1 (mm_eqI hc (by decide))
      refine mV_tabIn (dflt := 1526) (lo := 0) (hi := 38) (offs := #[171, 234, 257, 270, 283, 306, 349, 392, 445, 498, 531, 564, 597, 630, 653, 686, 709, 732, 755, 778, 831, 874, 897, 931, 981, 1014, 1047, 1090, 1143, 1186, 1219, 1262, 1275, 1318, 1371, 1414, 1457, 1480, 1503]) (len := 171) (off := 1318) (tgt := 1351) (by decide +kernel) (by rw [hc]; decide) (by rw [hc]; decide) (by rw [hc]; rfl) (by decide) ?_
      refine mV_aload_n (k := 1) (by decide +kernel) rfl ?_
      refine mV_aload_nx (k := 0) (by decide +kernel) rfl ?_
      refine mV_iload_n (k := 3) (by decide +kernel) rfl ?_
      refine mV_iconst (n := 1) (v := nI 1) (by decide +kernel) (by decide) ?_
      refine mV_iadd (by decide +kernel) ?_
      refine mV_scri (by decide +kernel) h.1 ?_
      replace h := h.2
      refine mV_aload_nx (k := 0) (by decide +kernel) rfl ?_
      refine mV_iload_n (k := 3) (by decide +kernel) rfl ?_
      refine mV_iconst (n := 2) (v := nI 2) (by decide +kernel) (by decide) ?_
      refine mV_iadd (by decide +kernel) ?_
      refine mV_scri (by decide +kernel) h.1 ?_
      replace h := h.2
      refine mV_aload_nx (k := 0) (by decide +kernel) rfl ?_
      refine mV_iload_n (k := 3) (by decide +kernel) rfl ?_
      refine mV_iconst (n := 3) (v := nI 3) (by decide +kernel) (by decide) ?_
      refine mV_iadd (by decide +kernel) ?_
      refine mV_scri (by decide +kernel) h.1 ?_
      replace h := h.2
      refine mV_aload_nx (k := 0) (by decide +kernel) rfl ?_
      refine mV_iload_n (k := 3) (by decide +kernel) rfl ?_
      refine mV_iconst (n := 4) (v := nI 4) (by decide +kernel) (by decide) ?_
      refine mV_iadd (by decide +kernel) ?_
      refine mV_scri (by decide +kernel) h.1 ?_
      replace h := h.2
      refine mV_bud (mc' := 0 + mc) (ms' := 0 + ms) (Nat.zero_add _) (Nat.zero_add _) ?_
      refine mV_cV (as := [.int (mm_xs κ ((v3 + (nI 1)).toNatClampNeg)), .int (mm_xs κ ((v3 + (nI 2)).toNatClampNeg)), .int (mm_xs κ ((v3 + (nI 3)).toNatClampNeg)), .int (mm_xs κ ((v3 + (nI 4)).toNatClampNeg))]) (rest := []) (mc1 := 0) (ms1 := 0) (mc := mc) (ms := ms) (by decide +kernel) md_X12_suspect lk_L_153 sh_0 rfl rfl rfl (Nat.le_of_ble_eq_true rfl) (mC.mono (mm_contI (fun r143 G144 hK => ?_)) h)
      replace h := hK
      refine mV_aload_n (k := 2) (by decide +kernel) rfl ?_
      refine mV_aload_nx (k := 0) (by decide +kernel) rfl ?_
      refine mV_iload_n (k := 3) (by decide +kernel) rfl ?_
      refine mV_iconst (n := 1) (v := nI 1) (by decide +kernel) (by decide) ?_
      refine mV_iadd (by decide +kernel) ?_
      refine mV_scri (by decide +kernel) h.1 ?_
      replace h := h.2
      refine mV_aload_nx (k := 0) (by decide +kernel) rfl ?_
      refine mV_iload_n (k := 3) (by decide +kernel) rfl ?_
      refine mV_iconst (n := 2) (v := nI 2) (by decide +kernel) (by decide) ?_
      refine mV_iadd (by decide +kernel) ?_
      refine mV_scri (by decide +kernel) h.1 ?_
      replace h := h.2
      refine mV_aload_nx (k := 0) (by decide +kernel) rfl ?_
      refine mV_iload_n (k := 3) (by decide +kernel) rfl ?_
      refine mV_iconst (n := 3) (v := nI 3) (by decide +kernel) (by decide) ?_
      refine mV_iadd (by decide +kernel) ?_
      refine mV_scri (by decide +kernel) h.1 ?_
      replace h := h.2
      refine mV_aload_nx (k := 0) (by decide +kernel) rfl ?_
      refine mV_iload_n (k := 3) (by decide +kernel) rfl ?_
      refine mV_iconst (n := 4) (v := nI 4) (by decide +kernel) (by decide) ?_
      refine mV_iadd (by decide +kernel) ?_
      refine mV_scri (by decide +kernel) h.1 ?_
      replace h := h.2
      refine mV_bud (mc' := 0 + mc) (ms' := 0 + ms) (Nat.zero_add _) (Nat.zero_add _) ?_
      refine mV_cV (as := [.int (mm_xs κ ((v3 + (nI 1)).toNatClampNeg)), .int (mm_xs κ ((v3 + (nI 2)).toNatClampNeg)), .int (mm_xs κ ((v3 + (nI 3)).toNatClampNeg)), .int (mm_xs κ ((v3 + (nI 4)).toNatClampNeg))]) (rest := [.int r143]) (mc1 := 0) (ms1 := 0) (mc := mc) (ms := ms) (by decide +kernel) md_X13_suspect lk_L_156 sh_226 rfl rfl rfl (Nat.le_of_ble_eq_true rfl) (mC.mono (mm_contI (fun r145 G146 hK => ?_)) h)
      replace h := hK
      refine mV_icmp_eq (off := 160) (tgt := 1559) (by decide +kernel) (by decide) (fun hc => ?_) (fun hc => ?_)
      · replace h := h.1 hc
        refine mV_iincc (i := 3) (n := 6) (c := nI 6) (ls' := [some (.retAddr 1), some (.ref 0), some (.ref 226), some (.int (v3 + (nI 6)))]) (by decide +kernel) (by decide) rfl (Nat.le_of_ble_eq_true rfl) rfl rfl ?_
        refine mV_goto (off := -1544) (tgt := 18) (by decide +kernel) (by decide) ?_
        exact h
      · replace h := h.2 hc
        refine mV_iconst (n := 0) (v := nI 0) (by decide +kernel) (by decide) ?_
        exact mV_zret (by decide +kernel) rfl (by decide) h
    · replace h := h.2.2.2.2.2.2.2.2.2.2.2.2.2.2.2.2.2.2.2.2.2.2.2.2.2.2.2.2.2.2.2.2.2.2.1 (mm_eqI hc (by decide))
      refine mV_tabIn (dflt := 1526) (lo := 0) (hi := 38) (offs := #[171, 234, 257, 270, 283, 306, 349, 392, 445, 498, 531, 564, 597, 630, 653, 686, 709, 732, 755, 778, 831, 874, 897, 931, 981, 1014, 1047, 1090, 1143, 1186, 1219, 1262, 1275, 1318, 1371, 1414, 1457, 1480, 1503]) (len := 171) (off := 1371) (tgt := 1404) (by decide +kernel) (by rw [hc]; decide) (by rw [hc]; decide) (by rw [hc]; rfl) (by decide) ?_
      refine mV_aload_n (k := 1) (by decide +kernel) rfl ?_
      refine mV_aload_nx (k := 0) (by decide +kernel) rfl ?_
      refine mV_iload_n (k := 3) (by decide +kernel) rfl ?_
      refine mV_iconst (n := 1) (v := nI 1) (by decide +kernel) (by decide) ?_
      refine mV_iadd (by decide +kernel) ?_
      refine mV_scri (by decide +kernel) h.1 ?_
      replace h := h.2
      refine mV_aload_nx (k := 0) (by decide +kernel) rfl ?_
      refine mV_iload_n (k := 3) (by decide +kernel) rfl ?_
      refine mV_iconst (n := 2) (v := nI 2) (by decide +kernel) (by decide) ?_
      refine mV_iadd (by decide +kernel) ?_
      refine mV_scri (by decide +kernel) h.1 ?_
      replace h := h.2
      refine mV_aload_nx (k := 0) (by decide +kernel) rfl ?_
      refine mV_iload_n (k := 3) (by decide +kernel) rfl ?_
      refine mV_iconst (n := 3) (v := nI 3) (by decide +kernel) (by decide) ?_
      refine mV_iadd (by decide +kernel) ?_
      refine mV_scri (by decide +kernel) h.1 ?_
      replace h := h.2
      refine mV_bud (mc' := 0 + mc) (ms' := 0 + ms) (Nat.zero_add _) (Nat.zero_add _) ?_
      refine mV_cV (as := [.int (mm_xs κ ((v3 + (nI 1)).toNatClampNeg)), .int (mm_xs κ ((v3 + (nI 2)).toNatClampNeg)), .int (mm_xs κ ((v3 + (nI 3)).toNatClampNeg))]) (rest := []) (mc1 := 0) (ms1 := 0) (mc := mc) (ms := ms) (by decide +kernel) md_X12_next lk_L_157 sh_0 rfl rfl rfl (Nat.le_of_ble_eq_true rfl) (mC.mono (mm_contI (fun r147 G148 hK => ?_)) h)
      replace h := hK
      refine mV_aload_n (k := 2) (by decide +kernel) rfl ?_
      refine mV_aload_nx (k := 0) (by decide +kernel) rfl ?_
      refine mV_iload_n (k := 3) (by decide +kernel) rfl ?_
      refine mV_iconst (n := 1) (v := nI 1) (by decide +kernel) (by decide) ?_
      refine mV_iadd (by decide +kernel) ?_
      refine mV_scri (by decide +kernel) h.1 ?_
      replace h := h.2
      refine mV_aload_nx (k := 0) (by decide +kernel) rfl ?_
      refine mV_iload_n (k := 3) (by decide +kernel) rfl ?_
      refine mV_iconst (n := 2) (v := nI 2) (by decide +kernel) (by decide) ?_
      refine mV_iadd (by decide +kernel) ?_
      refine mV_scri (by decide +kernel) h.1 ?_
      replace h := h.2
      refine mV_aload_nx (k := 0) (by decide +kernel) rfl ?_
      refine mV_iload_n (k := 3) (by decide +kernel) rfl ?_
      refine mV_iconst (n := 3) (v := nI 3) (by decide +kernel) (by decide) ?_
      refine mV_iadd (by decide +kernel) ?_
      refine mV_scri (by decide +kernel) h.1 ?_
      replace h := h.2
      refine mV_bud (mc' := 0 + mc) (ms' := 0 + ms) (Nat.zero_add _) (Nat.zero_add _) ?_
      refine mV_cV (as := [.int (mm_xs κ ((v3 + (nI 1)).toNatClampNeg)), .int (mm_xs κ ((v3 + (nI 2)).toNatClampNeg)), .int (mm_xs κ ((v3 + (nI 3)).toNatClampNeg))]) (rest := [.int r147]) (mc1 := 0) (ms1 := 0) (mc := mc) (ms := ms) (by decide +kernel) md_X13_next lk_L_160 sh_226 rfl rfl rfl (Nat.le_of_ble_eq_true rfl) (mC.mono (mm_contI (fun r149 G150 hK => ?_)) h)
      replace h := hK
      refine mV_icmp_eq (off := 117) (tgt := 1559) (by decide +kernel) (by decide) (fun hc => ?_) (fun hc => ?_)
      · replace h := h.1 hc
        refine mV_iincc (i := 3) (n := 6) (c := nI 6) (ls' := [some (.retAddr 1), some (.ref 0), some (.ref 226), some (.int (v3 + (nI 6)))]) (by decide +kernel) (by decide) rfl (Nat.le_of_ble_eq_true rfl) rfl rfl ?_
        refine mV_goto (off := -1544) (tgt := 18) (by decide +kernel) (by decide) ?_
        exact h
      · replace h := h.2 hc
        refine mV_iconst (n := 0) (v := nI 0) (by decide +kernel) (by decide) ?_
        exact mV_zret (by decide +kernel) rfl (by decide) h
    · replace h := h.2.2.2.2.2.2.2.2.2.2.2.2.2.2.2.2.2.2.2.2.2.2.2.2.2.2.2.2.2.2.2.2.2.2.2.1 (mm_eqI hc (by decide))
      refine mV_tabIn (dflt := 1526) (lo := 0) (hi := 38) (offs := #[171, 234, 257, 270, 283, 306, 349, 392, 445, 498, 531, 564, 597, 630, 653, 686, 709, 732, 755, 778, 831, 874, 897, 931, 981, 1014, 1047, 1090, 1143, 1186, 1219, 1262, 1275, 1318, 1371, 1414, 1457, 1480, 1503]) (len := 171) (off := 1414) (tgt := 1447) (by decide +kernel) (by rw [hc]; decide) (by rw [hc]; decide) (by rw [hc]; rfl) (by decide) ?_
      refine mV_aload_n (k := 1) (by decide +kernel) rfl ?_
      refine mV_aload_nx (k := 0) (by decide +kernel) rfl ?_
      refine mV_iload_n (k := 3) (by decide +kernel) rfl ?_
      refine mV_iconst (n := 1) (v := nI 1) (by decide +kernel) (by decide) ?_
      refine mV_iadd (by decide +kernel) ?_
      refine mV_scri (by decide +kernel) h.1 ?_
      replace h := h.2
      refine mV_aload_nx (k := 0) (by decide +kernel) rfl ?_
      refine mV_iload_n (k := 3) (by decide +kernel) rfl ?_
      refine mV_iconst (n := 2) (v := nI 2) (by decide +kernel) (by decide) ?_
      refine mV_iadd (by decide +kernel) ?_
      refine mV_scri (by decide +kernel) h.1 ?_
      replace h := h.2
      refine mV_aload_nx (k := 0) (by decide +kernel) rfl ?_
      refine mV_iload_n (k := 3) (by decide +kernel) rfl ?_
      refine mV_iconst (n := 3) (v := nI 3) (by decide +kernel) (by decide) ?_
      refine mV_iadd (by decide +kernel) ?_
      refine mV_scri (by decide +kernel) h.1 ?_
      replace h := h.2
      refine mV_bud (mc' := 0 + mc) (ms' := 0 + ms) (Nat.zero_add _) (Nat.zero_add _) ?_
      refine mV_cV (as := [.int (mm_xs κ ((v3 + (nI 1)).toNatClampNeg)), .int (mm_xs κ ((v3 + (nI 2)).toNatClampNeg)), .int (mm_xs κ ((v3 + (nI 3)).toNatClampNeg))]) (rest := []) (mc1 := 0) (ms1 := 0) (mc := mc) (ms := ms) (by decide +kernel) md_X12_most lk_L_161 sh_0 rfl rfl rfl (Nat.le_of_ble_eq_true rfl) (mC.mono (mm_contI (fun r151 G152 hK => ?_)) h)
      replace h := hK
      refine mV_aload_n (k := 2) (by decide +kernel) rfl ?_
      refine mV_aload_nx (k := 0) (by decide +kernel) rfl ?_
      refine mV_iload_n (k := 3) (by decide +kernel) rfl ?_
      refine mV_iconst (n := 1) (v := nI 1) (by decide +kernel) (by decide) ?_
      refine mV_iadd (by decide +kernel) ?_
      refine mV_scri (by decide +kernel) h.1 ?_
      replace h := h.2
      refine mV_aload_nx (k := 0) (by decide +kernel) rfl ?_
      refine mV_iload_n (k := 3) (by decide +kernel) rfl ?_
      refine mV_iconst (n := 2) (v := nI 2) (by decide +kernel) (by decide) ?_
      refine mV_iadd (by decide +kernel) ?_
      refine mV_scri (by decide +kernel) h.1 ?_
      replace h := h.2
      refine mV_aload_nx (k := 0) (by decide +kernel) rfl ?_
      refine mV_iload_n (k := 3) (by decide +kernel) rfl ?_
      refine mV_iconst (n := 3) (v := nI 3) (by decide +kernel) (by decide) ?_
      refine mV_iadd (by decide +kernel) ?_
      refine mV_scri (by decide +kernel) h.1 ?_
      replace h := h.2
      refine mV_bud (mc' := 0 + mc) (ms' := 0 + ms) (Nat.zero_add _) (Nat.zero_add _) ?_
      refine mV_cV (as := [.int (mm_xs κ ((v3 + (nI 1)).toNatClampNeg)), .int (mm_xs κ ((v3 + (nI 2)).toNatClampNeg)), .int (mm_xs κ ((v3 + (nI 3)).toNatClampNeg))]) (rest := [.int r151]) (mc1 := 0) (ms1 := 0) (mc := mc) (ms := ms) (by decide +kernel) md_X13_most lk_L_164 sh_226 rfl rfl rfl (Nat.le_of_ble_eq_true rfl) (mC.mono (mm_contI (fun r153 G154 hK => ?_)) h)
      replace h := hK
      refine mV_icmp_eq (off := 74) (tgt := 1559) (by decide +kernel) (by decide) (fun hc => ?_) (fun hc => ?_)
      · replace h := h.1 hc
        refine mV_iincc (i := 3) (n := 6) (c := nI 6) (ls' := [some (.retAddr 1), some (.ref 0), some (.ref 226), some (.int (v3 + (nI 6)))]) (by decide +kernel) (by decide) rfl (Nat.le_of_ble_eq_true rfl) rfl rfl ?_
        refine mV_goto (off := -1544) (tgt := 18) (by decide +kernel) (by decide) ?_
        exact h
      · replace h := h.2 hc
        refine mV_iconst (n := 0) (v := nI 0) (by decide +kernel) (by decide) ?_
        exact mV_zret (by decide +kernel) rfl (by decide) h
    · replace h := h.2.2.2.2.2.2.2.2.2.2.2.2.2.2.2.2.2.2.2.2.2.2.2.2.2.2.2.2.2.2.2.2.2.2.2.2.1 (mm_eqI hc (by decide))
      refine mV_tabIn (dflt := 1526) (lo := 0) (hi := 38) (offs := #[171, 234, 257, 270, 283, 306, 349, 392, 445, 498, 531, 564, 597, 630, 653, 686, 709, 732, 755, 778, 831, 874, 897, 931, 981, 1014, 1047, 1090, 1143, 1186, 1219, 1262, 1275, 1318, 1371, 1414, 1457, 1480, 1503]) (len := 171) (off := 1457) (tgt := 1490) (by decide +kernel) (by rw [hc]; decide) (by rw [hc]; decide) (by rw [hc]; rfl) (by decide) ?_
      refine mV_aload_n (k := 1) (by decide +kernel) rfl ?_
      refine mV_aload_nx (k := 0) (by decide +kernel) rfl ?_
      refine mV_iload_n (k := 3) (by decide +kernel) rfl ?_
      refine mV_iconst (n := 1) (v := nI 1) (by decide +kernel) (by decide) ?_
      refine mV_iadd (by decide +kernel) ?_
      refine mV_scri (by decide +kernel) h.1 ?_
      replace h := h.2
      refine mV_bud (mc' := 0 + mc) (ms' := 0 + ms) (Nat.zero_add _) (Nat.zero_add _) ?_
      refine mV_cV (as := [.int (mm_xs κ ((v3 + (nI 1)).toNatClampNeg))]) (rest := []) (mc1 := 0) (ms1 := 0) (mc := mc) (ms := ms) (by decide +kernel) md_X12_hold lk_L_165 sh_0 rfl rfl rfl (Nat.le_of_ble_eq_true rfl) (mC.mono (mm_contI (fun r155 G156 hK => ?_)) h)
      replace h := hK
      refine mV_aload_n (k := 2) (by decide +kernel) rfl ?_
      refine mV_aload_nx (k := 0) (by decide +kernel) rfl ?_
      refine mV_iload_n (k := 3) (by decide +kernel) rfl ?_
      refine mV_iconst (n := 1) (v := nI 1) (by decide +kernel) (by decide) ?_
      refine mV_iadd (by decide +kernel) ?_
      refine mV_scri (by decide +kernel) h.1 ?_
      replace h := h.2
      refine mV_bud (mc' := 0 + mc) (ms' := 0 + ms) (Nat.zero_add _) (Nat.zero_add _) ?_
      refine mV_cV (as := [.int (mm_xs κ ((v3 + (nI 1)).toNatClampNeg))]) (rest := [.int r155]) (mc1 := 0) (ms1 := 0) (mc := mc) (ms := ms) (by decide +kernel) md_X13_hold lk_L_169 sh_226 rfl rfl rfl (Nat.le_of_ble_eq_true rfl) (mC.mono (mm_contI (fun r157 G158 hK => ?_)) h)
      replace h := hK
      refine mV_icmp_eq (off := 51) (tgt := 1559) (by decide +kernel) (by decide) (fun hc => ?_) (fun hc => ?_)
      · replace h := h.1 hc
        refine mV_iincc (i := 3) (n := 6) (c := nI 6) (ls' := [some (.retAddr 1), some (.ref 0), some (.ref 226), some (.int (v3 + (nI 6)))]) (by decide +kernel) (by decide) rfl (Nat.le_of_ble_eq_true rfl) rfl rfl ?_
        refine mV_goto (off := -1544) (tgt := 18) (by decide +kernel) (by decide) ?_
        exact h
      · replace h := h.2 hc
        refine mV_iconst (n := 0) (v := nI 0) (by decide +kernel) (by decide) ?_
        exact mV_zret (by decide +kernel) rfl (by decide) h
    · replace h := h.2.2.2.2.2.2.2.2.2.2.2.2.2.2.2.2.2.2.2.2.2.2.2.2.2.2.2.2.2.2.2.2.2.2.2.2.2.1 (mm_eqI hc (by decide))
      refine mV_tabIn (dflt := 1526) (lo := 0) (hi := 38) (offs := #[171, 234, 257, 270, 283, 306, 349, 392, 445, 498, 531, 564, 597, 630, 653, 686, 709, 732, 755, 778, 831, 874, 897, 931, 981, 1014, 1047, 1090, 1143, 1186, 1219, 1262, 1275, 1318, 1371, 1414, 1457, 1480, 1503]) (len := 171) (off := 1480) (tgt := 1513) (by decide +kernel) (by rw [hc]; decide) (by rw [hc]; decide) (by rw [hc]; rfl) (by decide) ?_
      refine mV_aload_n (k := 1) (by decide +kernel) rfl ?_
      refine mV_aload_nx (k := 0) (by decide +kernel) rfl ?_
      refine mV_iload_n (k := 3) (by decide +kernel) rfl ?_
      refine mV_iconst (n := 1) (v := nI 1) (by decide +kernel) (by decide) ?_
      refine mV_iadd (by decide +kernel) ?_
      refine mV_scri (by decide +kernel) h.1 ?_
      replace h := h.2
      refine mV_bud (mc' := 0 + mc) (ms' := 0 + ms) (Nat.zero_add _) (Nat.zero_add _) ?_
      refine mV_cV (as := [.int (mm_xs κ ((v3 + (nI 1)).toNatClampNeg))]) (rest := []) (mc1 := 0) (ms1 := 0) (mc := mc) (ms := ms) (by decide +kernel) md_X12_restore lk_L_170 sh_0 rfl rfl rfl (Nat.le_of_ble_eq_true rfl) (mC.mono (mm_contI (fun r159 G160 hK => ?_)) h)
      replace h := hK
      refine mV_aload_n (k := 2) (by decide +kernel) rfl ?_
      refine mV_aload_nx (k := 0) (by decide +kernel) rfl ?_
      refine mV_iload_n (k := 3) (by decide +kernel) rfl ?_
      refine mV_iconst (n := 1) (v := nI 1) (by decide +kernel) (by decide) ?_
      refine mV_iadd (by decide +kernel) ?_
      refine mV_scri (by decide +kernel) h.1 ?_
      replace h := h.2
      refine mV_bud (mc' := 0 + mc) (ms' := 0 + ms) (Nat.zero_add _) (Nat.zero_add _) ?_
      refine mV_cV (as := [.int (mm_xs κ ((v3 + (nI 1)).toNatClampNeg))]) (rest := [.int r159]) (mc1 := 0) (ms1 := 0) (mc := mc) (ms := ms) (by decide +kernel) md_X13_restore lk_L_173 sh_226 rfl rfl rfl (Nat.le_of_ble_eq_true rfl) (mC.mono (mm_contI (fun r161 G162 hK => ?_)) h)
      replace h := hK
      refine mV_icmp_eq (off := 28) (tgt := 1559) (by decide +kernel) (by decide) (fun hc => ?_) (fun hc => ?_)
      · replace h := h.1 hc
        refine mV_iincc (i := 3) (n := 6) (c := nI 6) (ls' := [some (.retAddr 1), some (.ref 0), some (.ref 226), some (.int (v3 + (nI 6)))]) (by decide +kernel) (by decide) rfl (Nat.le_of_ble_eq_true rfl) rfl rfl ?_
        refine mV_goto (off := -1544) (tgt := 18) (by decide +kernel) (by decide) ?_
        exact h
      · replace h := h.2 hc
        refine mV_iconst (n := 0) (v := nI 0) (by decide +kernel) (by decide) ?_
        exact mV_zret (by decide +kernel) rfl (by decide) h
    · replace h := h.2.2.2.2.2.2.2.2.2.2.2.2.2.2.2.2.2.2.2.2.2.2.2.2.2.2.2.2.2.2.2.2.2.2.2.2.2.2.1 (mm_eqI hc (by decide))
      refine mV_tabIn (dflt := 1526) (lo := 0) (hi := 38) (offs := #[171, 234, 257, 270, 283, 306, 349, 392, 445, 498, 531, 564, 597, 630, 653, 686, 709, 732, 755, 778, 831, 874, 897, 931, 981, 1014, 1047, 1090, 1143, 1186, 1219, 1262, 1275, 1318, 1371, 1414, 1457, 1480, 1503]) (len := 171) (off := 1503) (tgt := 1536) (by decide +kernel) (by rw [hc]; decide) (by rw [hc]; decide) (by rw [hc]; rfl) (by decide) ?_
      refine mV_aload_n (k := 1) (by decide +kernel) rfl ?_
      refine mV_aload_nx (k := 0) (by decide +kernel) rfl ?_
      refine mV_iload_n (k := 3) (by decide +kernel) rfl ?_
      refine mV_iconst (n := 1) (v := nI 1) (by decide +kernel) (by decide) ?_
      refine mV_iadd (by decide +kernel) ?_
      refine mV_scri (by decide +kernel) h.1 ?_
      replace h := h.2
      refine mV_bud (mc' := 0 + mc) (ms' := 0 + ms) (Nat.zero_add _) (Nat.zero_add _) ?_
      refine mV_cV (as := [.int (mm_xs κ ((v3 + (nI 1)).toNatClampNeg))]) (rest := []) (mc1 := 0) (ms1 := 0) (mc := mc) (ms := ms) (by decide +kernel) md_X12_count lk_L_174 sh_0 rfl rfl rfl (Nat.le_of_ble_eq_true rfl) (mC.mono (mm_contI (fun r163 G164 hK => ?_)) h)
      replace h := hK
      refine mV_aload_n (k := 2) (by decide +kernel) rfl ?_
      refine mV_aload_nx (k := 0) (by decide +kernel) rfl ?_
      refine mV_iload_n (k := 3) (by decide +kernel) rfl ?_
      refine mV_iconst (n := 1) (v := nI 1) (by decide +kernel) (by decide) ?_
      refine mV_iadd (by decide +kernel) ?_
      refine mV_scri (by decide +kernel) h.1 ?_
      replace h := h.2
      refine mV_bud (mc' := 0 + mc) (ms' := 0 + ms) (Nat.zero_add _) (Nat.zero_add _) ?_
      refine mV_cV (as := [.int (mm_xs κ ((v3 + (nI 1)).toNatClampNeg))]) (rest := [.int r163]) (mc1 := 0) (ms1 := 0) (mc := mc) (ms := ms) (by decide +kernel) md_X13_count lk_L_177 sh_226 rfl rfl rfl (Nat.le_of_ble_eq_true rfl) (mC.mono (mm_contI (fun r165 G166 hK => ?_)) h)
      replace h := hK
      refine mV_icmp_eq (off := 5) (tgt := 1559) (by decide +kernel) (by decide) (fun hc => ?_) (fun hc => ?_)
      · replace h := h.1 hc
        refine mV_iincc (i := 3) (n := 6) (c := nI 6) (ls' := [some (.retAddr 1), some (.ref 0), some (.ref 226), some (.int (v3 + (nI 6)))]) (by decide +kernel) (by decide) rfl (Nat.le_of_ble_eq_true rfl) rfl rfl ?_
        refine mV_goto (off := -1544) (tgt := 18) (by decide +kernel) (by decide) ?_
        exact h
      · replace h := h.2 hc
        refine mV_iconst (n := 0) (v := nI 0) (by decide +kernel) (by decide) ?_
        exact mV_zret (by decide +kernel) rfl (by decide) h
