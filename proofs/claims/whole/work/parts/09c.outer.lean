/-! what lies outside the world: the constant text, two statics, the script -/
section EX
variable {l : Launch} {κ : mm_K} {ph : Bool} {d mc ms : Nat} {y : mm_Y} {pc : Nat} {ls : List (Option Value)} {st : List Value} {G : mm_G} {Q : Option Value → mm_G → Prop}
theorem mm_vd.x {n k : Nat} {st : List Value} (h : mm_vd n st) : mm_vd n (.retAddr k :: st) := fun a ha => by
  rcases List.mem_cons.mp ha with q | q
  · cases q
  · exact h a q
theorem mV_i2c {a : Int32} (hd : decode y.2.1 pc = .ok (.i2c, 1)) (kk : mV l κ ph d mc ms y (pc + 1) ls (.int (a.toUInt32 % 65536).toInt32 :: st) G Q) : mV l κ ph d mc ms y pc ls (.int a :: st) G Q :=
  mV.go (fun n hl h => h.tl.i) (fun p e s m args below meth c H locs cells slots R Q' arr X hL k => lv_i2c X.1 X.2.1 hd rfl k) kk
theorem mV_aload_nx {k : Fin 4} {n : Nat} (hd : decode y.2.1 pc = .ok (.aload_n k, 1)) (h0 : ls[(k : Nat)]? = some (some (.retAddr n))) (kk : mV l κ ph d mc ms y (pc + 1) ls (.retAddr n :: st) G Q) : mV l κ ph d mc ms y pc ls st G Q :=
  mV.go (fun n hl h => h.x) (fun p e s m args below meth c H locs cells slots R Q' arr X hL k => lv_aload_n X.1 X.2.1 hd rfl (hL.2.2 _ _ h0) k) kk
theorem mV_ldcS (hd : decode y.2.1 pc = .ok (.ldc 28, 2)) (hy : y.1.cls = RX10) (kk : mV l κ ph d mc ms y (pc + 2) ls (.retAddr 0 :: st) G Q) : mV l κ ph d mc ms y pc ls st G Q :=
  mV.go (fun n hl h => h.x) (fun p e s m args below meth c H locs cells slots R Q' arr X hL k => va_ldcS X.1 X.2.1 X.2.2.2.2.2.1 (by rw [hy]; exact X.2.2.2.2.2.2.2.2.2.2.1) hd k) kk
theorem mV_svalue (hd : decode y.2.1 pc = .ok (.getfield 9, 3)) (hl : Cond.fieldLink y.1.cls 9 "java/lang/String" "value" "[B" ∈ lw_tbl) (kk : mV l κ ph d mc ms y (pc + 3) ls (.retAddr 3 :: st) G Q) : mV l κ ph d mc ms y pc ls (.retAddr 0 :: st) G Q := by
  intro p e s m args below meth c H locs cells slots R arr Q' X h1 h2 hR hT hH hS hL hvl hvd
  exact vk_getf X.1 X.2.1 (X.2.2.2.2.2.2.2.2.2.1.1 0 (by omega)).2.2.1 hS X.2.2.2.2.2.1 (X.2.2.2.2.2.2.2.1 _ (mm_g hl rfl)) (fun _ h => h) hd (kk p e s m args below meth c H locs cells slots R arr Q' X h1 h2 hR hT hH hS hL hvl hvd.tl.x)
theorem mV_scoder (hd : decode y.2.1 pc = .ok (.getfield 15, 3)) (hl : Cond.fieldLink y.1.cls 15 "java/lang/String" "coder" "B" ∈ lw_tbl) (kk : mV l κ ph d mc ms y (pc + 3) ls (.int 0 :: st) G Q) : mV l κ ph d mc ms y pc ls (.retAddr 0 :: st) G Q := by
  intro p e s m args below meth c H locs cells slots R arr Q' X h1 h2 hR hT hH hS hL hvl hvd
  exact vk_getf X.1 X.2.1 (X.2.2.2.2.2.2.2.2.2.1.1 0 (by omega)).2.1 hS X.2.2.2.2.2.1 (X.2.2.2.2.2.2.2.1 _ (mm_g hl rfl)) (fun _ h => h) hd (kk p e s m args below meth c H locs cells slots R arr Q' X h1 h2 hR hT hH hS hL hvl hvd.tl.i)
theorem mV_slen (hd : decode y.2.1 pc = .ok (.arraylength, 1)) (kk : mV l κ ph d mc ms y (pc + 1) ls (.int (nI 79) :: st) G Q) : mV l κ ph d mc ms y pc ls (.retAddr 3 :: st) G Q := by
  intro p e s m args below meth c H locs cells slots R arr Q' X h1 h2 hR hT hH hS hL hvl hvd
  obtain ⟨cell, q1, q2, q3, q4, q5, q6, q7⟩ := (X.2.2.2.2.2.2.2.2.2.1.1 0 (by omega)).2.2.2.kept hS.2.1
  exact W.alen X.1 X.2.1 q1 q2 q5 rfl rfl hd (kk p e s m args below meth c H locs cells slots R arr Q' X h1 h2 hR hT hH hS hL hvl hvd.tl.i)
theorem mV_sbal {j : Int32} (hd : decode y.2.1 pc = .ok (.baload, 1)) (hj : vp_in j 79) (kk : mV l κ ph d mc ms y (pc + 1) ls (.int (mm_byt.getD j.toNatClampNeg 0) :: st) G Q) : mV l κ ph d mc ms y pc ls (.int j :: .retAddr 3 :: st) G Q := by
  intro p e s m args below meth c H locs cells slots R arr Q' X h1 h2 hR hT hH hS hL hvl hvd
  obtain ⟨cell, q1, q2, q3, q4, q5, q6, q7⟩ := (X.2.2.2.2.2.2.2.2.2.1.1 0 (by omega)).2.2.2.kept hS.2.1
  have hlt := mm_ixlt hj
  have q4' : 79 ≤ cell.slots.size := q4
  exact W.bald X.1 X.2.1 q1 q2 q3 (fun z => z.elim (fun z => hj (Or.inl z)) (fun z => by omega)) (q6 _ hlt) rfl rfl hd (kk p e s m args below meth c H locs cells slots R arr Q' X h1 h2 hR hT hH hS hL hvl hvd.tl.tl.i)
theorem mV_gsC {idx : Nat} (hd : decode y.2.1 pc = .ok (.getstatic idx, 3)) (hl : Cond.fieldLink y.1.cls idx "java/lang/String" "COMPACT_STRINGS" "Z" ∈ lw_tbl) (kk : mV l κ ph d mc ms y (pc + 3) ls (.int 1 :: st) G Q) : mV l κ ph d mc ms y pc ls st G Q := by
  intro p e s m args below meth c H locs cells slots R arr Q' X h1 h2 hR hT hH hS hL hvl hvd
  exact va_gets X.1 X.2.1 X.2.2.2.2.2.2.2.2.2.2.2.1 hS X.2.2.2.2.2.1 (X.2.2.2.2.2.2.2.1 _ (mm_g hl rfl)) (fun _ h => h) hd (kk p e s m args below meth c H locs cells slots R arr Q' X h1 h2 hR hT hH hS hL hvl hvd.i)
theorem mV_gsF {idx : Nat} (hd : decode y.2.1 pc = .ok (.getstatic idx, 3)) (hl : Cond.fieldLink y.1.cls idx "jdk/internal/util/Preconditions" "SIOOBE_FORMATTER" "Ljava/util/function/BiFunction;" ∈ lw_tbl) (k1 : mV l κ ph d mc ms y (pc + 3) ls (.null :: st) G Q) (k2 : mV l κ ph d mc ms y (pc + 3) ls (.retAddr 4 :: st) G Q) : mV l κ ph d mc ms y pc ls st G Q := by
  intro p e s m args below meth c H locs cells slots R arr Q' X h1 h2 hR hT hH hS hL hvl hvd
  rcases X.2.2.2.2.2.2.2.2.2.2.2.2.1 with z | z
  · exact va_gets X.1 X.2.1 z hS X.2.2.2.2.2.1 (X.2.2.2.2.2.2.2.1 _ (mm_g hl rfl)) (fun _ h => h) hd (k1 p e s m args below meth c H locs cells slots R arr Q' X h1 h2 hR hT hH hS hL hvl hvd.z)
  · exact va_gets X.1 X.2.1 z hS X.2.2.2.2.2.1 (X.2.2.2.2.2.2.2.1 _ (mm_g hl rfl)) (fun _ h => h) hd (k2 p e s m args below meth c H locs cells slots R arr Q' X h1 h2 hR hT hH hS hL hvl hvd.x)
theorem mV_scrl (hd : decode y.2.1 pc = .ok (.arraylength, 1)) (kk : mV l κ ph d mc ms y (pc + 1) ls (.int (nI (κ.2.2 11)) :: st) G Q) : mV l κ ph d mc ms y pc ls (.retAddr 1 :: st) G Q := by
  intro p e s m args below meth c H locs cells slots R arr Q' X h1 h2 hR hT hH hS hL hvl hvd
  have hE := X.2.2.2.2.2.2.2.2.2.2.2.2.2
  exact va_slen X.1 X.2.1 hE.1 (Nat.lt_of_lt_of_le hE.2.1 hE.2.2) (Nat.not_le.mpr hE.2.1) hS hd (kk p e s m args below meth c H locs cells slots R arr Q' X h1 h2 hR hT hH hS hL hvl hvd.tl.i)
theorem mV_scri {j : Int32} (hd : decode y.2.1 pc = .ok (.iaload, 1)) (hj : vp_in j (κ.2.2 11)) (kk : mV l κ ph d mc ms y (pc + 1) ls (.int (mm_xs κ j.toNatClampNeg) :: st) G Q) : mV l κ ph d mc ms y pc ls (.int j :: .retAddr 1 :: st) G Q := by
  intro p e s m args below meth c H locs cells slots R arr Q' X h1 h2 hR hT hH hS hL hvl hvd
  have hE := X.2.2.2.2.2.2.2.2.2.2.2.2.2
  exact va_sld X.1 X.2.1 hE.1 (Nat.lt_of_lt_of_le hE.2.1 hE.2.2) (Nat.not_le.mpr hE.2.1) hS hj hd (kk p e s m args below meth c H locs cells slots R arr Q' X h1 h2 hR hT hH hS hL hvl hvd.tl.tl.i)
theorem mV_newx {idx ci N n0 : Nat} {C : String} {T : u_T} (hd : decode y.2.1 pc = .ok (.new idx, 3)) (hn : mg_n G = n0) (hcl : Cond.classLink y.1.cls idx C ∈ lw_tbl) (hins : Cond.instantiable C N ∈ lw_tbl) (hini : Cond.initialized C ∈ lw_tbl) (hc : vwCl[ci]? = some (C, T, N)) (hs : mm_sh n0 = (0, ci, N)) (hst : ∀ k, mm_st ph n0 k = none)
    (kk : mV l κ ph d mc ms y (pc + 3) ls (.ref n0 :: st) (mg_b G 1) Q) : mV l κ ph d (1 + mc) (N + ms) y pc ls st G Q := by
  subst hn; exact mV_new hd hcl hins hini hc hs hst kk
theorem mV_newax {at0 : ArrayType} {t len n0 : Nat} {n : Int32} (hd : decode y.2.1 pc = .ok (.newarray at0, 2)) (hnn : mg_n G = n0) (hty : newarray.typeOf at0 = mm_aty t) (ht : t < 4) (hcl : Cond.arrayClass (mm_aty t) ∈ lw_tbl) (hn : ¬ n < 0) (hN : n.toNatClampNeg = len) (hl : len ≤ 10000) (hs : mm_sh n0 = (1, t, len)) (hst : ∀ k, mm_st ph n0 k = none)
    (kk : mV l κ ph d mc ms y (pc + 2) ls (.ref n0 :: st) (mg_b G 1) Q) : mV l κ ph d (1 + mc) (len + ms) y pc ls (.int n :: st) G Q := by
  subst hnn; exact mV_newa hd hty ht hcl hn hN hl hs hst kk
theorem mV_anewx {idx t len n0 : Nat} {n : Int32} {C : String} (hd : decode y.2.1 pc = .ok (.anewarray idx, 3)) (hnn : mg_n G = n0) (hC : mm_aty t = .object C) (ht : 4 ≤ t ∧ t < 8) (hcl : Cond.classLink y.1.cls idx C ∈ lw_tbl) (hCm : C ∈ [RX0, RX1, RX6, RX7]) (hn : ¬ n < 0) (hN : n.toNatClampNeg = len) (hl : len ≤ 10000) (hs : mm_sh n0 = (1, t, len)) (hst : ∀ k, mm_st ph n0 k = none)
    (kk : mV l κ ph d mc ms y (pc + 3) ls (.ref n0 :: st) (mg_b G 1) Q) : mV l κ ph d (1 + mc) (len + ms) y pc ls (.int n :: st) G Q := by
  subst hnn; exact mV_anew hd hC ht hcl hCm hn hN hl hs hst kk
end EX
section CX
variable {l : Launch} {κ : mm_K} {ph : Bool} {d mc ms mc1 ms1 : Nat} {y y2 : mm_Y} {pc : Nat} {ls : List (Option Value)} {st rest as : List Value} {G : mm_G} {Q : Option Value → mm_G → Prop}
/-- a call on the constant text -/
theorem mV_cVs {n idx : Nat} (hd : decode y.2.1 pc = .ok (.invokevirtual idx, 3)) (hm : mm_md y2 n) (hl : mm_lv y.1.cls idx y2) (hcls : y2.1.cls = "java/lang/String") (hn : as.length = n) (hst : st = as.reverse ++ .retAddr 0 :: rest) (hcat : (rest.map fun v => v.category).sum ≤ 8)
    (kk : mC l κ ph d mc1 ms1 y2 (.retAddr 0 :: as) G (fun v G' => mV l κ ph (d + 1) mc ms y (pc + 3) ls (v.toList ++ rest) G' Q)) : mV l κ ph (d + 1) (mc1 + mc) (ms1 + ms) y pc ls st G Q := by
  intro p e s m args below meth c H locs cells slots R arr Q' X h1 h2 hR hT hH hS hL hvl hvd
  subst hst
  have hts := X.2.2.2.2.2.2.2.1
  obtain ⟨cell, q1, q2, q3, -⟩ := (X.2.2.2.2.2.2.2.2.2.1.1 0 (by omega)).1.kept hS.2.1
  rw [mm_rvs]
  refine mm_cont (G := G) (Q1 := fun v G' => mV l κ ph (d + 1) mc ms y (pc + 3) ls (v.toList ++ rest) G' Q) (va_runV (Ts := mm_gt) (As := as.map (mm_rv κ)) (rest := rest.map (mm_rv κ)) ⟨X.1, X.2.1, X.2.2.1, X.2.2.2.2.2.1, hts⟩ kk ⟨mm_CB X hR hm hl.1, hts _ (mm_g hl.2.1 rfl), hts _ (mm_g hl.2.2 rfl)⟩ ⟨mm_blind, ⟨cell, q1, q2, by rw [hcls]; exact q3⟩, fun U hU hW => ⟨rfl, by rw [hU]; exact hH, mm_Kn.warm hW X.2.2.2.2.2.2.2.2.1, mm_E.go hW (by rw [hU]; exact hS.1) (fun a h1 h2 => by rw [hU]; exact hS.2.1 a h1 h2) X.2.2.2.2.2.2.2.2.2, fun a ha => ?_⟩⟩ rfl (by rw [List.length_map]; exact hn) hL.1 rfl (lv_room (by rw [mm_cat]; exact hcat)) hd ⟨?_, ?_⟩) hH hS (fun v G' H1 locs1 hq hH1 hS1 hgn hv1 => ?_)
  · rcases List.mem_cons.mp ha with e1 | e1
    · cases e1
    · exact hvd a (by simp [e1])
  · omega
  · omega
  · exact hq p e s m args below meth c H1 locs1 _ _ R arr Q' X (by omega) (by omega) hR hT hH1 hS1 hL (hvl.mono hgn) (fun a ha => by
      rcases List.mem_append.mp ha with e1 | e1
      · exact hv1 a e1
      · exact Nat.lt_of_lt_of_le (hvd a (by simp [e1])) hgn)
end CX
theorem mV_mnax {l : Launch} {κ : mm_K} {d mc ms : Nat} {y : mm_Y} {pc : Nat} {ls : List (Option Value)} {st : List Value} {G : mm_G} {Q : Option Value → mm_G → Prop} {idx N K n0 : Nat} {n k : Int32} (hd : decode y.2.1 pc = .ok (.multianewarray idx 2, 4)) (hnn : mg_n G = n0) (hcl : Cond.classLink y.1.cls idx ("[" ++ (FieldType.array .int).toString) ∈ lw_tbl) (harr : Cond.arrayClass .int ∈ lw_tbl) (hn : ¬ n < 0) (hk : ¬ k < 0) (hN : n.toNatClampNeg = N) (hK : k.toNatClampNeg = K) (hb : N ≤ 1000 ∧ K ≤ 1000)
    (hs : mm_sh n0 = (1, 8, N)) (hs2 : ∀ j, j < N → mm_sh (n0 + 1 + j) = (1, 0, K)) (kk : mV l κ false d mc ms y (pc + 4) ls (.ref n0 :: st) (mm_fillr G N) Q) : mV l κ false d (1 + N + mc) (N + N * K + ms) y pc ls (.int k :: .int n :: st) G Q := by
  subst hnn; exact mV_mna hd hcl harr hn hk hN hK hb hs hs2 kk
