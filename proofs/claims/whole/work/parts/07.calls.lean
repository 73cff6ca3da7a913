theorem mm_goodIn {y : mm_Y} {n : Nat} (h : mm_md y n) : GoodIn mm_gt (mm_wd y) := by
  intro w hw
  rcases List.mem_cons.mp hw with e | e
  · rw [e]; exact ⟨mm_g h.1 rfl, good_of_word rfl⟩
  · exact ⟨e, good_of_word (List.mem_filter.mp e).2⟩
def rI (K : Int32 → mm_G → Prop) : Option Value → mm_G → Prop := fun v G => ∃ r, v = some (.int r) ∧ K r G
def rL (K : Int64 → mm_G → Prop) : Option Value → mm_G → Prop := fun v G => ∃ r, v = some (.long r) ∧ K r G
def rV (K : mm_G → Prop) : Option Value → mm_G → Prop := fun v G => v = none ∧ K G
section AR
variable {l : Launch} {κ : mm_K} {ph : Bool} {d mc ms : Nat} {y : mm_Y} {pc : Nat} {ls : List (Option Value)} {st : List Value} {G : mm_G} {Q : Option Value → mm_G → Prop}
theorem mm_arr {κ : mm_K} {s : State} (hK : mm_Kn κ s) {t : Nat} (ht : t < 9) : ArrOfT s (κ.2.2 t) (mm_aty t) ∧ va_RA s (κ.2.2 t) (mm_aty t) := hK.1.2 t _ (mm_tys_at κ ht)
theorem mV_ial {o len : Nat} {j : Int32} (hd : decode y.2.1 pc = .ok (.iaload, 1)) (hs : mm_sh o = (1, 0, len)) (hj : vp_in j len) (kk : mV l κ ph d mc ms y (pc + 1) ls (.int (mg_i G o j.toNatClampNeg) :: st) G Q) : mV l κ ph d mc ms y pc ls (.int j :: .ref o :: st) G Q := by
  intro p e s m args below meth c H locs cells slots R arr Q' X h1 h2 hR hT hH hS hL hvl hvd
  have hlt : j.toNatClampNeg < len := Nat.not_le.mp fun q => hj (Or.inr q)
  have ho : o < mg_n G := hvd o (List.mem_cons_of_mem _ List.mem_cons_self)
  exact W.iald X.1 X.2.1 ((hH.1 o ho).arr hs) ((mm_arr X.2.2.2.2.2.2.2.2.1 (t := 0) (by omega)).1 len _) (fun q => by cases q) (by rw [arrV_size]; exact hj) (by rw [arrV_read _ _ hlt, mm_sv_0 (mm_kd_arr hs)]; rfl) rfl rfl hd (kk p e s m args below meth c H locs cells slots R arr Q' X h1 h2 hR hT hH hS hL hvl (hvd.tl.tl.i))
theorem mV_bal {o len : Nat} {j : Int32} (hd : decode y.2.1 pc = .ok (.baload, 1)) (hs : mm_sh o = (1, 1, len)) (hj : vp_in j len) (kk : mV l κ ph d mc ms y (pc + 1) ls (.int (mg_i G o j.toNatClampNeg) :: st) G Q) : mV l κ ph d mc ms y pc ls (.int j :: .ref o :: st) G Q := by
  intro p e s m args below meth c H locs cells slots R arr Q' X h1 h2 hR hT hH hS hL hvl hvd
  have hlt : j.toNatClampNeg < len := Nat.not_le.mp fun q => hj (Or.inr q)
  have ho : o < mg_n G := hvd o (List.mem_cons_of_mem _ List.mem_cons_self)
  exact W.bald X.1 X.2.1 ((hH.1 o ho).arr hs) ((mm_arr X.2.2.2.2.2.2.2.2.1 (t := 1) (by omega)).1 len _) (fun q => by cases q) (by rw [arrV_size]; exact hj) (by rw [arrV_read _ _ hlt, mm_sv_0 (mm_kd_arr hs)]; rfl) rfl rfl hd (kk p e s m args below meth c H locs cells slots R arr Q' X h1 h2 hR hT hH hS hL hvl (hvd.tl.tl.i))
theorem mV_zal {o len : Nat} {j : Int32} (hd : decode y.2.1 pc = .ok (.baload, 1)) (hs : mm_sh o = (1, 2, len)) (hj : vp_in j len) (kk : mV l κ ph d mc ms y (pc + 1) ls (.int (mg_i G o j.toNatClampNeg) :: st) G Q) : mV l κ ph d mc ms y pc ls (.int j :: .ref o :: st) G Q := by
  intro p e s m args below meth c H locs cells slots R arr Q' X h1 h2 hR hT hH hS hL hvl hvd
  have hlt : j.toNatClampNeg < len := Nat.not_le.mp fun q => hj (Or.inr q)
  have ho : o < mg_n G := hvd o (List.mem_cons_of_mem _ List.mem_cons_self)
  exact W.zald X.1 X.2.1 ((hH.1 o ho).arr hs) ((mm_arr X.2.2.2.2.2.2.2.2.1 (t := 2) (by omega)).1 len _) (fun q => by cases q) (by rw [arrV_size]; exact hj) (by rw [arrV_read _ _ hlt, mm_sv_0 (mm_kd_arr hs)]; rfl) rfl rfl hd (kk p e s m args below meth c H locs cells slots R arr Q' X h1 h2 hR hT hH hS hL hvl (hvd.tl.tl.i))
theorem mV_lal {o len : Nat} {j : Int32} (hd : decode y.2.1 pc = .ok (.laload, 1)) (hs : mm_sh o = (1, 3, len)) (hj : vp_in j len) (kk : mV l κ ph d mc ms y (pc + 1) ls (.long (mg_l G o j.toNatClampNeg) :: st) G Q) : mV l κ ph d mc ms y pc ls (.int j :: .ref o :: st) G Q := by
  intro p e s m args below meth c H locs cells slots R arr Q' X h1 h2 hR hT hH hS hL hvl hvd
  have hlt : j.toNatClampNeg < len := Nat.not_le.mp fun q => hj (Or.inr q)
  have ho : o < mg_n G := hvd o (List.mem_cons_of_mem _ List.mem_cons_self)
  exact W.lald X.1 X.2.1 ((hH.1 o ho).arr hs) ((mm_arr X.2.2.2.2.2.2.2.2.1 (t := 3) (by omega)).1 len _) (fun q => by cases q) (by rw [arrV_size]; exact hj) (by rw [arrV_read _ _ hlt, mm_sv_1 (mm_kd_arr hs)]; rfl) rfl rfl hd (kk p e s m args below meth c H locs cells slots R arr Q' X h1 h2 hR hT hH hS hL hvl (hvd.tl.tl.l))
/-- an element of an array of references -/
theorem mV_aal {o len t : Nat} {j : Int32} {r : Option Nat} {v : Value} (hd : decode y.2.1 pc = .ok (.aaload, 1)) (hs : mm_sh o = (1, t, len)) (ht : 4 ≤ t ∧ t < 9) (hj : vp_in j len) (hr : mm_rr ph G o j.toNatClampNeg = r) (hv : va_rf r = v) (kk : mV l κ ph d mc ms y (pc + 1) ls (v :: st) G Q) : mV l κ ph d mc ms y pc ls (.int j :: .ref o :: st) G Q := by
  intro p e s m args below meth c H locs cells slots R arr Q' X h1 h2 hR hT hH hS hL hvl hvd
  subst hv; subst hr
  have hlt : j.toNatClampNeg < len := Nat.not_le.mp fun q => hj (Or.inr q)
  have ho : o < mg_n G := hvd o (List.mem_cons_of_mem _ List.mem_cons_self)
  have hk : mm_kd o j.toNatClampNeg = 2 := by rw [mm_kd_arr hs]; unfold mm_ak; rw [if_neg (by omega), if_neg (by omega)]
  have href : (mm_aty t).isReference = true := by
    obtain ⟨a1, a2⟩ := ht
    rcases (show t = 4 ∨ t = 5 ∨ t = 6 ∨ t = 7 ∨ t = 8 by omega) with e | e | e | e | e <;> subst e <;> rfl
  exact W.aald (ty := mm_aty t) X.1 X.2.1 ((hH.1 o ho).arr hs) ((mm_arr X.2.2.2.2.2.2.2.2.1 (t := t) ht.2).1 len _) href (fun q => by cases q) (by rw [arrV_size]; exact hj) (by rw [arrV_read _ _ hlt, mm_sv_2 hk]) rfl rfl hd (kk p e s m args below meth c H locs cells slots R arr Q' X h1 h2 hR hT hH hS hL hvl (hvd.tl.tl.c (mm_rr_vd hH _ _)))
theorem mV_alen {o len t : Nat} {v : Int32} (hd : decode y.2.1 pc = .ok (.arraylength, 1)) (hs : mm_sh o = (1, t, len)) (ht : t < 9) (hv : len.toInt32 = v) (kk : mV l κ ph d mc ms y (pc + 1) ls (.int v :: st) G Q) : mV l κ ph d mc ms y pc ls (.ref o :: st) G Q := by
  intro p e s m args below meth c H locs cells slots R arr Q' X h1 h2 hR hT hH hS hL hvl hvd
  have ho : o < mg_n G := hvd o List.mem_cons_self
  exact W.alen X.1 X.2.1 ((hH.1 o ho).arr hs) ((mm_arr X.2.2.2.2.2.2.2.2.1 (t := t) ht).1 len _) (by rw [arrV_size]; exact hv) rfl rfl hd (kk p e s m args below meth c H locs cells slots R arr Q' X h1 h2 hR hT hH hS hL hvl (hvd.tl.i))
theorem mV_ias {o len : Nat} {j : Int32} {x : Int32} (hd : decode y.2.1 pc = .ok (.iastore, 1)) (hs : mm_sh o = (1, 0, len)) (hj : vp_in j len) (kk : mV l κ ph d mc ms y (pc + 1) ls st (ms_i G o j.toNatClampNeg x) Q) : mV l κ ph d mc ms y pc ls (.int x :: .int j :: .ref o :: st) G Q := by
  intro p e s m args below meth c H locs cells slots R arr Q' X h1 h2 hR hT hH hS hL hvl hvd
  have ho : o < mg_n G := hvd o (List.mem_cons_of_mem _ (List.mem_cons_of_mem _ List.mem_cons_self))
  refine W.iast X.1 X.2.1 ((hH.1 o ho).arr hs) ((mm_arr X.2.2.2.2.2.2.2.2.1 (t := 0) (by omega)).1 len _) (fun q => by cases q) (by rw [arrV_size]; exact hj) rfl rfl hd fun H' e1 e2 e3 => ?_
  skip
  have hH' : mm_H κ ph (ms_i G o j.toNatClampNeg x) H' := hH.si ho e2 e3 (mm_ce.ofArr hs (by rw [e1, arrV_store, mm_sv_i (mm_kd_arr hs)]))
  exact kk p e s m args below meth c H' _ cells slots R arr Q' X h1 h2 hR hT hH' (mm_S hS e2 e3 (by omega) rfl) hL hvl hvd.tl.tl.tl
theorem mV_bas {o len : Nat} {j : Int32} {x : Int32} (hd : decode y.2.1 pc = .ok (.bastore, 1)) (hs : mm_sh o = (1, 1, len)) (hj : vp_in j len) (kk : mV l κ ph d mc ms y (pc + 1) ls st (ms_i G o j.toNatClampNeg (vp_nar .byte x)) Q) : mV l κ ph d mc ms y pc ls (.int x :: .int j :: .ref o :: st) G Q := by
  intro p e s m args below meth c H locs cells slots R arr Q' X h1 h2 hR hT hH hS hL hvl hvd
  have ho : o < mg_n G := hvd o (List.mem_cons_of_mem _ (List.mem_cons_of_mem _ List.mem_cons_self))
  refine W.bast X.1 X.2.1 ((hH.1 o ho).arr hs) ((mm_arr X.2.2.2.2.2.2.2.2.1 (t := 1) (by omega)).1 len _) (fun q => by cases q) (by rw [arrV_size]; exact hj) rfl rfl hd fun H' e1 e2 e3 => ?_
  rw [show narrow .byte (.int x) = .int (vp_nar .byte x) from rfl] at e1
  have hH' : mm_H κ ph (ms_i G o j.toNatClampNeg (vp_nar .byte x)) H' := hH.si ho e2 e3 (mm_ce.ofArr hs (by rw [e1, arrV_store, mm_sv_i (mm_kd_arr hs)]))
  exact kk p e s m args below meth c H' _ cells slots R arr Q' X h1 h2 hR hT hH' (mm_S hS e2 e3 (by omega) rfl) hL hvl hvd.tl.tl.tl
theorem mV_zas {o len : Nat} {j : Int32} {x : Int32} (hd : decode y.2.1 pc = .ok (.bastore, 1)) (hs : mm_sh o = (1, 2, len)) (hj : vp_in j len) (kk : mV l κ ph d mc ms y (pc + 1) ls st (ms_i G o j.toNatClampNeg (vp_nar .boolean x)) Q) : mV l κ ph d mc ms y pc ls (.int x :: .int j :: .ref o :: st) G Q := by
  intro p e s m args below meth c H locs cells slots R arr Q' X h1 h2 hR hT hH hS hL hvl hvd
  have ho : o < mg_n G := hvd o (List.mem_cons_of_mem _ (List.mem_cons_of_mem _ List.mem_cons_self))
  refine W.zast X.1 X.2.1 ((hH.1 o ho).arr hs) ((mm_arr X.2.2.2.2.2.2.2.2.1 (t := 2) (by omega)).1 len _) (fun q => by cases q) (by rw [arrV_size]; exact hj) rfl rfl hd fun H' e1 e2 e3 => ?_
  rw [show narrow .boolean (.int x) = .int (vp_nar .boolean x) from rfl] at e1
  have hH' : mm_H κ ph (ms_i G o j.toNatClampNeg (vp_nar .boolean x)) H' := hH.si ho e2 e3 (mm_ce.ofArr hs (by rw [e1, arrV_store, mm_sv_i (mm_kd_arr hs)]))
  exact kk p e s m args below meth c H' _ cells slots R arr Q' X h1 h2 hR hT hH' (mm_S hS e2 e3 (by omega) rfl) hL hvl hvd.tl.tl.tl
theorem mV_las {o len : Nat} {j : Int32} {x : Int64} (hd : decode y.2.1 pc = .ok (.lastore, 1)) (hs : mm_sh o = (1, 3, len)) (hj : vp_in j len) (kk : mV l κ ph d mc ms y (pc + 1) ls st (ms_l G o j.toNatClampNeg x) Q) : mV l κ ph d mc ms y pc ls (.long x :: .int j :: .ref o :: st) G Q := by
  intro p e s m args below meth c H locs cells slots R arr Q' X h1 h2 hR hT hH hS hL hvl hvd
  have ho : o < mg_n G := hvd o (List.mem_cons_of_mem _ (List.mem_cons_of_mem _ List.mem_cons_self))
  refine W.last X.1 X.2.1 ((hH.1 o ho).arr hs) ((mm_arr X.2.2.2.2.2.2.2.2.1 (t := 3) (by omega)).1 len _) (fun q => by cases q) (by rw [arrV_size]; exact hj) rfl rfl hd fun H' e1 e2 e3 => ?_
  skip
  have hH' : mm_H κ ph (ms_l G o j.toNatClampNeg x) H' := hH.sl ho e2 e3 (mm_ce.ofArr hs (by rw [e1, arrV_store, mm_sv_l (mm_kd_arr hs)]))
  exact kk p e s m args below meth c H' _ cells slots R arr Q' X h1 h2 hR hT hH' (mm_S hS e2 e3 (by omega) rfl) hL hvl hvd.tl.tl.tl
/-- a store of an object into an array of objects of its class -/
theorem mV_aas {o len t v ci N : Nat} {j : Int32} {C : String} {T : u_T} (hd : decode y.2.1 pc = .ok (.aastore, 1)) (hs : mm_sh o = (1, t, len)) (ht : 4 ≤ t ∧ t < 9) (hC : mm_aty t = .object C) (hsv : mm_sh v = (0, ci, N)) (hci : vwCl[ci]? = some (C, T, N)) (hj : vp_in j len) (hst0 : mm_st ph o j.toNatClampNeg = none)
    (kk : mV l κ ph d mc ms y (pc + 1) ls st (ms_r G o j.toNatClampNeg (some v)) Q) : mV l κ ph d mc ms y pc ls (.ref v :: .int j :: .ref o :: st) G Q := by
  intro p e s m args below meth c H locs cells slots R arr Q' X h1 h2 hR hT hH hS hL hvl hvd
  have hlt : j.toNatClampNeg < len := Nat.not_le.mp fun q => hj (Or.inr q)
  have h0 : ¬ j < 0 := fun q => hj (Or.inl q)
  have ho : o < mg_n G := hvd o (List.mem_cons_of_mem _ (List.mem_cons_of_mem _ List.mem_cons_self))
  have hv : v < mg_n G := hvd v List.mem_cons_self
  have hk : mm_kd o j.toNatClampNeg = 2 := by rw [mm_kd_arr hs]; unfold mm_ak; rw [if_neg (by omega), if_neg (by omega)]
  have hK : va_K κ.2.1 vwCl (mm_tys κ) s := X.2.2.2.2.2.2.2.2.1.1
  obtain ⟨cellV, g1, g2, g3, -⟩ := (hH.1 v hv).obj hsv
  have hcls := (hK.1 ci _ hci).2
  have hra := (mm_arr X.2.2.2.2.2.2.2.2.1 (t := t) ht.2).2
  rw [hC] at hra
  obtain ⟨kA, comp, k1, k2, k3, -⟩ := hra
  have hcomp : comp = κ.2.1.1 ci := Option.some.inj (k3.symm.trans hcls.1)
  subst hcomp
  obtain ⟨kC, hkC, -⟩ := hcls.2
  refine W.aast X.1 X.2.1 ((hH.1 o ho).arr hs) (fun q h => by cases h) (fun h => by cases h) k1 k2 rfl hkC ⟨h0, by rw [arrV_size]; exact hlt⟩ g1 (fun q h => by rw [g3] at h; cases h) (by rw [g2]; exact hkC) (by rw [g2]; exact va_assign hcls) rfl rfl hd fun H' e1 e2 e3 => ?_
  have hH' : mm_H κ ph (ms_r G o j.toNatClampNeg (some v)) H' := hH.sr ho (fun t e => by cases e; exact hv) e2 e3 (mm_ce.ofArr hs (by rw [e1, arrV_store, mm_sv_r hk hst0]; rfl))
  exact kk p e s m args below meth c H' _ cells slots R arr Q' X h1 h2 hR hT hH' (mm_S hS e2 e3 (by omega) rfl) hL hvl hvd.tl.tl.tl
/-- returns -/
theorem mV_iret {v : Int32} {K : Int32 → mm_G → Prop} (hd : decode y.2.1 pc = .ok (.ireturn, 1)) (hr : y.2.2.2 = some .int) (kk : K v G) : mV l κ ph d mc ms y pc ls [.int v] G (rI K) := by
  intro p e s m args below meth c H locs cells slots R arr Q' X h1 h2 hR hT hH hS hL hvl hvd
  exact hT (some (.int v)) G H locs cells slots pc arr ⟨v, rfl, kk⟩ (Or.inl ⟨hr, hd, v, rfl⟩) hH hS (by omega) (by omega) hvd
theorem mV_zret {v : Int32} {K : Int32 → mm_G → Prop} (hd : decode y.2.1 pc = .ok (.ireturn, 1)) (hr : y.2.2.2 = some .boolean) (hb : v = 0 ∨ v = 1) (kk : K v G) : mV l κ ph d mc ms y pc ls [.int v] G (rI K) := by
  intro p e s m args below meth c H locs cells slots R arr Q' X h1 h2 hR hT hH hS hL hvl hvd
  exact hT (some (.int v)) G H locs cells slots pc arr ⟨v, rfl, kk⟩ (Or.inr (Or.inl ⟨.boolean, v, hr, hd, rfl, by rcases hb with e | e <;> subst e <;> rfl⟩)) hH hS (by omega) (by omega) hvd
theorem mV_nret {v : Int32} {ty : FieldType} {K : Int32 → mm_G → Prop} (hd : decode y.2.1 pc = .ok (.ireturn, 1)) (hr : y.2.2.2 = some ty) (hb : narrow ty (.int v) = .int v) (kk : K v G) : mV l κ ph d mc ms y pc ls [.int v] G (rI K) := by
  intro p e s m args below meth c H locs cells slots R arr Q' X h1 h2 hR hT hH hS hL hvl hvd
  exact hT (some (.int v)) G H locs cells slots pc arr ⟨v, rfl, kk⟩ (Or.inr (Or.inl ⟨ty, v, hr, hd, rfl, hb⟩)) hH hS (by omega) (by omega) hvd
theorem mV_lret {v : Int64} {K : Int64 → mm_G → Prop} (hd : decode y.2.1 pc = .ok (.lreturn, 1)) (hr : y.2.2.2 = some .long) (kk : K v G) : mV l κ ph d mc ms y pc ls [.long v] G (rL K) := by
  intro p e s m args below meth c H locs cells slots R arr Q' X h1 h2 hR hT hH hS hL hvl hvd
  exact hT (some (.long v)) G H locs cells slots pc arr ⟨v, rfl, kk⟩ (Or.inr (Or.inr (Or.inl ⟨hr, hd, v, rfl⟩))) hH hS (by omega) (by omega) hvd
theorem mV_vret {K : mm_G → Prop} (hd : decode y.2.1 pc = .ok (.return_, 1)) (hr : y.2.2.2 = none) (kk : K G) : mV l κ ph d mc ms y pc ls [] G (rV K) := by
  intro p e s m args below meth c H locs cells slots R arr Q' X h1 h2 hR hT hH hS hL hvl hvd
  exact hT none G H locs cells slots pc arr ⟨rfl, kk⟩ (Or.inr (Or.inr (Or.inr ⟨hr, hd, rfl⟩))) hH hS (by omega) (by omega) hvd
end AR
section CA
variable {l : Launch} {κ : mm_K} {ph : Bool} {d mc ms mc1 ms1 : Nat} {y y2 : mm_Y} {pc : Nat} {ls : List (Option Value)} {st rest as : List Value} {G : mm_G} {Q : Option Value → mm_G → Prop}
/-- behind a call -/
theorem mm_cont {Q1 : Option Value → mm_G → Prop} {p : Program} {e : Env} {s : State} {m : MethodId} {args : Array Value} {below : List Frame} {meth : Method} {c : Code} {H : Heap} {locs : List Loc} {cells slots : Nat} {arr : Array Slot} {stR : List Value} {a : Array Value} {R : Room} {Q' : State → Prop}
    (hr : va_Run p l e R s m args below meth c H locs cells slots mc1 ms1 (F0 m pc arr stR) (rest.map (mm_rv κ)) (mm_Qc κ ph Q1 a) (fun q => κ.1 ≤ q)) (hH : mm_H κ ph G H) (hS : va_S (fun q => κ.1 ≤ q) s.heap H locs)
    (kk : ∀ (v : Option Value) (G' : mm_G) (H1 : Heap) (locs1 : List Loc), Q1 v G' → mm_H κ ph G' H1 → va_S (fun q => κ.1 ≤ q) s.heap H1 locs1 → mg_n G ≤ mg_n G' → mm_vd (mg_n G') v.toList → W p l e R s m args below meth c H1 locs1 (cells + mc1) (slots + ms1) Q' (F0 m (pc + 3) arr ((v.toList ++ rest).map (mm_rv κ)))) :
    W p l e R s m args below meth c H locs cells slots Q' (F0 m pc arr stR) := by
  intro T hT Xs
  obtain ⟨v, st₀, t, T', L, h0, X', hL, e1, e2, ⟨⟨v', G', hv, hQ, hH', hvd'⟩, hz, hk⟩, stp⟩ := hr T hT Xs
  have hv' : v = v'.map (mm_rv κ) := by injection hv
  subst hv'
  rw [h0] at hz hk
  rw [← e1] at hH' hz hk
  obtain ⟨t2, a1, b1⟩ := kk v' G' T'.heap (locs ++ L) hQ hH' ⟨Nat.le_trans hS.1 hz, fun q h1 h2 => by rw [hk q (Nat.lt_of_lt_of_le h1 hS.1) h2]; exact hS.2.1 q h1 h2, fun q hq => by
      rcases List.mem_append.mp hq with h | h
      · exact hS.2.2 q h
      · exact hL q h⟩ (by have := hH.2.1; have := hH'.2.1; omega) hvd' T' rfl X'
  refine ⟨t2, stp t2 ?_, b1⟩
  have e3 : ((v'.toList ++ rest).map (mm_rv κ)) = (v'.map (mm_rv κ)).toList ++ rest.map (mm_rv κ) := by cases v' <;> simp
  rw [e3] at a1
  exact a1
theorem mm_cat {κ : mm_K} (l0 : List Value) : ((l0.map (mm_rv κ)).map fun v => v.category).sum = (l0.map fun v => v.category).sum := by
  rw [List.map_map]
  congr 1
  apply List.map_congr_left
  intro v _
  exact mm_rv_cat v
theorem mm_rvs {κ : mm_K} (a r : List Value) (b : Value) : (a.reverse ++ b :: r).map (mm_rv κ) = (a.map (mm_rv κ)).reverse ++ mm_rv κ b :: r.map (mm_rv κ) := by simp
theorem mm_CB {κ : mm_K} {p : Program} {s : State} {m : MethodId} {args : Array Value} {meth : Method} {c : Code} {n idx : Nat} {R : Room} (X : mX κ y p s m args meth c) (hR : d + 1 ≤ R.frames ∧ 64 * (d + 1) ≤ R.locals) (hm : mm_md y2 n) (hl : Cond.methodLink y.1.cls idx y2.1 ∈ lw_tbl) : CallB R s args y.1.cls idx y2.1 y2.2.1 y2.2.2.1 y2.2.2.2 (mm_wd y2) (mm_rm d mc1 ms1) mc1 ms1 n := by
  have hts := X.2.2.2.2.2.2.2.1
  refine callB_of n hts (mm_goodIn hm) rfl rfl rfl (hts _ (mm_g hm.2.1 rfl)) (hts _ (mm_g hl rfl)) hm.2.2.1 ⟨hR.1, ?_⟩
  have := hm.2.2.2
  have := hR.2
  show 8 + (y2.2.2.1 + 11) + 64 * d ≤ R.locals
  omega
theorem mm_CN {κ : mm_K} {p : Program} {s : State} {m : MethodId} {args : Array Value} {meth : Method} {c : Code} {n idx : Nat} {R : Room} {host : String} (X : mX κ y p s m args meth c) (hR : d + 1 ≤ R.frames ∧ 64 * (d + 1) ≤ R.locals) (hm : mm_md y2 n) (hl : (y.1.cls, idx, y2.1, host) ∈ mm_nw) : va_CN R s args y.1.cls idx y2.1 host y2.2.1 y2.2.2.1 y2.2.2.2 (mm_wd y2) (mm_rm d mc1 ms1) mc1 ms1 n := by
  have hts := X.2.2.2.2.2.2.2.1
  have hc : Cond.code y2.1 y2.2.1 y2.2.2.1 y2.2.2.2 ∈ mm_wd y2 := List.mem_cons_self
  refine ⟨⟨rfl, rfl, hR.1, ?_, pay_in hts (mm_goodIn hm), hc⟩, hts _ (mm_g hm.1 rfl), hts _ (mm_g hm.2.1 rfl), ⟨hm.2.2.1.1, hm.2.2.1.2.1⟩, fun sig h => ?_, va_Nw.use rfl (X.2.2.2.2.2.2.2.2.1.2.1 _ hl)⟩
  · have := hm.2.2.2
    have := hR.2
    show 8 + (y2.2.2.1 + 11) + 64 * d ≤ R.locals
    omega
  · have h2 := hm.2.2.1.2.2
    rw [h] at h2
    exact (Option.some.inj h2).symm
theorem mV_cV {b n idx ci N : Nat} {T : u_T} (hd : decode y.2.1 pc = .ok (.invokevirtual idx, 3)) (hm : mm_md y2 n) (hl : mm_lv y.1.cls idx y2) (hs : mm_sh b = (0, ci, N)) (hci : vwCl[ci]? = some (y2.1.cls, T, N)) (hn : as.length = n) (hst : st = as.reverse ++ .ref b :: rest) (hcat : (rest.map fun v => v.category).sum ≤ 8)
    (kk : mC l κ ph d mc1 ms1 y2 (.ref b :: as) G (fun v G' => mV l κ ph (d + 1) mc ms y (pc + 3) ls (v.toList ++ rest) G' Q)) : mV l κ ph (d + 1) (mc1 + mc) (ms1 + ms) y pc ls st G Q := by
  intro p e s m args below meth c H locs cells slots R arr Q' X h1 h2 hR hT hH hS hL hvl hvd
  subst hst
  have hts := X.2.2.2.2.2.2.2.1
  have hK : va_K κ.2.1 vwCl (mm_tys κ) s := X.2.2.2.2.2.2.2.2.1.1
  have hbo : b < mg_n G := hvd b (by simp)
  obtain ⟨cell, q1, q2, q3, -⟩ := (hH.1 b hbo).obj hs
  rw [mm_rvs]
  refine mm_cont (G := G) (Q1 := fun v G' => mV l κ ph (d + 1) mc ms y (pc + 3) ls (v.toList ++ rest) G' Q) (va_runV (Ts := mm_gt) (As := as.map (mm_rv κ)) (rest := rest.map (mm_rv κ)) ⟨X.1, X.2.1, X.2.2.1, X.2.2.2.2.2.1, hts⟩ kk ⟨mm_CB X hR hm hl.1, hts _ (mm_g hl.2.1 rfl), hts _ (mm_g hl.2.2 rfl)⟩ ⟨mm_blind, ⟨cell, q1, by rw [q3]; rfl, by rw [q2]; exact (hK.1 ci _ hci).2.1⟩, fun U hU hW => ⟨rfl, by rw [hU]; exact hH, mm_Kn.warm hW X.2.2.2.2.2.2.2.2.1, mm_E.go hW (by rw [hU]; exact hS.1) (fun a h1 h2 => by rw [hU]; exact hS.2.1 a h1 h2) X.2.2.2.2.2.2.2.2.2, fun a ha => ?_⟩⟩ rfl (by rw [List.length_map]; exact hn) hL.1 rfl (lv_room (by rw [mm_cat]; exact hcat)) hd ⟨?_, ?_⟩) hH hS (fun v G' H1 locs1 hq hH1 hS1 hgn hv1 => ?_)
  · rcases List.mem_cons.mp ha with e1 | e1
    · cases e1; exact hbo
    · exact hvd a (by simp [e1])
  · omega
  · omega
  · exact hq p e s m args below meth c H1 locs1 _ _ R arr Q' X (by omega) (by omega) hR hT hH1 hS1 hL (hvl.mono hgn) (fun a ha => by
      rcases List.mem_append.mp ha with e1 | e1
      · exact hv1 a e1
      · exact Nat.lt_of_lt_of_le (hvd a (by simp [e1])) hgn)
theorem mV_cS {n idx : Nat} (hd : decode y.2.1 pc = .ok (.invokestatic idx, 3)) (hm : mm_md y2 n) (hl : mm_lS y.1.cls idx y2) (hn : as.length = n) (hst : st = as.reverse ++ rest) (hcat : (rest.map fun v => v.category).sum ≤ 8)
    (kk : mC l κ ph d mc1 ms1 y2 as G (fun v G' => mV l κ ph (d + 1) mc ms y (pc + 3) ls (v.toList ++ rest) G' Q)) : mV l κ ph (d + 1) (mc1 + mc) (ms1 + ms) y pc ls st G Q := by
  intro p e s m args below meth c H locs cells slots R arr Q' X h1 h2 hR hT hH hS hL hvl hvd
  subst hst
  have hts := X.2.2.2.2.2.2.2.1
  have hK : va_K κ.2.1 vwCl (mm_tys κ) s := X.2.2.2.2.2.2.2.2.1.1
  rw [show (as.reverse ++ rest).map (mm_rv κ) = (as.map (mm_rv κ)).reverse ++ rest.map (mm_rv κ) by simp]
  refine mm_cont (G := G) (Q1 := fun v G' => mV l κ ph (d + 1) mc ms y (pc + 3) ls (v.toList ++ rest) G' Q) (va_runS (Ts := mm_gt) (As := as.map (mm_rv κ)) (rest := rest.map (mm_rv κ)) ⟨X.1, X.2.1, X.2.2.1, X.2.2.2.2.2.1, hts⟩ kk ⟨mm_CB X hR hm hl.1, hts _ (mm_g hl.2 rfl)⟩ ⟨mm_blind, fun U hU hW => ⟨rfl, by rw [hU]; exact hH, mm_Kn.warm hW X.2.2.2.2.2.2.2.2.1, mm_E.go hW (by rw [hU]; exact hS.1) (fun a h1 h2 => by rw [hU]; exact hS.2.1 a h1 h2) X.2.2.2.2.2.2.2.2.2, fun a ha => ?_⟩⟩ rfl (by rw [List.length_map]; exact hn) hL.1 rfl (lv_room (by rw [mm_cat]; exact hcat)) hd ⟨?_, ?_⟩) hH hS (fun v G' H1 locs1 hq hH1 hS1 hgn hv1 => ?_)
  · exact hvd a (by simp [ha])
  · omega
  · omega
  · exact hq p e s m args below meth c H1 locs1 _ _ R arr Q' X (by omega) (by omega) hR hT hH1 hS1 hL (hvl.mono hgn) (fun a ha => by
      rcases List.mem_append.mp ha with e1 | e1
      · exact hv1 a e1
      · exact Nat.lt_of_lt_of_le (hvd a (by simp [e1])) hgn)
theorem mV_cSN {n idx : Nat} {host : String} (hd : decode y.2.1 pc = .ok (.invokestatic idx, 3)) (hm : mm_md y2 n) (hl : mm_lSN y.1.cls idx y2 host) (hn : as.length = n) (hst : st = as.reverse ++ rest) (hcat : (rest.map fun v => v.category).sum ≤ 8)
    (kk : mC l κ ph d mc1 ms1 y2 as G (fun v G' => mV l κ ph (d + 1) mc ms y (pc + 3) ls (v.toList ++ rest) G' Q)) : mV l κ ph (d + 1) (mc1 + mc) (ms1 + ms) y pc ls st G Q := by
  intro p e s m args below meth c H locs cells slots R arr Q' X h1 h2 hR hT hH hS hL hvl hvd
  subst hst
  have hts := X.2.2.2.2.2.2.2.1
  have hK : va_K κ.2.1 vwCl (mm_tys κ) s := X.2.2.2.2.2.2.2.2.1.1
  rw [show (as.reverse ++ rest).map (mm_rv κ) = (as.map (mm_rv κ)).reverse ++ rest.map (mm_rv κ) by simp]
  refine mm_cont (G := G) (Q1 := fun v G' => mV l κ ph (d + 1) mc ms y (pc + 3) ls (v.toList ++ rest) G' Q) (va_runSN (Ts := mm_gt) (As := as.map (mm_rv κ)) (rest := rest.map (mm_rv κ)) ⟨X.1, X.2.1, X.2.2.1, X.2.2.2.2.2.1, hts⟩ kk ⟨mm_CN X hR hm hl.1, hts _ (mm_g hl.2 rfl), trivial⟩ ⟨mm_blind, fun U hU hW => ⟨rfl, by rw [hU]; exact hH, mm_Kn.warm hW X.2.2.2.2.2.2.2.2.1, mm_E.go hW (by rw [hU]; exact hS.1) (fun a h1 h2 => by rw [hU]; exact hS.2.1 a h1 h2) X.2.2.2.2.2.2.2.2.2, fun a ha => ?_⟩⟩ rfl (by rw [List.length_map]; exact hn) hL.1 rfl (lv_room (by rw [mm_cat]; exact hcat)) hd ⟨?_, ?_⟩) hH hS (fun v G' H1 locs1 hq hH1 hS1 hgn hv1 => ?_)
  · exact hvd a (by simp [ha])
  · omega
  · omega
  · exact hq p e s m args below meth c H1 locs1 _ _ R arr Q' X (by omega) (by omega) hR hT hH1 hS1 hL (hvl.mono hgn) (fun a ha => by
      rcases List.mem_append.mp ha with e1 | e1
      · exact hv1 a e1
      · exact Nat.lt_of_lt_of_le (hvd a (by simp [e1])) hgn)
theorem mm_CB0 {κ : mm_K} {p : Program} {s : State} {m : MethodId} {args : Array Value} {meth : Method} {c : Code} {n idx : Nat} {R : Room} (X : mX κ y p s m args meth c) (hR : d + 1 ≤ R.frames ∧ 64 * (d + 1) ≤ R.locals) (hm : mm_md y2 n) (hret : y2.2.2.2 = none) (hl : Cond.methodLink y.1.cls idx y2.1 ∈ lw_tbl) : CallB R s args y.1.cls idx y2.1 y2.2.1 y2.2.2.1 none (mm_wd y2) (mm_rm d mc1 ms1) mc1 ms1 n := by
  rw [← hret]; exact mm_CB X hR hm hl
theorem mm_CN0 {κ : mm_K} {p : Program} {s : State} {m : MethodId} {args : Array Value} {meth : Method} {c : Code} {n idx : Nat} {R : Room} {host : String} (X : mX κ y p s m args meth c) (hR : d + 1 ≤ R.frames ∧ 64 * (d + 1) ≤ R.locals) (hm : mm_md y2 n) (hret : y2.2.2.2 = none) (hl : (y.1.cls, idx, y2.1, host) ∈ mm_nw) : va_CN R s args y.1.cls idx y2.1 host y2.2.1 y2.2.2.1 none (mm_wd y2) (mm_rm d mc1 ms1) mc1 ms1 n := by
  rw [← hret]; exact mm_CN X hR hm hl
theorem mV_cI {n idx : Nat} {b : Nat} (hd : decode y.2.1 pc = .ok (.invokespecial idx, 3)) (hm : mm_md y2 n) (hret : y2.2.2.2 = none) (hl : mm_lI y.1.cls idx y2) (hn : as.length = n) (hst : st = as.reverse ++ .ref b :: rest) (hcat : (rest.map fun v => v.category).sum ≤ 8)
    (kk : mC l κ ph d mc1 ms1 y2 (.ref b :: as) G (fun v G' => mV l κ ph (d + 1) mc ms y (pc + 3) ls (v.toList ++ rest) G' Q)) : mV l κ ph (d + 1) (mc1 + mc) (ms1 + ms) y pc ls st G Q := by
  intro p e s m args below meth c H locs cells slots R arr Q' X h1 h2 hR hT hH hS hL hvl hvd
  subst hst
  have hts := X.2.2.2.2.2.2.2.1
  have hK : va_K κ.2.1 vwCl (mm_tys κ) s := X.2.2.2.2.2.2.2.2.1.1
  rw [mm_rvs]
  refine mm_cont (G := G) (Q1 := fun v G' => mV l κ ph (d + 1) mc ms y (pc + 3) ls (v.toList ++ rest) G' Q) (va_runI (Ts := mm_gt) (As := as.map (mm_rv κ)) (rest := rest.map (mm_rv κ)) ⟨X.1, X.2.1, X.2.2.1, X.2.2.2.2.2.1, hts⟩ kk ⟨mm_CB0 X hR hm hret hl.1, hl.2.1, hts _ (mm_g hl.2.2 rfl)⟩ ⟨mm_blind, fun U hU hW => ⟨rfl, by rw [hU]; exact hH, mm_Kn.warm hW X.2.2.2.2.2.2.2.2.1, mm_E.go hW (by rw [hU]; exact hS.1) (fun a h1 h2 => by rw [hU]; exact hS.2.1 a h1 h2) X.2.2.2.2.2.2.2.2.2, fun a ha => ?_⟩⟩ rfl (by rw [List.length_map]; exact hn) hL.1 rfl (lv_room (by rw [mm_cat]; exact hcat)) hd ⟨?_, ?_⟩) hH hS (fun v G' H1 locs1 hq hH1 hS1 hgn hv1 => ?_)
  · rcases List.mem_cons.mp ha with e1 | e1
    · cases e1; exact hvd b (by simp)
    · exact hvd a (by simp [e1])
  · omega
  · omega
  · exact hq p e s m args below meth c H1 locs1 _ _ R arr Q' X (by omega) (by omega) hR hT hH1 hS1 hL (hvl.mono hgn) (fun a ha => by
      rcases List.mem_append.mp ha with e1 | e1
      · exact hv1 a e1
      · exact Nat.lt_of_lt_of_le (hvd a (by simp [e1])) hgn)
theorem mV_cIN {n idx : Nat} {b : Nat} {host : String} (hd : decode y.2.1 pc = .ok (.invokespecial idx, 3)) (hm : mm_md y2 n) (hret : y2.2.2.2 = none) (hl : mm_lIN y.1.cls idx y2 host) (hn : as.length = n) (hst : st = as.reverse ++ .ref b :: rest) (hcat : (rest.map fun v => v.category).sum ≤ 8)
    (kk : mC l κ ph d mc1 ms1 y2 (.ref b :: as) G (fun v G' => mV l κ ph (d + 1) mc ms y (pc + 3) ls (v.toList ++ rest) G' Q)) : mV l κ ph (d + 1) (mc1 + mc) (ms1 + ms) y pc ls st G Q := by
  intro p e s m args below meth c H locs cells slots R arr Q' X h1 h2 hR hT hH hS hL hvl hvd
  subst hst
  have hts := X.2.2.2.2.2.2.2.1
  have hK : va_K κ.2.1 vwCl (mm_tys κ) s := X.2.2.2.2.2.2.2.2.1.1
  rw [mm_rvs]
  refine mm_cont (G := G) (Q1 := fun v G' => mV l κ ph (d + 1) mc ms y (pc + 3) ls (v.toList ++ rest) G' Q) (va_runIN (Ts := mm_gt) (As := as.map (mm_rv κ)) (rest := rest.map (mm_rv κ)) ⟨X.1, X.2.1, X.2.2.1, X.2.2.2.2.2.1, hts⟩ kk ⟨mm_CN0 X hR hm hret hl.1, hl.2.1, hts _ (mm_g hl.2.2 rfl)⟩ ⟨mm_blind, fun U hU hW => ⟨rfl, by rw [hU]; exact hH, mm_Kn.warm hW X.2.2.2.2.2.2.2.2.1, mm_E.go hW (by rw [hU]; exact hS.1) (fun a h1 h2 => by rw [hU]; exact hS.2.1 a h1 h2) X.2.2.2.2.2.2.2.2.2, fun a ha => ?_⟩⟩ rfl (by rw [List.length_map]; exact hn) hL.1 rfl (lv_room (by rw [mm_cat]; exact hcat)) hd ⟨?_, ?_⟩) hH hS (fun v G' H1 locs1 hq hH1 hS1 hgn hv1 => ?_)
  · rcases List.mem_cons.mp ha with e1 | e1
    · cases e1; exact hvd b (by simp)
    · exact hvd a (by simp [e1])
  · omega
  · omega
  · exact hq p e s m args below meth c H1 locs1 _ _ R arr Q' X (by omega) (by omega) hR hT hH1 hS1 hL (hvl.mono hgn) (fun a ha => by
      rcases List.mem_append.mp ha with e1 | e1
      · exact hv1 a e1
      · exact Nat.lt_of_lt_of_le (hvd a (by simp [e1])) hgn)
end CA
