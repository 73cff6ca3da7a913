theorem mm_st_hi {ph : Bool} {o k : Nat} (h : 285 ≤ o) : mm_st ph o k = none := by
  unfold mm_st
  split
  · have hl : mm_stT.length = 285 := by decide +kernel
    have h0 : mm_stT.getD o [] = [] := by rw [List.getD_eq_getElem?_getD, List.getElem?_eq_none (by omega)]; rfl
    rw [h0]
    rfl
  · rfl
theorem mm_sh_hi {o : Nat} (h : 285 ≤ o) : mm_sh o = (0, 1, 11) := by
  unfold mm_sh
  have hl : mm_lay.length = 285 := by decide +kernel
  rw [List.getD_eq_getElem?_getD, List.getElem?_eq_none (by omega)]
  rfl
theorem mm_t0 (ci : Nat) (q : vw_C) (h : vwCl[ci]? = some q) : ∀ k, k < q.2.2 → mm_fk (mm_fty ci k) = 0 → mm_fty ci k = .int := by
  match ci, h with
  | 0, h => cases h; decide +kernel
  | 1, h => cases h; decide +kernel
  | 2, h => cases h; decide +kernel
  | 3, h => cases h; decide +kernel
  | 4, h => cases h; decide +kernel
  | 5, h => cases h; decide +kernel
  | 6, h => cases h; decide +kernel
  | 7, h => cases h; decide +kernel
  | 8, h => cases h; decide +kernel
  | 9, h => cases h; decide +kernel
  | 10, h => cases h; decide +kernel
  | 11, h => cases h; decide +kernel
  | 12, h => cases h; decide +kernel
  | 13, h => cases h; decide +kernel
  | n + 14, h => simp at h
/-- what a new cell holds -/
theorem mm_sv_new {κ : mm_K} {ph : Bool} {G : mm_G} {H : Heap} (hH : mm_H κ ph G H) {o k : Nat} (ho : mg_n G ≤ o) (hst : mm_st ph o k = none) : mm_sv κ ph G o k = if mm_kd o k = 0 then .int 0 else if mm_kd o k = 1 then .long 0 else .null := by
  obtain ⟨a, b, c⟩ := hH.2.2.1 o k ho
  unfold mm_sv mm_rr
  rw [a, b, c, hst]
  rfl
theorem mm_H.push {κ : mm_K} {ph : Bool} {G : mm_G} {H H1 : Heap} {c : Nat} (h : mm_H κ ph G H) (hz : H1.size = H.size + c) (oq : ∀ q, q < H.size → H1[q]? = H[q]?) (hce : ∀ o, mg_n G ≤ o → o < mg_n G + c → mm_ce κ ph G o H1) : mm_H κ ph (mg_b G c) H1 := by
  obtain ⟨h1, h2, h3, h4, h5⟩ := h
  refine ⟨fun o ho => ?_, by rw [hz, h2, mg_n_b]; omega, fun o k ho => h3 o k (by rw [mg_n_b] at ho; omega), fun o k t ht => by rw [mg_n_b]; exact Nat.lt_add_right _ (h4 o k t ht), fun e => by rw [mg_n_b]; have := h5 e; omega⟩
  rw [mg_n_b] at ho
  by_cases e : o < mg_n G
  · exact (h1 o e).kept (oq _ (by omega)) rfl
  · exact hce o (by omega) ho
theorem mm_S2 {A : Nat → Prop} {H0 H H1 : Heap} {locs : List Loc} (hS : va_S A H0 H locs) (z : H.size ≤ H1.size) (oq : ∀ q, q < H.size → H1[q]? = H[q]?) : va_S A H0 H1 locs :=
  ⟨Nat.le_trans hS.1 z, fun q hq hn => (oq q (Nat.lt_of_lt_of_le hq hS.1)).trans (hS.2.1 q hq hn), hS.2.2⟩
section MK
variable {l : Launch} {κ : mm_K} {ph : Bool} {d mc ms : Nat} {y : mm_Y} {pc : Nat} {ls : List (Option Value)} {st : List Value} {G : mm_G} {Q : Option Value → mm_G → Prop}
theorem mV_new {idx ci N : Nat} {C : String} {T : u_T} (hd : decode y.2.1 pc = .ok (.new idx, 3)) (hcl : Cond.classLink y.1.cls idx C ∈ lw_tbl) (hins : Cond.instantiable C N ∈ lw_tbl) (hini : Cond.initialized C ∈ lw_tbl) (hc : vwCl[ci]? = some (C, T, N)) (hs : mm_sh (mg_n G) = (0, ci, N)) (hst : ∀ k, mm_st ph (mg_n G) k = none)
    (kk : mV l κ ph d mc ms y (pc + 3) ls (.ref (mg_n G) :: st) (mg_b G 1) Q) : mV l κ ph d (1 + mc) (N + ms) y pc ls st G Q := by
  intro p e s m args below meth c H locs cells slots R arr Q' X h1 h2 hR hT hH hS hL hvl hvd
  have hts := X.2.2.2.2.2.2.2.1
  have hK : va_K κ.2.1 vwCl (mm_tys κ) s := X.2.2.2.2.2.2.2.2.1.1
  have hKn := hK.1 ci _ hc
  refine W.newcK X.1 X.2.1 X.2.2.2.2.2.1 (hts _ (mm_g hcl rfl)) (hts _ (mm_g hins rfl)) (hts _ (mm_g hini rfl)) rfl hd (by omega) (by omega) hKn.2.1 hH.2.1 fun H' kC hkC e1 z1 o1 => ?_
  have hob := u_born (mm_fty ci) hts (mm_inG ci _ hc) hKn hkC e1 (mm_tk ci _ hc)
  have hH' : mm_H κ ph (mg_b G 1) H' := hH.push (by rw [z1, hH.2.1]) (fun q hq => o1 q (by rw [← hH.2.1]; exact hq)) (fun o ho1 ho2 => by
    have e0 : o = mg_n G := by omega
    subst e0
    refine mm_ce.ofObj hs (hob.to fun k hk => ?_)
    rw [mm_sv_new hH (Nat.le_refl _) (hst k), mm_kd_obj hs]
    have h0 := mm_t0 ci _ hc k hk
    cases ht : mm_fty ci k <;> rw [ht] at h0 <;> first | rfl | (have := h0 rfl; cases this))
  exact kk p e s m args below meth c H' locs _ _ R arr Q' X (by omega) (by omega) hR hT hH' (mm_S2 hS (by rw [z1, hH.2.1]; omega) (fun q hq => o1 q (by rw [← hH.2.1]; exact hq))) hL (hvl.mono (by rw [mg_n_b]; omega)) (mm_vd.r (hvd.mono (by rw [mg_n_b]; omega)) (by rw [mg_n_b]; omega))
theorem mV_newa {at0 : ArrayType} {t len : Nat} {n : Int32} (hd : decode y.2.1 pc = .ok (.newarray at0, 2)) (hty : newarray.typeOf at0 = mm_aty t) (ht : t < 4) (hcl : Cond.arrayClass (mm_aty t) ∈ lw_tbl) (hn : ¬ n < 0) (hN : n.toNatClampNeg = len) (hl : len ≤ 10000) (hs : mm_sh (mg_n G) = (1, t, len)) (hst : ∀ k, mm_st ph (mg_n G) k = none)
    (kk : mV l κ ph d mc ms y (pc + 2) ls (.ref (mg_n G) :: st) (mg_b G 1) Q) : mV l κ ph d (1 + mc) (len + ms) y pc ls (.int n :: st) G Q := by
  intro p e s m args below meth c H locs cells slots R arr Q' X h1 h2 hR hT hH hS hL hvl hvd
  have hts := X.2.2.2.2.2.2.2.1
  have hb : componentBytes (newarray.typeOf at0) ≤ 8 := by cases at0 <;> decide
  refine va_newaK X.1 X.2.1 (by rw [hty]; exact hts _ (mm_g hcl rfl)) rfl hd rfl hn hN (Nat.le_trans (Nat.mul_le_mul hl hb) (by decide)) (by omega) (by omega) hH.2.1 fun H' cA e1 z1 o1 hAr hNm => ?_
  have hra := (mm_arr X.2.2.2.2.2.2.2.2.1 (t := t) (by omega)).2
  have hcA : cA = κ.2.2 t := by
    rw [hty] at hNm
    rcases (show t = 0 ∨ t = 1 ∨ t = 2 ∨ t = 3 by omega) with e | e | e | e <;> subst e <;> exact Option.some.inj (hNm.symm.trans hra)
  subst hcA
  have hH' : mm_H κ ph (mg_b G 1) H' := hH.push (by rw [z1, hH.2.1]) (fun q hq => o1 q (by rw [← hH.2.1]; exact hq)) (fun o ho1 ho2 => by
    have e0 : o = mg_n G := by omega
    subst e0
    refine mm_ce.ofArr hs ?_
    rw [e1]
    congr 2
    funext k
    rw [mm_sv_new hH (Nat.le_refl _) (hst k), mm_kd_arr hs, hty]
    rcases (show t = 0 ∨ t = 1 ∨ t = 2 ∨ t = 3 by omega) with e | e | e | e <;> subst e <;> rfl)
  exact kk p e s m args below meth c H' locs _ _ R arr Q' X (by omega) (by omega) hR hT hH' (mm_S2 hS (by rw [z1, hH.2.1]; omega) (fun q hq => o1 q (by rw [← hH.2.1]; exact hq))) hL (hvl.mono (by rw [mg_n_b]; omega)) (mm_vd.r (hvd.tl.mono (by rw [mg_n_b]; omega)) (by rw [mg_n_b]; omega))
theorem mV_anew {idx t len : Nat} {n : Int32} {C : String} (hd : decode y.2.1 pc = .ok (.anewarray idx, 3)) (hC : mm_aty t = .object C) (ht : 4 ≤ t ∧ t < 8) (hcl : Cond.classLink y.1.cls idx C ∈ lw_tbl) (hCm : C ∈ [RX0, RX1, RX6, RX7]) (hn : ¬ n < 0) (hN : n.toNatClampNeg = len) (hl : len ≤ 10000) (hs : mm_sh (mg_n G) = (1, t, len)) (hst : ∀ k, mm_st ph (mg_n G) k = none)
    (kk : mV l κ ph d mc ms y (pc + 3) ls (.ref (mg_n G) :: st) (mg_b G 1) Q) : mV l κ ph d (1 + mc) (len + ms) y pc ls (.int n :: st) G Q := by
  intro p e s m args below meth c H locs cells slots R arr Q' X h1 h2 hR hT hH hS hL hvl hvd
  have hts := X.2.2.2.2.2.2.2.1
  subst hN
  refine W.anew X.1 X.2.1 X.2.2.2.2.2.1 (hts _ (mm_g hcl rfl)) (va_AO.use (X.2.2.2.2.2.2.2.2.1.2.2.1 C hCm)) rfl hd rfl hn (by omega) (by omega) (by omega) fun cA kA comp f1 f2 f3 f4 => ?_
  have hra := (mm_arr X.2.2.2.2.2.2.2.2.1 (t := t) (by omega)).2
  rw [hC] at hra
  obtain ⟨kA', comp', k1, k2, k3, k4⟩ := hra
  have hcA : cA = κ.2.2 t := Option.some.inj (f1.symm.trans k4)
  subst hcA
  generalize hH1 : H.push ({ cls := κ.2.2 t, slots := Array.replicate n.toNatClampNeg .null, vm := .none } : Cell) = H'
  have z1 : H'.size = H.size + 1 := by rw [← hH1, Array.size_push]
  have e1 : H'[H.size]? = some (arrV (κ.2.2 t) n.toNatClampNeg (fun _ => .null)) := by rw [← hH1, Array.getElem?_push_size, ← arrV_new]
  have o1 : ∀ q, q < H.size → H'[q]? = H[q]? := fun q hq => by rw [← hH1, Array.getElem?_push, if_neg (Nat.ne_of_lt hq)]
  have hH' : mm_H κ ph (mg_b G 1) H' := hH.push z1 o1 (fun o ho1 ho2 => by
    have e0 : o = mg_n G := by omega
    subst e0
    refine mm_ce.ofArr hs ?_
    rw [← hH.2.1, e1]
    congr 2
    funext k
    rw [mm_sv_new hH (Nat.le_refl _) (hst k), mm_kd_arr hs]
    have hk2 : mm_ak t = 2 := by unfold mm_ak; rw [if_neg (by omega), if_neg (by omega)]
    rw [hk2]
    rfl)
  rw [show H.size = κ.1 + mg_n G from hH.2.1]
  exact kk p e s m args below meth c H' locs _ _ R arr Q' X (by omega) (by omega) hR hT hH' (mm_S2 hS (by omega) o1) hL (hvl.mono (by rw [mg_n_b]; omega)) (mm_vd.r (hvd.tl.mono (by rw [mg_n_b]; omega)) (by rw [mg_n_b]; omega))
/-- Object's constructor -/
theorem mV_obj {idx a : Nat} (hd : decode y.2.1 pc = .ok (.invokespecial idx, 3)) (h1 : Cond.methodLink y.1.cls idx Lib.objectInit ∈ lw_tbl) (h2 : Cond.instanceMethod Lib.objectInit ∈ lw_tbl) (h3 : Cond.code Lib.objectInit ⟨#[0xb1]⟩ 1 none ∈ lw_tbl) (hcat : (st.map fun v => v.category).sum ≤ 8)
    (kk : mV l κ ph (d + 1) mc ms y (pc + 3) ls st G Q) : mV l κ ph (d + 1) mc ms y pc ls (.ref a :: st) G Q := by
  intro p e s m args below meth c H locs cells slots R arr Q' X h1' h2' hR hT hH hS hL hvl hvd
  have hts := X.2.2.2.2.2.2.2.1
  refine W.objInit X.1 X.2.1 X.2.2.2.2.2.1 (hts _ (mm_g h1 rfl)) (hts _ (mm_g h2 rfl)) (hts _ (mm_g h3 rfl)) rfl (by rw [X.2.2.1]; exact hL.1) rfl hd (by omega) ?_ (kk p e s m args below meth c H locs _ _ R arr Q' X h1' h2' hR hT hH hS hL hvl hvd.tl)
  rw [mm_cat]
  show 2 * 0 + _ + 12 ≤ _
  omega
theorem mV_max {idx : Nat} {a b : Int32} (hd : decode y.2.1 pc = .ok (.invokestatic idx, 3)) (hl : mm_lS y.1.cls idx m_J9_max_7cf53) (hcat : (st.map fun v => v.category).sum ≤ 8)
    (kk : mV l κ ph (d + 1) mc ms y (pc + 3) ls (.int (if a < b then b else a) :: st) G Q) : mV l κ ph (d + 1) mc ms y pc ls (.int b :: .int a :: st) G Q := by
  intro p e s m args below meth c H locs cells slots R arr Q' X h1' h2' hR hT hH hS hL hvl hvd
  have hts := X.2.2.2.2.2.2.2.1
  exact va_mmax X.1 X.2.1 (by rw [X.2.2.1]; exact hL.1.symm) X.2.2.2.2.2.1 (hts _ (mm_g hl.1 rfl)) (hts _ (mm_g hl.2 rfl)) (hts _ (mm_g md_J9_max_7cf53.2.1 rfl)) (hts _ (mm_g md_J9_max_7cf53.1 rfl)) (by omega) (by rw [mm_cat]; omega) (by omega) (by omega) hd (kk p e s m args below meth c H locs _ _ R arr Q' X h1' h2' hR hT hH hS hL hvl hvd.tl.tl.i)
theorem mV_min {idx : Nat} {a b : Int32} (hd : decode y.2.1 pc = .ok (.invokestatic idx, 3)) (hl : mm_lS y.1.cls idx m_J9_min_7cf53) (hcat : (st.map fun v => v.category).sum ≤ 8)
    (kk : mV l κ ph (d + 1) mc ms y (pc + 3) ls (.int (if b < a then b else a) :: st) G Q) : mV l κ ph (d + 1) mc ms y pc ls (.int b :: .int a :: st) G Q := by
  intro p e s m args below meth c H locs cells slots R arr Q' X h1' h2' hR hT hH hS hL hvl hvd
  have hts := X.2.2.2.2.2.2.2.1
  exact va_mmin X.1 X.2.1 (by rw [X.2.2.1]; exact hL.1.symm) X.2.2.2.2.2.1 (hts _ (mm_g hl.1 rfl)) (hts _ (mm_g hl.2 rfl)) (hts _ (mm_g md_J9_min_7cf53.2.1 rfl)) (hts _ (mm_g md_J9_min_7cf53.1 rfl)) (by omega) (by rw [mm_cat]; omega) (by omega) (by omega) hd (kk p e s m args below meth c H locs _ _ R arr Q' X h1' h2' hR hT hH hS hL hvl hvd.tl.tl.i)
theorem mV_maxl {idx : Nat} {a b : Int64} (hd : decode y.2.1 pc = .ok (.invokestatic idx, 3)) (hl : mm_lS y.1.cls idx m_J9_max_f86c9) (hcat : (st.map fun v => v.category).sum ≤ 8)
    (kk : mV l κ ph (d + 1) mc ms y (pc + 3) ls (.long (if b < a then a else b) :: st) G Q) : mV l κ ph (d + 1) mc ms y pc ls (.long b :: .long a :: st) G Q := by
  intro p e s m args below meth c H locs cells slots R arr Q' X h1' h2' hR hT hH hS hL hvl hvd
  have hts := X.2.2.2.2.2.2.2.1
  exact va_mmax_long X.1 X.2.1 (by rw [X.2.2.1]; exact hL.1.symm) X.2.2.2.2.2.1 (hts _ (mm_g hl.1 rfl)) (hts _ (mm_g hl.2 rfl)) (hts _ (mm_g md_J9_max_f86c9.2.1 rfl)) (hts _ (mm_g md_J9_max_f86c9.1 rfl)) (by omega) (by rw [mm_cat]; omega) (by omega) (by omega) hd (kk p e s m args below meth c H locs _ _ R arr Q' X h1' h2' hR hT hH hS hL hvl hvd.tl.tl.l)
end MK
