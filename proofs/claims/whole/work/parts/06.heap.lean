theorem mm_inG (ci : Nat) (q : vw_C) (h : vwCl[ci]? = some q) : ∀ w ∈ u_ws q.1 q.2.1 q.2.2, w ∈ mm_gt := fun w hw => mm_g (mm_in ci q h w hw) (by
  obtain ⟨k, -, rfl⟩ := List.mem_map.mp hw
  unfold u_lay
  split <;> rfl)
theorem mm_kd_obj {o ci N k : Nat} (hs : mm_sh o = (0, ci, N)) : mm_kd o k = mm_fk (mm_fty ci k) := by
  unfold mm_kd; rw [hs]; rfl
theorem mm_kd_arr {o t N k : Nat} (hs : mm_sh o = (1, t, N)) : mm_kd o k = mm_ak t := by
  unfold mm_kd; rw [hs]; rfl
theorem mm_sv_0 {κ : mm_K} {ph : Bool} {G : mm_G} {o k : Nat} (h : mm_kd o k = 0) : mm_sv κ ph G o k = .int (mg_i G o k) := by unfold mm_sv; rw [if_pos h]
theorem mm_sv_1 {κ : mm_K} {ph : Bool} {G : mm_G} {o k : Nat} (h : mm_kd o k = 1) : mm_sv κ ph G o k = .long (mg_l G o k) := by unfold mm_sv; rw [if_neg (by omega), if_pos h]
theorem mm_sv_2 {κ : mm_K} {ph : Bool} {G : mm_G} {o k : Nat} (h : mm_kd o k = 2) : mm_sv κ ph G o k = mm_rv κ (va_rf (mm_rr ph G o k)) := by unfold mm_sv; rw [if_neg (by omega), if_neg (by omega), mm_rv_va]
theorem mm_rr_vd {κ : mm_K} {ph : Bool} {G : mm_G} {H : Heap} (h : mm_H κ ph G H) (o k : Nat) : mm_vd (mg_n G) [va_rf (mm_rr ph G o k)] := by
  intro a ha
  cases e : mm_rr ph G o k with
  | none => rw [e] at ha; simp [va_rf] at ha
  | some t => rw [e] at ha; simp [va_rf] at ha; subst ha; exact h.2.2.2.1 o k _ e
section HP
variable {l : Launch} {κ : mm_K} {ph : Bool} {d mc ms : Nat} {y : mm_Y} {pc : Nat} {ls : List (Option Value)} {st : List Value} {G : mm_G} {Q : Option Value → mm_G → Prop}
theorem mV_gf {o ci k N kd idx : Nat} {fin : Bool} {v : Value} (hd : decode y.2.1 pc = .ok (.getfield idx, 3)) (hf : mm_fok y.1.cls idx ci k N kd fin) (hs : mm_sh o = (0, ci, N)) (hv : ∀ κ : mm_K, mm_sv κ ph G o k = mm_rv κ v) (hvv : ∀ (κ : mm_K) (H : Heap), mm_H κ ph G H → mm_vd (mg_n G) [v])
    (kk : mV l κ ph d mc ms y (pc + 3) ls (v :: st) G Q) : mV l κ ph d mc ms y pc ls (.ref o :: st) G Q := by
  intro p e s m args below meth c H locs cells slots R arr Q' X h1 h2 hR hT hH hS hL hvl hvd
  obtain ⟨C, T, hc, hk, hlk, -⟩ := hf
  have ho : o < mg_n G := hvd o List.mem_cons_self
  have hts := X.2.2.2.2.2.2.2.1
  have hK : va_K κ.2.1 vwCl (mm_tys κ) s := X.2.2.2.2.2.2.2.2.1.1
  obtain ⟨cell, q1, q2, q3, q4⟩ := (hH.1 o ho).obj hs
  obtain ⟨hSl, hfc, kC, hkC, hkind⟩ := hK.1 ci _ hc
  obtain ⟨cf, kf, fi, f, hi, hsl⟩ := hSl k hk
  refine W.getf X.1 X.2.1 X.2.2.2.2.2.1 (hts _ (mm_g hlk rfl)) hi (u_facts hfc hkC (u_lays hts (mm_inG ci _ hc) hk) hi).1 q1 (by rw [q3]; exact fun h => by cases h) (v := mm_rv κ v) ?_ rfl rfl hd (kk p e s m args below meth c H locs cells slots R arr Q' X h1 h2 hR hT hH hS hL hvl (hvd.tl.c (hvv κ H hH)))
  rw [hsl, q4 k hk, hv κ]
theorem mV_gfi {o ci k N idx : Nat} {fin : Bool} (hd : decode y.2.1 pc = .ok (.getfield idx, 3)) (hf : mm_fok y.1.cls idx ci k N 0 fin) (hs : mm_sh o = (0, ci, N)) (kk : mV l κ ph d mc ms y (pc + 3) ls (.int (mg_i G o k) :: st) G Q) : mV l κ ph d mc ms y pc ls (.ref o :: st) G Q :=
  mV_gf hd hf hs (fun κ => by obtain ⟨-, -, -, -, -, h4, -⟩ := hf; exact mm_sv_0 ((mm_kd_obj hs).trans h4)) (fun κ H hH => mm_vd.i (fun a ha => by simp at ha)) kk
theorem mV_gfl {o ci k N idx : Nat} {fin : Bool} (hd : decode y.2.1 pc = .ok (.getfield idx, 3)) (hf : mm_fok y.1.cls idx ci k N 1 fin) (hs : mm_sh o = (0, ci, N)) (kk : mV l κ ph d mc ms y (pc + 3) ls (.long (mg_l G o k) :: st) G Q) : mV l κ ph d mc ms y pc ls (.ref o :: st) G Q :=
  mV_gf hd hf hs (fun κ => by obtain ⟨-, -, -, -, -, h4, -⟩ := hf; exact mm_sv_1 ((mm_kd_obj hs).trans h4)) (fun κ H hH => mm_vd.l (fun a ha => by simp at ha)) kk
/-- a reference: v is what the slot holds -/
theorem mV_gfr {o ci k N idx : Nat} {fin : Bool} {r : Option Nat} {v : Value} (hd : decode y.2.1 pc = .ok (.getfield idx, 3)) (hf : mm_fok y.1.cls idx ci k N 2 fin) (hs : mm_sh o = (0, ci, N)) (hr : mm_rr ph G o k = r) (hv : va_rf r = v) (kk : mV l κ ph d mc ms y (pc + 3) ls (v :: st) G Q) : mV l κ ph d mc ms y pc ls (.ref o :: st) G Q := by
  subst hv; subst hr
  exact mV_gf hd hf hs (fun κ => by obtain ⟨-, -, -, -, -, h4, -⟩ := hf; exact mm_sv_2 ((mm_kd_obj hs).trans h4)) (fun κ H hH => mm_rr_vd hH o k) kk
theorem mm_S {A : Nat → Prop} {H0 H H1 : Heap} {locs : List Loc} {a : Nat} {l0 : Loc} (hS : va_S A H0 H locs) (z : H1.size = H.size) (oq : ∀ q, q ≠ a → H1[q]? = H[q]?) (ha : A a) (hl : l0.base = a) : va_S A H0 H1 (locs ++ [l0]) := by
  refine ⟨by rw [z]; exact hS.1, fun q hq hn => ?_, fun q hq => ?_⟩
  · rw [oq q (fun e => hn (e ▸ ha))]
    exact hS.2.1 q hq hn
  · rcases List.mem_append.mp hq with h | h
    · exact hS.2.2 q h
    · rw [List.mem_singleton.mp h, hl]; exact ha
/-- a store into a field that isn't final -/
theorem mV_pf {o ci k N kd idx : Nat} {v : Value} {G' : mm_G} (hd : decode y.2.1 pc = .ok (.putfield idx, 3)) (hf : mm_fok y.1.cls idx ci k N kd false) (hs : mm_sh o = (0, ci, N))
    (hn : ∀ κ : mm_K, narrow (mm_fty ci k) (mm_rv κ v) = mm_rv κ v ∧ fits (mm_fty ci k) (mm_rv κ v) = true) (hG : ∀ (κ : mm_K) (H H1 : Heap), mm_H κ ph G H → o < mg_n G → mm_vd (mg_n G) [v] → H1.size = H.size → (∀ q, q ≠ κ.1 + o → H1[q]? = H[q]?) → t_OB (κ.1 + o) (κ.2.1.1 ci) N (κ.2.1.2 ci) H1 (updV (mm_sv κ ph G o) k (mm_rv κ v)) → mm_H κ ph G' H1) (hnn : mg_n G' = mg_n G)
    (kk : mV l κ ph d mc ms y (pc + 3) ls st G' Q) : mV l κ ph d mc ms y pc ls (v :: .ref o :: st) G Q := by
  intro p e s m args below meth c H locs cells slots R arr Q' X h1 h2 hR hT hH hS hL hvl hvd
  obtain ⟨C, T, hc, hk, hlk, -, hfin, -⟩ := hf
  have ho : o < mg_n G := hvd o (List.mem_cons_of_mem _ List.mem_cons_self)
  have hts := X.2.2.2.2.2.2.2.1
  have hK : va_K κ.2.1 vwCl (mm_tys κ) s := X.2.2.2.2.2.2.2.2.1.1
  have hin := mm_inG ci _ hc
  have hap := va_apart (own := y.1.cls) hts hin (mm_fty ci) (mm_tk ci _ hc) (mm_nm ci _ hc) hK hc
  obtain ⟨cell, q1, q2, q3, q4⟩ := (hH.1 o ho).obj hs
  obtain ⟨hSl, hfc, kC, hkC, hkind⟩ := hK.1 ci _ hc
  obtain ⟨cf, kf, fi, f, hi, hsl⟩ := hSl k hk
  have hlay := hts _ (hin _ (u_in_lay hk))
  unfold u_lay at hlay
  dsimp only at hlay
  rw [if_neg (by rw [hfin]; decide)] at hlay
  have hst := (u_facts hfc hkC (u_lays hts hin hk) hi).1
  have h6 := u_store hfc hkC hkind hlay hi (mm_tk ci _ hc k hk) (hn κ).1 (hn κ).2
  refine W.putK X.1 X.2.1 (f := f) ⟨X.2.2.2.2.2.1, hts _ (mm_g hlk rfl), ⟨_, _, _, hi⟩, hst⟩ (by rw [q2]; exact h6) q1 q3 (by rw [hsl]; exact k2_hasslot (q4 k hk)) rfl rfl hd fun H' e1 e2 e3 => ?_
  rw [hsl] at e1 ⊢
  have hob : t_OB (κ.1 + o) (κ.2.1.1 ci) N (κ.2.1.2 ci) H' (updV (mm_sv κ ph G o) k (mm_rv κ v)) := ⟨_, e1, q2, q3, t_set q4 hap hk _⟩
  have hH' := hG κ H H' hH ho hvd.hd e2 e3 hob
  exact kk p e s m args below meth c H' _ cells slots R arr Q' X h1 h2 hR hT hH' (mm_S hS e2 e3 (by omega) rfl) hL (by rw [hnn]; exact hvl) (by rw [hnn]; exact hvd.tl.tl)
theorem mV_pfi {o ci k N idx : Nat} {x : Int32} (hd : decode y.2.1 pc = .ok (.putfield idx, 3)) (hf : mm_fok y.1.cls idx ci k N 0 false) (hs : mm_sh o = (0, ci, N)) (kk : mV l κ ph d mc ms y (pc + 3) ls st (ms_i G o k x) Q) : mV l κ ph d mc ms y pc ls (.int x :: .ref o :: st) G Q := by
  have h4 := hf
  obtain ⟨-, -, -, -, -, h4, -, h5⟩ := h4
  refine mV_pf (G' := ms_i G o k x) hd hf hs (fun κ => by rw [h5 rfl]; exact ⟨rfl, rfl⟩) (fun κ H H1 hH ho hv z oq hob => ?_) rfl kk
  refine hH.si ho z oq (mm_ce.ofObj hs ?_)
  rw [mm_sv_i ((mm_kd_obj hs).trans h4)]
  exact hob
theorem mm_fk1 {t : FieldType} (h : mm_fk t = 1) : t = .long := by cases t <;> simp [mm_fk] at h ⊢
theorem mV_pfl {o ci k N idx : Nat} {x : Int64} (hd : decode y.2.1 pc = .ok (.putfield idx, 3)) (hf : mm_fok y.1.cls idx ci k N 1 false) (hs : mm_sh o = (0, ci, N)) (kk : mV l κ ph d mc ms y (pc + 3) ls st (ms_l G o k x) Q) : mV l κ ph d mc ms y pc ls (.long x :: .ref o :: st) G Q := by
  have h4 := hf
  obtain ⟨-, -, -, -, -, h4, -, h5⟩ := h4
  refine mV_pf (G' := ms_l G o k x) hd hf hs (fun κ => by rw [mm_fk1 h4]; exact ⟨rfl, rfl⟩) (fun κ H H1 hH ho hv z oq hob => ?_) rfl kk
  refine hH.sl ho z oq (mm_ce.ofObj hs ?_)
  rw [mm_sv_l ((mm_kd_obj hs).trans h4)]
  exact hob
theorem mm_nr {t : FieldType} (h : mm_fk t = 2) (κ : mm_K) (r : Option Nat) : narrow t (mm_rv κ (va_rf r)) = mm_rv κ (va_rf r) ∧ fits t (mm_rv κ (va_rf r)) = true := by
  cases t <;> simp [mm_fk] at h <;> cases r <;> exact ⟨rfl, rfl⟩
theorem mm_vd_of {n : Nat} {r : Option Nat} (h : mm_vd n [va_rf r]) : ∀ t, r = some t → t < n := by
  intro t e; subst e; exact h t (List.mem_singleton_self _)
theorem mV_pfr {o ci k N idx : Nat} {r : Option Nat} {v : Value} (hd : decode y.2.1 pc = .ok (.putfield idx, 3)) (hf : mm_fok y.1.cls idx ci k N 2 false) (hs : mm_sh o = (0, ci, N)) (hst : mm_st ph o k = none) (hv : va_rf r = v) (kk : mV l κ ph d mc ms y (pc + 3) ls st (ms_r G o k r) Q) : mV l κ ph d mc ms y pc ls (v :: .ref o :: st) G Q := by
  subst hv
  have h4 := hf
  obtain ⟨-, -, -, -, -, h4, -, h5⟩ := h4
  refine mV_pf (G' := ms_r G o k r) hd hf hs (fun κ => mm_nr h4 κ r) (fun κ H H1 hH ho hv z oq hob => ?_) rfl kk
  refine hH.sr ho (mm_vd_of hv) z oq (mm_ce.ofObj hs ?_)
  rw [mm_sv_r ((mm_kd_obj hs).trans h4) hst, ← mm_rv_va]
  exact hob
/-- a store into a final field, in a constructor -/
theorem mV_pff {o ci k N idx : Nat} {r : Option Nat} {v : Value} (hd : decode y.2.1 pc = .ok (.putfield idx, 3)) (hf : mm_fok y.1.cls idx ci k N 2 true) (hin2 : y.1.name = "<init>") (hdecl : ∀ (C : String) (T : u_T), vwCl[ci]? = some (C, T, N) → (T k).1 = y.1.cls) (hs : mm_sh o = (0, ci, N)) (hst0 : mm_st ph o k = none) (hv : va_rf r = v) (kk : mV l κ ph d mc ms y (pc + 3) ls st (ms_r G o k r) Q) : mV l κ ph d mc ms y pc ls (v :: .ref o :: st) G Q := by
  subst hv
  intro p e s m args below meth c H locs cells slots R arr Q' X h1 h2 hR hT hH hS hL hvl hvd
  obtain ⟨C, T, hc, hk, hlk, hkd, hfin, -⟩ := hf
  have hdecl := hdecl C T hc
  have ho : o < mg_n G := hvd o (List.mem_cons_of_mem _ List.mem_cons_self)
  have hts := X.2.2.2.2.2.2.2.1
  have hown := X.2.2.2.2.2.1
  have hK : va_K κ.2.1 vwCl (mm_tys κ) s := X.2.2.2.2.2.2.2.2.1.1
  have hin := mm_inG ci _ hc
  have hap := va_apart (own := y.1.cls) hts hin (mm_fty ci) (mm_tk ci _ hc) (mm_nm ci _ hc) hK hc
  obtain ⟨cell, q1, q2, q3, q4⟩ := (hH.1 o ho).obj hs
  obtain ⟨hSl, hfc, kC, hkC, hkind⟩ := hK.1 ci _ hc
  obtain ⟨cf, kf, fi, f, hi, hsl⟩ := hSl k hk
  have hlay := hts _ (hin _ (u_in_lay hk))
  unfold u_lay at hlay
  dsimp only at hlay
  rw [if_pos hfin] at hlay
  have hst := (u_facts hfc hkC (u_lays hts hin hk) hi).1
  have hcf : m.cls = cf := by
    obtain ⟨_, _, c', _, _, _, -, -, hf', -, -, -, hown2, -⟩ := Cond.laysFinal_spec hlay
    have e1 : c' = cf := by have := hi.symm.trans hf'; simp at this; exact this.1.symm
    rw [hdecl] at hown2
    rw [← e1]; exact Option.some.inj (hown.symm.trans hown2)
  have h6 := u_fits hfc hkC hkind (Or.inr hlay) hi (mm_tk ci _ hc k hk) (mm_nr hkd κ r).1 (mm_nr hkd κ r).2
  refine W.putFinK X.1 X.2.1 hown (hts _ (mm_g hlk rfl)) hi hst hcf (X.2.2.2.2.2.2.1 hin2) (by rw [q2]; exact h6) q1 q3 (by rw [hsl]; exact k2_hasslot (q4 k hk)) rfl rfl hd fun H' e1 e2 e3 => ?_
  rw [hsl] at e1 ⊢
  have hob : t_OB (κ.1 + o) (κ.2.1.1 ci) N (κ.2.1.2 ci) H' (updV (mm_sv κ ph G o) k (mm_rv κ (va_rf r))) := ⟨_, e1, q2, q3, t_set q4 hap hk _⟩
  have hH' : mm_H κ ph (ms_r G o k r) H' := by
    refine hH.sr ho (mm_vd_of hvd.hd) e2 e3 (mm_ce.ofObj hs ?_)
    rw [mm_sv_r ((mm_kd_obj hs).trans hkd) hst0, ← mm_rv_va]
    exact hob
  exact kk p e s m args below meth c H' _ cells slots R arr Q' X h1 h2 hR hT hH' (mm_S hS e2 e3 (by omega) rfl) hL hvl hvd.tl.tl
end HP
