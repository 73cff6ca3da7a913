theorem mm_fin_ck : (List.range 285).all (fun o => (List.range ((mm_stT.getD o []).length)).all (fun k => match (mm_stT.getD o []).getD k none with
  | none => true
  | some t => decide (mg_r w_fin o k = some t))) = true := by decide +kernel
theorem mm_fin_n : mg_n w_fin = 285 := by decide +kernel
theorem mm_fin_st {o k t : Nat} (h : mm_st true o k = some t) : mg_r w_fin o k = some t := by
  have ho : o < 285 := by
    by_cases e : o < 285
    · exact e
    · rw [mm_st_hi (by omega)] at h; cases h
  have h0 : (mm_stT.getD o []).getD k none = some t := h
  have hk : k < (mm_stT.getD o []).length := by
    by_cases e : k < (mm_stT.getD o []).length
    · exact e
    · rw [List.getD_eq_getElem?_getD, List.getElem?_eq_none (by omega)] at h0; cases h0
  have h1 := List.all_eq_true.mp (List.all_eq_true.mp mm_fin_ck o (List.mem_range.mpr ho)) k (List.mem_range.mpr hk)
  rw [h0] at h1
  exact of_decide_eq_true h1
theorem mm_H.up {κ : mm_K} {G : mm_G} {H : Heap} (h : mm_H κ false G H) (hs : ∀ o k t, mm_st true o k = some t → mg_r G o k = some t) (hn : 285 ≤ mg_n G) : mm_H κ true G H := by
  have e : ∀ o k, mm_rr true G o k = mm_rr false G o k := fun o k => by
    show (mm_st true o k).or (mg_r G o k) = (none : Option Nat).or (mg_r G o k)
    cases q : mm_st true o k with
    | none => rfl
    | some t => rw [hs o k t q]; rfl
  have e2 : ∀ o, mm_sv κ true G o = mm_sv κ false G o := fun o => funext fun k => by unfold mm_sv; rw [e o k]
  obtain ⟨h1, h2, h3, h4, -⟩ := h
  refine ⟨fun o ho => ?_, h2, h3, fun o k t ht => h4 o k t (by rw [← e]; exact ht), fun _ => hn⟩
  have := h1 o ho
  unfold mm_ce at this ⊢
  rw [e2]
  exact this
def mm_fix (G : mm_G) : mm_G := (G.1, G.2.1, G.2.2.1, fun o k => mm_rr true G o k)
theorem mm_H.down {κ : mm_K} {G : mm_G} {H : Heap} (h : mm_H κ true G H) : mm_H κ false (mm_fix G) H := by
  have e2 : ∀ o, mm_sv κ false (mm_fix G) o = mm_sv κ true G o := fun o => rfl
  obtain ⟨h1, h2, h3, h4, h5⟩ := h
  refine ⟨fun o ho => ?_, h2, fun o k ho => ?_, fun o k t ht => h4 o k t ht, fun q => by cases q⟩
  · have := h1 o ho
    unfold mm_ce at this ⊢
    rw [e2]
    exact this
  · obtain ⟨a, b, c⟩ := h3 o k ho
    refine ⟨a, b, ?_⟩
    show (mm_st true o k).or (mg_r G o k) = none
    rw [mm_st_hi (by have := h5 rfl; have : mg_n G ≤ o := ho; omega), c]
    rfl
theorem mV_switch {l : Launch} {κ : mm_K} {d mc ms : Nat} {y : mm_Y} {pc : Nat} {ls : List (Option Value)} {st : List Value} {G : mm_G} {Q : Option Value → mm_G → Prop} (hQ : ∀ v G G', Q v G → Q v G') (hs : ∀ o k t, mm_st true o k = some t → mg_r G o k = some t) (hn : 285 ≤ mg_n G) (kk : mV l κ true d mc ms y pc ls st G Q) : mV l κ false d mc ms y pc ls st G Q := by
  intro p e s m args below meth c H locs cells slots R arr Q' X h1 h2 hR hT hH hS hL hvl hvd
  exact kk p e s m args below meth c H locs cells slots R arr Q' X h1 h2 hR (fun v G1 H1 locs1 cells1 slots1 pc1 arr1 hq hrt hH1 hS1 hc hs hv => hT v (mm_fix G1) H1 locs1 cells1 slots1 pc1 arr1 (hQ _ _ _ hq) hrt hH1.down hS1 hc hs hv) (hH.up hs hn) hS hL hvl hvd
set_option maxRecDepth 100000 in
set_option maxHeartbeats 4000000 in
/-- the law up to its loop -/
theorem law_begin {l : Launch} {κ : mm_K} {d mc ms : Nat} {K : Int32 → mm_G → Prop} (hK : ∀ v G G', K v G → K v G') (kk : mV l κ true (d + 10) mc ms m_law 18 [some (.retAddr 1), some (.ref 0), some (.ref 226), some (.int (nI 0))] [] w_fin (rI K)) : mV l κ false (d + 10) (285 + mc) (43230 + ms) m_law 0 [some (.retAddr 1), none, none, none] [] w_z (rI K) := by
  refine mV_bud (mc' := 1 + (284 + mc)) (ms' := 12 + (43218 + ms)) (by omega) (by omega) ?_
  refine mV_newx (idx := 7) (ci := 12) (N := 12) (n0 := 0) (mc := 284 + mc) (ms := 43218 + ms) (by decide +kernel) (by decide +kernel) (mm_t1 21 (by decide +kernel)) (mm_t1 22 (by decide +kernel)) (mm_t1 1 (by decide +kernel)) rfl sh_0 (fun _ => rfl) ?_
  refine mV_dup (by decide +kernel) rfl ?_
  refine mV_bud (mc' := 225 + (59 + mc)) (ms' := 20762 + (22456 + ms)) (by omega) (by omega) ?_
  refine mV_cI (b := 0) (as := []) (rest := [.ref 0]) (mc1 := 225) (ms1 := 20762) (mc := 59 + mc) (ms := 22456 + ms) (by decide +kernel) md_X12_init rfl lk_L_9 rfl rfl (Nat.le_of_ble_eq_true rfl) (mC.mono (mm_contV (fun G1 hG => ?_)) (b_0 (d := d + 4) (K := fun G => G = w_304) rfl))
  subst hG
  refine mV_astore_n (k := 1) (ls' := [some (.retAddr 1), some (.ref 0), none, none]) (by decide +kernel) (Nat.le_of_ble_eq_true rfl) rfl rfl ?_
  refine mV_bud (mc' := 1 + (58 + mc)) (ms' := 85 + (22371 + ms)) (by omega) (by omega) ?_
  refine mV_newx (idx := 10) (ci := 13) (N := 85) (n0 := 226) (mc := 58 + mc) (ms := 22371 + ms) (by decide +kernel) (by decide +kernel) (mm_t6 65 (by decide +kernel)) (mm_t6 66 (by decide +kernel)) (mm_t1 17 (by decide +kernel)) rfl sh_226 (fun _ => rfl) ?_
  refine mV_dup (by decide +kernel) rfl ?_
  refine mV_bud (mc' := 58 + (0 + mc)) (ms' := 22371 + (0 + ms)) (by omega) (by omega) ?_
  refine mV_cI (b := 226) (as := []) (rest := [.ref 226]) (mc1 := 58) (ms1 := 22371) (mc := 0 + mc) (ms := 0 + ms) (by decide +kernel) md_X13_init rfl lk_L_12 rfl rfl (Nat.le_of_ble_eq_true rfl) (mC.mono (mm_contV (fun G1 hG => ?_)) (b_226 (d := d + 7) (K := fun G => G = w_fin) rfl))
  subst hG
  refine mV_astore_n (k := 2) (ls' := [some (.retAddr 1), some (.ref 0), some (.ref 226), none]) (by decide +kernel) (Nat.le_of_ble_eq_true rfl) rfl rfl ?_
  refine mV_iconst (n := 0) (v := nI 0) (by decide +kernel) (by decide) ?_
  refine mV_istore_n (k := 3) (ls' := [some (.retAddr 1), some (.ref 0), some (.ref 226), some (.int (nI 0))]) (by decide +kernel) (Nat.le_of_ble_eq_true rfl) rfl rfl ?_
  refine mV_bud (mc' := mc) (ms' := ms) (by omega) (by omega) ?_
  refine mV_switch (fun v G G' h => ?_) (fun o k t h => mm_fin_st h) (by rw [mm_fin_n]; omega) kk
  obtain ⟨r, e, h⟩ := h
  exact ⟨r, e, hK r G G' h⟩
