theorem mm_Qc.mono {κ : mm_K} {ph : Bool} {Q Q1 : Option Value → mm_G → Prop} (h : ∀ v G, Q v G → Q1 v G) {a : Array Value} {st t : State} {o : Outcome} (k : mm_Qc κ ph Q a st o t) : mm_Qc κ ph Q1 a st o t := by
  obtain ⟨⟨v, G', h1, h2, h3⟩, h4⟩ := k
  exact ⟨⟨v, G', h1, h v G' h2, h3⟩, h4⟩
theorem mC.mono {l : Launch} {κ : mm_K} {ph : Bool} {d mc ms : Nat} {y : mm_Y} {as : List Value} {G : mm_G} {Q Q1 : Option Value → mm_G → Prop} (h : ∀ v G, Q v G → Q1 v G) (k : mC l κ ph d mc ms y as G Q) : mC l κ ph d mc ms y as G Q1 := by
  intro p e ha hc hk s m args below hf hs hp hx
  obtain ⟨t, o, h1, h2, h3, h4⟩ := k p e ha hc hk s m args below hf hs hp hx
  exact ⟨t, o, h1, h2, h3, h4.1.mono h, h4.2⟩
section MO
variable {l : Launch} {κ : mm_K} {ph : Bool} {d mc ms : Nat} {y : mm_Y} {pc : Nat} {ls : List (Option Value)} {st : List Value} {G : mm_G} {Q : Option Value → mm_G → Prop}
theorem mV.mono {Q1 : Option Value → mm_G → Prop} (h : ∀ v G, Q v G → Q1 v G) (k : mV l κ ph d mc ms y pc ls st G Q) : mV l κ ph d mc ms y pc ls st G Q1 := by
  intro p e s m args below meth c H locs cells slots R arr Q' X h1 h2 hR hT hH hS hL hvl hvd
  exact k p e s m args below meth c H locs cells slots R arr Q' X h1 h2 hR (fun v G H locs cells slots pc arr hq => hT v G H locs cells slots pc arr (h v G hq)) hH hS hL hvl hvd
theorem mV_iincc {i : Nat} {n : Int} {x c : Int32} {ls' : List (Option Value)} (hd : decode y.2.1 pc = .ok (.iinc i n, 3)) (hc : Int32.ofInt n = c) (h0 : ls[i]? = some (some (.int x))) (hn : i < y.2.2.1) (hp : mm_np ls i = true) (he : ls.set i (some (.int (x + c))) = ls') (kk : mV l κ ph d mc ms y (pc + 3) ls' st G Q) : mV l κ ph d mc ms y pc ls st G Q := by
  subst hc
  exact mV_iinc hd h0 hn hp he kk
theorem mV_aload_nv {k : Fin 4} {r : Option Nat} (hd : decode y.2.1 pc = .ok (.aload_n k, 1)) (h0 : ls[(k : Nat)]? = some (some (va_rf r))) (kk : mV l κ ph d mc ms y (pc + 1) ls (va_rf r :: st) G Q) : mV l κ ph d mc ms y pc ls st G Q := by
  cases r with
  | none => exact mV_aload_nN hd h0 kk
  | some t => exact mV_aload_n hd h0 kk
theorem mV_aloadv {i : Nat} {r : Option Nat} (hd : decode y.2.1 pc = .ok (.aload i, 2)) (h0 : ls[i]? = some (some (va_rf r))) (kk : mV l κ ph d mc ms y (pc + 2) ls (va_rf r :: st) G Q) : mV l κ ph d mc ms y pc ls st G Q := by
  cases r with
  | none => exact mV_aloadN hd h0 kk
  | some t => exact mV_aload hd h0 kk
theorem mV_ifnullv {r : Option Nat} {off : Int} {tgt : Nat} (hd : decode y.2.1 pc = .ok (.ifnull off, 3)) (ht : (pc : Int) + off = (tgt : Int)) (kn : r = none → mV l κ ph d mc ms y tgt ls st G Q) (ks : ∀ t, r = some t → mV l κ ph d mc ms y (pc + 3) ls st G Q) : mV l κ ph d mc ms y pc ls (va_rf r :: st) G Q := by
  cases r with
  | none => exact mV_ifnullN hd ht (kn rfl)
  | some t => exact mV_ifnullR hd (ks t rfl)
end MO
theorem mm_eqI {x : Int32} {k : Nat} (h : x.toInt = (k : Int)) (hk : k < 2 ^ 31) : x = nI k := by
  apply Int32.toInt_inj.mp
  rw [h, nI_toInt hk]
/-- behind a call: typed ends -/
theorem mm_contI {l : Launch} {κ : mm_K} {ph : Bool} {d mc ms : Nat} {y : mm_Y} {pc : Nat} {ls : List (Option Value)} {rest : List Value} {Q : Option Value → mm_G → Prop} {K : Int32 → mm_G → Prop} (h : ∀ r G', K r G' → mV l κ ph d mc ms y pc ls (.int r :: rest) G' Q) : ∀ v G', rI K v G' → mV l κ ph d mc ms y pc ls (v.toList ++ rest) G' Q := by
  rintro v G' ⟨r, rfl, hk⟩
  exact h r G' hk
theorem mm_contL {l : Launch} {κ : mm_K} {ph : Bool} {d mc ms : Nat} {y : mm_Y} {pc : Nat} {ls : List (Option Value)} {rest : List Value} {Q : Option Value → mm_G → Prop} {K : Int64 → mm_G → Prop} (h : ∀ r G', K r G' → mV l κ ph d mc ms y pc ls (.long r :: rest) G' Q) : ∀ v G', rL K v G' → mV l κ ph d mc ms y pc ls (v.toList ++ rest) G' Q := by
  rintro v G' ⟨r, rfl, hk⟩
  exact h r G' hk
theorem mm_contV {l : Launch} {κ : mm_K} {ph : Bool} {d mc ms : Nat} {y : mm_Y} {pc : Nat} {ls : List (Option Value)} {rest : List Value} {Q : Option Value → mm_G → Prop} {K : mm_G → Prop} (h : ∀ G', K G' → mV l κ ph d mc ms y pc ls rest G' Q) : ∀ v G', rV K v G' → mV l κ ph d mc ms y pc ls (v.toList ++ rest) G' Q := by
  rintro v G' ⟨rfl, hk⟩
  exact h G' hk
/-- rows, what is done, and the like, wherever they lie -/
def RowAt (x : Nat) : Prop := mm_sh x = (0, 6, 4) ∧ mm_sh (x + 1) = (1, 4, 16) ∧ mm_st true x 0 = some (x + 1) ∧ ∀ k, k < 16 → mm_st true (x + 1) k = none
def DeedAt (x : Nat) : Prop := mm_sh x = (0, 0, 4) ∧ mm_sh (x + 1) = (1, 0, 8) ∧ mm_st true x 0 = some (x + 1)
def LineAt (x : Nat) : Prop := mm_sh x = (0, 1, 11)
def RowsAt (x : Nat) : Prop := mm_sh x = (0, 7, 6) ∧ mm_sh (x + 1) = (1, 5, 4) ∧ mm_sh (x + 2) = (1, 0, 20) ∧ mm_sh (x + 3) = (1, 0, 20) ∧ mm_st true x 0 = some (x + 1) ∧ mm_st true x 2 = some (x + 2) ∧ mm_st true x 3 = some (x + 3) ∧ (∀ k, k < 4 → mm_st true (x + 1) k = some (x + 4 + 2 * k)) ∧ ∀ k, k < 4 → RowAt (x + 4 + 2 * k)
theorem mm_rrs {G : mm_G} {o k t : Nat} (h : mm_st true o k = some t) : mm_rr true G o k = some t := by unfold mm_rr; rw [h]; rfl
theorem mm_rrd {G : mm_G} {o k : Nat} (h : mm_st true o k = none) : mm_rr true G o k = mg_r G o k := by unfold mm_rr; rw [h]; rfl
def mm_rowB (x : Nat) : Bool := decide (mm_sh x = (0, 6, 4)) && decide (mm_sh (x + 1) = (1, 4, 16)) && decide (mm_st true x 0 = some (x + 1)) && (List.range 16).all (fun k => decide (mm_st true (x + 1) k = none))
theorem mm_rowP {x : Nat} (h : mm_rowB x = true) : RowAt x := by
  simp only [mm_rowB, Bool.and_eq_true, decide_eq_true_eq, List.all_eq_true, List.mem_range] at h
  exact ⟨h.1.1.1, h.1.1.2, h.1.2, h.2⟩
theorem mm_rows : ∀ x ∈ [12, 14, 16, 18, 54, 56, 58, 60, 102, 173, 193, 195, 197, 199, 205, 207, 209, 211, 217, 219, 221, 223], mm_rowB x = true := by decide +kernel
def mm_deedB (x : Nat) : Bool := decide (mm_sh x = (0, 0, 4)) && decide (mm_sh (x + 1) = (1, 0, 8)) && decide (mm_st true x 0 = some (x + 1))
theorem mm_deedP {x : Nat} (h : mm_deedB x = true) : DeedAt x := by
  simp only [mm_deedB, Bool.and_eq_true, decide_eq_true_eq] at h
  exact ⟨h.1.1, h.1.2, h.2⟩
theorem mm_deed0 : ∀ k, k < 8 → mm_deedB (33 + 2 * k) = true ∧ mm_st true 31 k = some (33 + 2 * k) := by decide +kernel
theorem mm_deed1 : ∀ k, k < 8 → mm_deedB (75 + 2 * k) = true ∧ mm_st true 73 k = some (75 + 2 * k) := by decide +kernel
theorem mm_deed2 : ∀ k, k < 32 → mm_deedB (104 + 2 * k) = true ∧ mm_st true 99 k = some (104 + 2 * k) := by decide +kernel
theorem mm_deed3 : DeedAt 92 := mm_deedP (by decide +kernel)
def mm_rsB (x : Nat) : Bool := decide (mm_sh x = (0, 7, 6)) && decide (mm_sh (x + 1) = (1, 5, 4)) && decide (mm_sh (x + 2) = (1, 0, 20)) && decide (mm_sh (x + 3) = (1, 0, 20)) && decide (mm_st true x 0 = some (x + 1)) && decide (mm_st true x 2 = some (x + 2)) && decide (mm_st true x 3 = some (x + 3)) && (List.range 4).all (fun k => decide (mm_st true (x + 1) k = some (x + 4 + 2 * k)) && mm_rowB (x + 4 + 2 * k))
theorem mm_rsP {x : Nat} (h : mm_rsB x = true) : RowsAt x := by
  simp only [mm_rsB, Bool.and_eq_true, decide_eq_true_eq, List.all_eq_true, List.mem_range] at h
  exact ⟨h.1.1.1.1.1.1.1, h.1.1.1.1.1.1.2, h.1.1.1.1.1.2, h.1.1.1.1.2, h.1.1.1.2, h.1.1.2, h.1.2, fun k hk => (h.2 k hk).1, fun k hk => mm_rowP (h.2 k hk).2⟩
theorem mm_rs8 : RowsAt 8 := mm_rsP (by decide +kernel)
theorem mm_rs50 : RowsAt 50 := mm_rsP (by decide +kernel)
theorem mm_rsS : ∀ k, k < 3 → mm_rsB (189 + 12 * k) = true ∧ mm_st true 188 k = some (189 + 12 * k) := by decide +kernel
theorem mm_row102 : RowAt 102 := mm_rowP (by decide +kernel)
theorem mm_row173 : RowAt 173 := mm_rowP (by decide +kernel)
theorem mm_num0 : ∀ k, k < 8 → mm_sh (22 + k) = (1, 0, 6) ∧ mm_st true 21 k = some (22 + k) := by decide +kernel
theorem mm_num1 : ∀ k, k < 8 → mm_sh (64 + k) = (1, 0, 6) ∧ mm_st true 63 k = some (64 + k) := by decide +kernel
theorem mm_mem5 : ∀ k, k < 5 → mm_sh (183 + k) = (1, 0, 120) ∧ mm_st true 182 k = some (183 + k) := by decide +kernel
theorem mm_ixlt {j : Int32} {n : Nat} (h : vp_in j n) : j.toNatClampNeg < n := Nat.not_le.mp fun q => h (Or.inr q)
section XV
variable {l : Launch} {κ : mm_K} {ph : Bool} {d mc ms : Nat} {y : mm_Y} {pc : Nat} {ls : List (Option Value)} {st : List Value} {G : mm_G} {Q : Option Value → mm_G → Prop}
theorem mV_gfix {o ci k N idx : Nat} {fin : Bool} {x : Int32} (hd : decode y.2.1 pc = .ok (.getfield idx, 3)) (hf : mm_fok y.1.cls idx ci k N 0 fin) (hs : mm_sh o = (0, ci, N)) (hx : mg_i G o k = x) (kk : mV l κ ph d mc ms y (pc + 3) ls (.int x :: st) G Q) : mV l κ ph d mc ms y pc ls (.ref o :: st) G Q := by
  subst hx; exact mV_gfi hd hf hs kk
theorem mV_gflx {o ci k N idx : Nat} {fin : Bool} {x : Int64} (hd : decode y.2.1 pc = .ok (.getfield idx, 3)) (hf : mm_fok y.1.cls idx ci k N 1 fin) (hs : mm_sh o = (0, ci, N)) (hx : mg_l G o k = x) (kk : mV l κ ph d mc ms y (pc + 3) ls (.long x :: st) G Q) : mV l κ ph d mc ms y pc ls (.ref o :: st) G Q := by
  subst hx; exact mV_gfl hd hf hs kk
theorem mV_ialx {o len : Nat} {j x : Int32} (hd : decode y.2.1 pc = .ok (.iaload, 1)) (hs : mm_sh o = (1, 0, len)) (hj : vp_in j len) (hx : mg_i G o j.toNatClampNeg = x) (kk : mV l κ ph d mc ms y (pc + 1) ls (.int x :: st) G Q) : mV l κ ph d mc ms y pc ls (.int j :: .ref o :: st) G Q := by
  subst hx; exact mV_ial hd hs hj kk
theorem mV_balx {o len : Nat} {j x : Int32} (hd : decode y.2.1 pc = .ok (.baload, 1)) (hs : mm_sh o = (1, 1, len)) (hj : vp_in j len) (hx : mg_i G o j.toNatClampNeg = x) (kk : mV l κ ph d mc ms y (pc + 1) ls (.int x :: st) G Q) : mV l κ ph d mc ms y pc ls (.int j :: .ref o :: st) G Q := by
  subst hx; exact mV_bal hd hs hj kk
theorem mV_zalx {o len : Nat} {j x : Int32} (hd : decode y.2.1 pc = .ok (.baload, 1)) (hs : mm_sh o = (1, 2, len)) (hj : vp_in j len) (hx : mg_i G o j.toNatClampNeg = x) (kk : mV l κ ph d mc ms y (pc + 1) ls (.int x :: st) G Q) : mV l κ ph d mc ms y pc ls (.int j :: .ref o :: st) G Q := by
  subst hx; exact mV_zal hd hs hj kk
theorem mV_lalx {o len : Nat} {j : Int32} {x : Int64} (hd : decode y.2.1 pc = .ok (.laload, 1)) (hs : mm_sh o = (1, 3, len)) (hj : vp_in j len) (hx : mg_l G o j.toNatClampNeg = x) (kk : mV l κ ph d mc ms y (pc + 1) ls (.long x :: st) G Q) : mV l κ ph d mc ms y pc ls (.int j :: .ref o :: st) G Q := by
  subst hx; exact mV_lal hd hs hj kk
end XV
theorem st91_14 : mm_st true 91 14 = none := by decide +kernel
theorem st96 : ∀ k, k < 4 → mm_st true 96 k = none := by decide +kernel
theorem mm_neI {x : Int32} {k : Nat} (h : ¬ x = nI k) (hk : k < 2 ^ 31) : ¬ x.toInt = (k : Int) := fun e => h (mm_eqI e hk)
theorem mV_bud {l : Launch} {κ : mm_K} {ph : Bool} {d mc ms mc' ms' : Nat} {y : mm_Y} {pc : Nat} {ls : List (Option Value)} {st : List Value} {G : mm_G} {Q : Option Value → mm_G → Prop} (h1 : mc' = mc) (h2 : ms' = ms) (kk : mV l κ ph d mc' ms' y pc ls st G Q) : mV l κ ph d mc ms y pc ls st G Q := by
  subst h1; subst h2; exact kk
