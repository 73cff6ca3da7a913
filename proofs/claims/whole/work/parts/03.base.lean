/-! the world: how many cells are made; ints, longs, references by cell and slot -/
abbrev mm_G : Type := Nat × (Nat → Nat → Int32) × (Nat → Nat → Int64) × (Nat → Nat → Option Nat)
def mg_n (G : mm_G) : Nat := G.1
def mg_i (G : mm_G) (o k : Nat) : Int32 := G.2.1 o k
def mg_l (G : mm_G) (o k : Nat) : Int64 := G.2.2.1 o k
def mg_r (G : mm_G) (o k : Nat) : Option Nat := G.2.2.2 o k
def ms_i (G : mm_G) (o k : Nat) (v : Int32) : mm_G := (G.1, fun a b => if a = o ∧ b = k then v else G.2.1 a b, G.2.2.1, G.2.2.2)
def ms_l (G : mm_G) (o k : Nat) (v : Int64) : mm_G := (G.1, G.2.1, fun a b => if a = o ∧ b = k then v else G.2.2.1 a b, G.2.2.2)
def ms_r (G : mm_G) (o k : Nat) (v : Option Nat) : mm_G := (G.1, G.2.1, G.2.2.1, fun a b => if a = o ∧ b = k then v else G.2.2.2 a b)
def mg_b (G : mm_G) (c : Nat) : mm_G := (G.1 + c, G.2.1, G.2.2.1, G.2.2.2)
theorem mg_n_i (G : mm_G) (o k : Nat) (v : Int32) : mg_n (ms_i G o k v) = mg_n G := rfl
theorem mg_n_l (G : mm_G) (o k : Nat) (v : Int64) : mg_n (ms_l G o k v) = mg_n G := rfl
theorem mg_n_r (G : mm_G) (o k : Nat) (v : Option Nat) : mg_n (ms_r G o k v) = mg_n G := rfl
theorem mg_n_b (G : mm_G) (c : Nat) : mg_n (mg_b G c) = mg_n G + c := rfl
theorem mg_i_i (G : mm_G) (o k a b : Nat) (v : Int32) : mg_i (ms_i G o k v) a b = if a = o ∧ b = k then v else mg_i G a b := rfl
theorem mg_i_l (G : mm_G) (o k a b : Nat) (v : Int64) : mg_i (ms_l G o k v) a b = mg_i G a b := rfl
theorem mg_i_r (G : mm_G) (o k a b : Nat) (v : Option Nat) : mg_i (ms_r G o k v) a b = mg_i G a b := rfl
theorem mg_i_b (G : mm_G) (c a b : Nat) : mg_i (mg_b G c) a b = mg_i G a b := rfl
theorem mg_l_i (G : mm_G) (o k a b : Nat) (v : Int32) : mg_l (ms_i G o k v) a b = mg_l G a b := rfl
theorem mg_l_l (G : mm_G) (o k a b : Nat) (v : Int64) : mg_l (ms_l G o k v) a b = if a = o ∧ b = k then v else mg_l G a b := rfl
theorem mg_l_r (G : mm_G) (o k a b : Nat) (v : Option Nat) : mg_l (ms_r G o k v) a b = mg_l G a b := rfl
theorem mg_l_b (G : mm_G) (c a b : Nat) : mg_l (mg_b G c) a b = mg_l G a b := rfl
theorem mg_r_i (G : mm_G) (o k a b : Nat) (v : Int32) : mg_r (ms_i G o k v) a b = mg_r G a b := rfl
theorem mg_r_l (G : mm_G) (o k a b : Nat) (v : Int64) : mg_r (ms_l G o k v) a b = mg_r G a b := rfl
theorem mg_r_r (G : mm_G) (o k a b : Nat) (v : Option Nat) : mg_r (ms_r G o k v) a b = if a = o ∧ b = k then v else mg_r G a b := rfl
theorem mg_r_b (G : mm_G) (c a b : Nat) : mg_r (mg_b G c) a b = mg_r G a b := rfl
/-- base, class numbers and slots, array classes -/
abbrev mm_K : Type := Nat × va_G × (Nat → ClassId)
def mm_rr (ph : Bool) (G : mm_G) (o k : Nat) : Option Nat := (mm_st ph o k).or (mg_r G o k)
def mm_ty : List (Nat → FieldType) := [tyX0, tyX1, tyX2, tyX3, tyX4, tyX5, tyX6, tyX7, tyX8, tyX9, tyX10, tyX11, tyX12, tyX13]
def mm_fty (ci : Nat) : Nat → FieldType := mm_ty.getD ci tyX0
def mm_fk (t : FieldType) : Nat := match t with
  | .long => 1
  | .object _ => 2
  | .array _ => 2
  | _ => 0
def mm_ak (t : Nat) : Nat := if t < 3 then 0 else if t = 3 then 1 else 2
def mm_aty (t : Nat) : FieldType := match t with
  | 0 => .int
  | 1 => .byte
  | 2 => .boolean
  | 3 => .long
  | 4 => .object RX1
  | 5 => .object RX6
  | 6 => .object RX7
  | 7 => .object RX0
  | _ => .array .int
/-- the kind of a slot: 0 an int, 1 a long, 2 a reference -/
def mm_kd (o k : Nat) : Nat := if (mm_sh o).1 = 0 then mm_fk (mm_fty (mm_sh o).2.1 k) else mm_ak (mm_sh o).2.1
def mm_sv (κ : mm_K) (ph : Bool) (G : mm_G) (o k : Nat) : Value := if mm_kd o k = 0 then .int (mg_i G o k) else if mm_kd o k = 1 then .long (mg_l G o k) else va_rf ((mm_rr ph G o k).map (fun t => κ.1 + t))
def mm_ce (κ : mm_K) (ph : Bool) (G : mm_G) (o : Nat) (H : Heap) : Prop :=
  if (mm_sh o).1 = 0 then t_OB (κ.1 + o) (κ.2.1.1 (mm_sh o).2.1) (mm_sh o).2.2 (κ.2.1.2 (mm_sh o).2.1) H (mm_sv κ ph G o)
  else H[κ.1 + o]? = some (arrV (κ.2.2 (mm_sh o).2.1) (mm_sh o).2.2 (mm_sv κ ph G o))
def mm_H (κ : mm_K) (ph : Bool) (G : mm_G) (H : Heap) : Prop :=
  (∀ o, o < mg_n G → mm_ce κ ph G o H) ∧ H.size = κ.1 + mg_n G ∧ (∀ o k, mg_n G ≤ o → mg_i G o k = 0 ∧ mg_l G o k = 0 ∧ mg_r G o k = none) ∧ (∀ o k t, mm_rr ph G o k = some t → t < mg_n G) ∧ (ph = true → 285 ≤ mg_n G)
def mm_tys (κ : mm_K) : List (ClassId × FieldType) := (List.range 9).map (fun t => (κ.2.2 t, mm_aty t))
theorem mm_tys_at (κ : mm_K) {t : Nat} (h : t < 9) : (mm_tys κ)[t]? = some (κ.2.2 t, mm_aty t) := by
  simp [mm_tys, h]
theorem mm_ce.obj {κ : mm_K} {ph : Bool} {G : mm_G} {o ci N : Nat} {H : Heap} (h : mm_ce κ ph G o H) (hs : mm_sh o = (0, ci, N)) : t_OB (κ.1 + o) (κ.2.1.1 ci) N (κ.2.1.2 ci) H (mm_sv κ ph G o) := by
  unfold mm_ce at h
  rw [hs] at h
  exact h
theorem mm_ce.arr {κ : mm_K} {ph : Bool} {G : mm_G} {o t N : Nat} {H : Heap} (h : mm_ce κ ph G o H) (hs : mm_sh o = (1, t, N)) : H[κ.1 + o]? = some (arrV (κ.2.2 t) N (mm_sv κ ph G o)) := by
  unfold mm_ce at h
  rw [hs] at h
  exact h
theorem mm_ce.ofObj {κ : mm_K} {ph : Bool} {G : mm_G} {o ci N : Nat} {H : Heap} (hs : mm_sh o = (0, ci, N)) (h : t_OB (κ.1 + o) (κ.2.1.1 ci) N (κ.2.1.2 ci) H (mm_sv κ ph G o)) : mm_ce κ ph G o H := by
  unfold mm_ce
  rw [hs]
  exact h
theorem mm_ce.ofArr {κ : mm_K} {ph : Bool} {G : mm_G} {o t N : Nat} {H : Heap} (hs : mm_sh o = (1, t, N)) (h : H[κ.1 + o]? = some (arrV (κ.2.2 t) N (mm_sv κ ph G o))) : mm_ce κ ph G o H := by
  unfold mm_ce
  rw [hs]
  exact h
theorem mm_ce.kept {κ : mm_K} {ph : Bool} {G G' : mm_G} {o : Nat} {H H1 : Heap} (h : mm_ce κ ph G o H) (hq : H1[κ.1 + o]? = H[κ.1 + o]?) (hv : mm_sv κ ph G' o = mm_sv κ ph G o) : mm_ce κ ph G' o H1 := by
  unfold mm_ce at h ⊢
  rw [hv]
  split at h
  · rename_i e
    rw [if_pos e]
    exact h.kept hq
  · rename_i e
    rw [if_neg e, hq]
    exact h
theorem mm_H.store {κ : mm_K} {ph : Bool} {G G' : mm_G} {H H1 : Heap} {o : Nat} (h : mm_H κ ph G H) (hn : mg_n G' = mg_n G) (hc : ∀ o k, mg_n G ≤ o → mg_i G' o k = 0 ∧ mg_l G' o k = 0 ∧ mg_r G' o k = none) (hcl : ∀ o k t, mm_rr ph G' o k = some t → t < mg_n G)
    (hz : H1.size = H.size) (oq : ∀ q, q ≠ κ.1 + o → H1[q]? = H[q]?) (hsv : ∀ o', o' ≠ o → mm_sv κ ph G' o' = mm_sv κ ph G o') (hce : mm_ce κ ph G' o H1) : mm_H κ ph G' H1 := by
  obtain ⟨h1, h2, h3, h4, h5⟩ := h
  refine ⟨fun o' ho' => ?_, by rw [hz, hn]; exact h2, by rw [hn]; exact hc, by rw [hn]; exact hcl, by rw [hn]; exact h5⟩
  rw [hn] at ho'
  by_cases e : o' = o
  · subst e; exact hce
  · exact (h1 o' ho').kept (oq _ (by omega)) (hsv o' e)
/-- a store of an int -/
theorem mm_sv_i {κ : mm_K} {ph : Bool} {G : mm_G} {o k : Nat} {v : Int32} (hk : mm_kd o k = 0) : mm_sv κ ph (ms_i G o k v) o = updV (mm_sv κ ph G o) k (.int v) := by
  funext j
  unfold updV
  by_cases e : j = k
  · subst e; simp [mm_sv, hk, mg_i_i]
  · simp only [mm_sv, mg_i_i, mg_l_i, e, and_false, if_false]
    rfl
theorem mm_sv_i' {κ : mm_K} {ph : Bool} {G : mm_G} {o k o' : Nat} {v : Int32} (h : o' ≠ o) : mm_sv κ ph (ms_i G o k v) o' = mm_sv κ ph G o' := by
  funext j
  simp only [mm_sv, mg_i_i, mg_l_i, h, false_and, if_false]
  rfl
theorem mm_sv_l {κ : mm_K} {ph : Bool} {G : mm_G} {o k : Nat} {v : Int64} (hk : mm_kd o k = 1) : mm_sv κ ph (ms_l G o k v) o = updV (mm_sv κ ph G o) k (.long v) := by
  funext j
  unfold updV
  by_cases e : j = k
  · subst e; simp [mm_sv, hk, mg_l_l]
  · simp only [mm_sv, mg_i_l, mg_l_l, e, and_false, if_false]
    rfl
theorem mm_sv_l' {κ : mm_K} {ph : Bool} {G : mm_G} {o k o' : Nat} {v : Int64} (h : o' ≠ o) : mm_sv κ ph (ms_l G o k v) o' = mm_sv κ ph G o' := by
  funext j
  simp only [mm_sv, mg_i_l, mg_l_l, h, false_and, if_false]
  rfl
theorem mm_rr_r {ph : Bool} {G : mm_G} {o k a b : Nat} {v : Option Nat} : mm_rr ph (ms_r G o k v) a b = (mm_st ph a b).or (if a = o ∧ b = k then v else mg_r G a b) := rfl
theorem mm_sv_r {κ : mm_K} {ph : Bool} {G : mm_G} {o k : Nat} {v : Option Nat} (hk : mm_kd o k = 2) (hs : mm_st ph o k = none) : mm_sv κ ph (ms_r G o k v) o = updV (mm_sv κ ph G o) k (va_rf (v.map (fun t => κ.1 + t))) := by
  funext j
  unfold updV
  by_cases e : j = k
  · subst e; simp [mm_sv, hk, mm_rr_r, hs]
  · simp only [mm_sv, mg_i_r, mg_l_r, mm_rr_r, e, and_false, if_false]
    rfl
theorem mm_sv_r' {κ : mm_K} {ph : Bool} {G : mm_G} {o k o' : Nat} {v : Option Nat} (h : o' ≠ o) : mm_sv κ ph (ms_r G o k v) o' = mm_sv κ ph G o' := by
  funext j
  simp only [mm_sv, mg_i_r, mg_l_r, mm_rr_r, h, false_and, if_false]
  rfl
theorem mm_H.si {κ : mm_K} {ph : Bool} {G : mm_G} {H H1 : Heap} {o k : Nat} {v : Int32} (h : mm_H κ ph G H) (ho : o < mg_n G) (hz : H1.size = H.size) (oq : ∀ q, q ≠ κ.1 + o → H1[q]? = H[q]?) (hce : mm_ce κ ph (ms_i G o k v) o H1) : mm_H κ ph (ms_i G o k v) H1 := by
  refine h.store rfl (fun a b hb => ?_) (fun a b t ht => h.2.2.2.1 a b t ht) hz oq (fun o' e => mm_sv_i' e) hce
  obtain ⟨c1, c2, c3⟩ := h.2.2.1 a b hb
  refine ⟨?_, c2, c3⟩
  rw [mg_i_i, if_neg (by omega)]
  exact c1
theorem mm_H.sl {κ : mm_K} {ph : Bool} {G : mm_G} {H H1 : Heap} {o k : Nat} {v : Int64} (h : mm_H κ ph G H) (ho : o < mg_n G) (hz : H1.size = H.size) (oq : ∀ q, q ≠ κ.1 + o → H1[q]? = H[q]?) (hce : mm_ce κ ph (ms_l G o k v) o H1) : mm_H κ ph (ms_l G o k v) H1 := by
  refine h.store rfl (fun a b hb => ?_) (fun a b t ht => h.2.2.2.1 a b t ht) hz oq (fun o' e => mm_sv_l' e) hce
  obtain ⟨c1, c2, c3⟩ := h.2.2.1 a b hb
  refine ⟨c1, ?_, c3⟩
  rw [mg_l_l, if_neg (by omega)]
  exact c2
theorem mm_H.sr {κ : mm_K} {ph : Bool} {G : mm_G} {H H1 : Heap} {o k : Nat} {v : Option Nat} (h : mm_H κ ph G H) (ho : o < mg_n G) (hv : ∀ t, v = some t → t < mg_n G) (hz : H1.size = H.size) (oq : ∀ q, q ≠ κ.1 + o → H1[q]? = H[q]?) (hce : mm_ce κ ph (ms_r G o k v) o H1) : mm_H κ ph (ms_r G o k v) H1 := by
  refine h.store rfl (fun a b hb => ?_) (fun a b t ht => ?_) hz oq (fun o' e => mm_sv_r' e) hce
  · obtain ⟨c1, c2, c3⟩ := h.2.2.1 a b hb
    refine ⟨c1, c2, ?_⟩
    rw [mg_r_r, if_neg (by omega)]
    exact c3
  · rw [mm_rr_r] at ht
    by_cases e : a = o ∧ b = k
    · rw [if_pos e] at ht
      cases hst : mm_st ph a b with
      | none => rw [hst] at ht; exact hv t ht
      | some u =>
        refine h.2.2.2.1 a b t ?_
        unfold mm_rr
        rw [hst] at ht ⊢
        exact ht
    · rw [if_neg e] at ht
      exact h.2.2.2.1 a b t ht
