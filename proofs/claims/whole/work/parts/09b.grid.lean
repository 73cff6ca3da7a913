/-- new int[n][k]: the outer array, then the inner ones -/
def mm_fillr (G : mm_G) (n : Nat) : mm_G := (G.1 + (1 + n), G.2.1, G.2.2.1, fun a b => if a = G.1 ∧ b < n then some (G.1 + 1 + b) else G.2.2.2 a b)
theorem mm_outer (c : ClassId) (N h0 : Nat) : ∀ i : Nat, Jvm.Free.Multi.outerC c N h0 i = arrV c N (fun j => va_rf (if j < i then some (h0 + 1 + j) else none))
  | 0 => by
    show ({ cls := c, slots := Array.replicate N .null, vm := .none } : Cell) = _
    rw [arrV_new]
    refine congrArg (arrV c N) (funext fun j => ?_)
    simp [va_rf]
  | i + 1 => by
    show (Jvm.Free.Multi.outerC c N h0 i).setSlot i (.ref (h0 + 1 + i)) = _
    rw [mm_outer c N h0 i, arrV_store]
    refine congrArg (arrV c N) (funext fun j => ?_)
    by_cases e : j = i
    · subst e
      simp [updV, va_rf]
    · by_cases h : j < i
      · simp [updV, e, h, Nat.lt_succ_of_lt h]
      · simp [updV, e, h, show ¬ j < i + 1 by omega]
section MN
variable {l : Launch} {κ : mm_K} {d mc ms : Nat} {y : mm_Y} {pc : Nat} {ls : List (Option Value)} {st : List Value} {G : mm_G} {Q : Option Value → mm_G → Prop}
theorem mV_mna {idx N K : Nat} {n k : Int32} (hd : decode y.2.1 pc = .ok (.multianewarray idx 2, 4)) (hcl : Cond.classLink y.1.cls idx ("[" ++ (FieldType.array .int).toString) ∈ lw_tbl) (harr : Cond.arrayClass .int ∈ lw_tbl) (hn : ¬ n < 0) (hk : ¬ k < 0) (hN : n.toNatClampNeg = N) (hK : k.toNatClampNeg = K) (hb : N ≤ 1000 ∧ K ≤ 1000)
    (hs : mm_sh (mg_n G) = (1, 8, N)) (hs2 : ∀ j, j < N → mm_sh (mg_n G + 1 + j) = (1, 0, K))
    (kk : mV l κ false d mc ms y (pc + 4) ls (.ref (mg_n G) :: st) (mm_fillr G N) Q) : mV l κ false d (1 + N + mc) (N + N * K + ms) y pc ls (.int k :: .int n :: st) G Q := by
  intro p e s m args below meth c H locs cells slots R arr Q' X h1 h2 hR hT hH hS hL hvl hvd
  have hts := X.2.2.2.2.2.2.2.1
  subst hN; subst hK
  intro T hTT Xs
  obtain ⟨vm₁, cA, comp, hW, fA, fC, hO, hI, X', step⟩ := Xs.multianewarray2F X.1 X.2.2.2.2.2.1 (hts _ (mm_g hcl rfl)) (X.2.2.2.2.2.2.2.2.1.2.2.2 : (Cond.arrayOver (.array .int)).before args s = true) (hts _ (mm_g harr rfl)) (g := F0 m pc arr ((.int k :: .int n :: st).map (mm_rv κ))) rfl (by rw [X.2.1]; exact hd) rfl hn hk (by have := hb.1; omega) (by show k.toNatClampNeg * 4 ≤ _; have := hb.2; omega) (by have := hb.2; omega) rfl rfl (by omega) (by omega)
  have ra8 := (mm_arr X.2.2.2.2.2.2.2.2.1 (t := 8) (by omega)).2
  have ra0 := (mm_arr X.2.2.2.2.2.2.2.2.1 (t := 0) (by omega)).2
  have eA : cA = κ.2.2 8 := Option.some.inj (fA.symm.trans ra8)
  have eC : comp = κ.2.2 0 := Option.some.inj (fC.symm.trans ra0)
  subst eA; subst eC
  generalize hF : Jvm.Free.Multi.fill (T.setVm vm₁) (κ.2.2 8) (κ.2.2 0) n.toNatClampNeg k.toNatClampNeg (defaultValue .int) n.toNatClampNeg = F at X' step
  have hTh : (T.setVm vm₁).heap = H := hTT
  obtain ⟨f1, f2, -, -⟩ := Jvm.Free.Multi.fill_facts (T.setVm vm₁) (κ.2.2 8) (κ.2.2 0) n.toNatClampNeg k.toNatClampNeg (defaultValue .int) n.toNatClampNeg
  rw [hF, hTh] at f1 f2
  have hold : ∀ x : Nat, x < H.size → F.heap[x]? = H[x]? := fun x hx => by
    have := Jvm.Free.Multi.fill_old (T.setVm vm₁) (κ.2.2 8) (κ.2.2 0) n.toNatClampNeg k.toNatClampNeg (defaultValue .int) (a := x) (by rw [hTh]; exact hx) n.toNatClampNeg
    rw [hF, hTh] at this
    exact this
  have hrow : ∀ j : Nat, j < n.toNatClampNeg → F.heap[H.size + 1 + j]? = some (arrV (κ.2.2 0) k.toNatClampNeg (fun _ => .int 0)) := fun j hj => by
    have := Jvm.Free.Multi.fill_inner (T.setVm vm₁) (κ.2.2 8) (κ.2.2 0) n.toNatClampNeg k.toNatClampNeg (defaultValue .int) n.toNatClampNeg j hj
    rw [hF, hTh] at this
    rw [this, ← arrV_new]
    rfl
  rw [mm_outer] at f2
  obtain ⟨q1, q2, q3, q4, q5⟩ := hH
  have hsz := q2
  have hH' : mm_H κ false (mm_fillr G n.toNatClampNeg) F.heap := by
    refine ⟨fun o ho => ?_, ?_, fun o j ho => ?_, fun o j t ht => ?_, fun e => by cases e⟩
    · have ho' : o < mg_n G + (1 + n.toNatClampNeg) := ho
      by_cases e0 : o < mg_n G
      · refine (q1 o e0).kept (hold _ (by omega)) (funext fun j => ?_)
        have e9 : ¬ (o = G.1 ∧ j < n.toNatClampNeg) := fun h => by have : o = mg_n G := h.1; omega
        unfold mm_sv mm_rr
        show (if mm_kd o j = 0 then Value.int (mg_i G o j) else if mm_kd o j = 1 then Value.long (mg_l G o j) else va_rf (((mm_st false o j).or (if o = G.1 ∧ j < n.toNatClampNeg then some (G.1 + 1 + j) else mg_r G o j)).map _)) = _
        rw [if_neg e9]
      · by_cases e1 : o = mg_n G
        · subst e1
          refine mm_ce.ofArr hs ?_
          rw [← hsz, f2]
          congr 2
          funext j
          have hk2 : mm_kd (mg_n G) j = 2 := by rw [mm_kd_arr hs]; rfl
          rw [mm_sv_2 hk2, mm_rv_va]
          congr 1
          show _ = ((mm_st false (mg_n G) j).or (if mg_n G = G.1 ∧ j < n.toNatClampNeg then some (G.1 + 1 + j) else mg_r G (mg_n G) j)).map _
          rw [show mm_st false (mg_n G) j = none from rfl, Option.none_or]
          by_cases hj : j < n.toNatClampNeg
          · rw [if_pos hj, if_pos ⟨rfl, hj⟩, hsz]
            show _ = some (κ.1 + (mg_n G + 1 + j))
            congr 1
            omega
          · rw [if_neg hj, if_neg (fun h => hj h.2), (q3 (mg_n G) j (Nat.le_refl _)).2.2]
            rfl
        · obtain ⟨j, hj, rfl⟩ : ∃ j, j < n.toNatClampNeg ∧ o = mg_n G + 1 + j := ⟨o - (mg_n G + 1), by omega, by omega⟩
          refine mm_ce.ofArr (hs2 j hj) ?_
          rw [show κ.1 + (mg_n G + 1 + j) = H.size + 1 + j by omega, hrow j hj]
          congr 2
          funext i
          have hk0 : mm_kd (mg_n G + 1 + j) i = 0 := by rw [mm_kd_arr (hs2 j hj)]; rfl
          rw [mm_sv_0 hk0]
          show _ = Value.int (mg_i G (mg_n G + 1 + j) i)
          rw [(q3 (mg_n G + 1 + j) i (by omega)).1]
    · show F.heap.size = κ.1 + (mg_n G + (1 + n.toNatClampNeg))
      omega
    · have ho' : mg_n G + (1 + n.toNatClampNeg) ≤ o := ho
      obtain ⟨a, b, c0⟩ := q3 o j (by omega)
      refine ⟨a, b, ?_⟩
      show (if o = G.1 ∧ j < n.toNatClampNeg then _ else mg_r G o j) = none
      rw [if_neg (fun h => by have : o = mg_n G := h.1; omega)]
      exact c0
    · show t < mg_n G + (1 + n.toNatClampNeg)
      have ht' : (mm_st false o j).or (if o = G.1 ∧ j < n.toNatClampNeg then some (G.1 + 1 + j) else mg_r G o j) = some t := ht
      rw [show mm_st false o j = none from rfl, Option.none_or] at ht'
      by_cases e0 : o = G.1 ∧ j < n.toNatClampNeg
      · rw [if_pos e0] at ht'
        cases ht'
        show mg_n G + 1 + j < _
        omega
      · rw [if_neg e0] at ht'
        have := q4 o j t (by unfold mm_rr; rw [show mm_st false o j = none from rfl, Option.none_or]; exact ht')
        omega
  have hle : mg_n G ≤ mg_n (mm_fillr G n.toNatClampNeg) := by show mg_n G ≤ mg_n G + _; omega
  obtain ⟨t2, a1, b1⟩ := kk p e s m args below meth c F.heap locs _ _ R arr Q' X (by show cells + 1 + n.toNatClampNeg + mc ≤ _; omega) (by show slots + n.toNatClampNeg + n.toNatClampNeg * k.toNatClampNeg + ms ≤ _; omega) hR hT hH' (mm_S2 hS (by omega) (fun q hq => hold q hq)) hL (hvl.mono hle) (mm_vd.r (hvd.tl.tl.mono hle) (by show mg_n G < mg_n G + _; omega)) F rfl X'
  refine ⟨t2, step t2 ?_, b1⟩
  have e5 : T.heap.size = κ.1 + mg_n G := by rw [hTT]; exact hsz
  rw [e5]
  exact a1
end MN
