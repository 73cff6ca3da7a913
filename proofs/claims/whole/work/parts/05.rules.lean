theorem mm_vd.tl {n : Nat} {v : Value} {st : List Value} (h : mm_vd n (v :: st)) : mm_vd n st := fun a ha => h a (List.mem_cons_of_mem _ ha)
theorem mm_vd.i {n : Nat} {x : Int32} {st : List Value} (h : mm_vd n st) : mm_vd n (.int x :: st) := fun a ha => by
  rcases List.mem_cons.mp ha with q | q
  · cases q
  · exact h a q
theorem mm_vd.l {n : Nat} {x : Int64} {st : List Value} (h : mm_vd n st) : mm_vd n (.long x :: st) := fun a ha => by
  rcases List.mem_cons.mp ha with q | q
  · cases q
  · exact h a q
theorem mm_vd.z {n : Nat} {st : List Value} (h : mm_vd n st) : mm_vd n (.null :: st) := fun a ha => by
  rcases List.mem_cons.mp ha with q | q
  · cases q
  · exact h a q
theorem mm_vd.r {n x : Nat} {st : List Value} (h : mm_vd n st) (hx : x < n) : mm_vd n (.ref x :: st) := fun a ha => by
  rcases List.mem_cons.mp ha with q | q
  · cases q; exact hx
  · exact h a q
theorem mm_vd.c {n : Nat} {v : Value} {st : List Value} (h : mm_vd n st) (hv : mm_vd n [v]) : mm_vd n (v :: st) := fun a ha => by
  rcases List.mem_cons.mp ha with q | q
  · exact hv a (by rw [q]; exact List.mem_singleton_self _)
  · exact h a q
theorem mm_vd.hd {n : Nat} {v : Value} {st : List Value} (h : mm_vd n (v :: st)) : mm_vd n [v] := fun a ha => h a (by rw [List.mem_singleton.mp ha]; exact List.mem_cons_self)
theorem mm_vd.mono {n k : Nat} {st : List Value} (h : mm_vd n st) (e : n ≤ k) : mm_vd k st := fun a ha => Nat.lt_of_lt_of_le (h a ha) e
theorem mm_vl.mono {n k : Nat} {ls : List (Option Value)} (h : mm_vl n ls) (e : n ≤ k) : mm_vl k ls := fun a ha => Nat.lt_of_lt_of_le (h a ha) e
theorem mm_vl.at {n i : Nat} {v : Value} {ls : List (Option Value)} (h : mm_vl n ls) (hi : ls[i]? = some (some v)) : mm_vd n [v] := fun a ha => h a (by rw [List.mem_singleton.mp ha]; exact List.mem_of_getElem? hi)
theorem mm_vl.set {n i : Nat} {v : Value} {ls : List (Option Value)} (h : mm_vl n ls) (hv : mm_vd n [v]) : mm_vl n (ls.set i (some v)) := fun a ha => by
  rcases List.mem_or_eq_of_mem_set ha with q | q
  · exact h a q
  · exact hv a (by rw [Option.some.inj q]; exact List.mem_singleton_self _)
theorem mm_vl.setn {n i : Nat} {ls : List (Option Value)} (h : mm_vl n ls) : mm_vl n (ls.set i none) := fun a ha => by
  rcases List.mem_or_eq_of_mem_set ha with q | q
  · exact h a q
  · cases q
def mm_ps (κ : mm_K) (ls : List (Option Value)) : List (Nat × Value) := (List.range ls.length).filterMap (fun i => ((ls[i]?).bind id).map (fun v => (i, mm_rv κ v)))
theorem mm_ps_in {κ : mm_K} {ls : List (Option Value)} {i : Nat} {v : Value} (h : ls[i]? = some (some v)) : (i, mm_rv κ v) ∈ mm_ps κ ls := by
  refine List.mem_filterMap.mpr ⟨i, List.mem_range.mpr (List.getElem?_eq_some_iff.mp h).1, ?_⟩
  rw [h]; rfl
theorem mm_ps_of {κ : mm_K} {ls : List (Option Value)} {q : Nat × Value} (h : q ∈ mm_ps κ ls) : ∃ (i : Nat) (v : Value), ls[i]? = some (some v) ∧ q = (i, mm_rv κ v) := by
  obtain ⟨i, -, h2⟩ := List.mem_filterMap.mp h
  cases e : ls[i]? with
  | none => rw [e] at h2; simp at h2
  | some w =>
    rw [e] at h2
    cases w with
    | none => simp at h2
    | some v =>
      simp at h2
      exact ⟨i, v, e, h2.symm⟩
theorem mL.has {κ : mm_K} {arr : Array Slot} {nL : Nat} {ls : List (Option Value)} (h : mL κ arr nL ls) : lv_has arr nL (mm_ps κ ls) := ⟨h.1, h.2.1, fun q hq => by
  obtain ⟨i, v, h1, rfl⟩ := mm_ps_of hq
  exact h.2.2 i v h1⟩
def mm_np (ls : List (Option Value)) (i : Nat) : Bool := match i with
  | 0 => true
  | j + 1 => match ls[j]? with
    | some (some v) => !(v.category == 2)
    | _ => true
theorem mm_rv_cat {κ : mm_K} (v : Value) : (mm_rv κ v).category = v.category := by cases v <;> rfl
theorem mL.st1 {κ : mm_K} {arr' : Array Slot} {nL i : Nat} {v : Value} {ls : List (Option Value)} (hp : mm_np ls i = true) (h : lv_has arr' nL ((i, mm_rv κ v) :: (mm_ps κ ls).filter (fun q => !(q.1 == i) && !(q.1 + 1 == i && q.2.category == 2)))) : mL κ arr' nL (ls.set i (some v)) := by
  refine ⟨h.1, h.2.1, fun j w hj => ?_⟩
  by_cases e : j = i
  · subst e
    have hl : j < ls.length := by have := (List.getElem?_eq_some_iff.mp hj).1; simpa using this
    rw [List.getElem?_set_self hl] at hj
    cases hj
    exact h.2.2 _ List.mem_cons_self
  · rw [List.getElem?_set_ne (Ne.symm e)] at hj
    refine h.2.2 (j, mm_rv κ w) (List.mem_cons_of_mem _ (List.mem_filter.mpr ⟨mm_ps_in hj, ?_⟩))
    have e2 : (j == i) = false := by simp [e]
    simp only [e2, Bool.not_false, Bool.true_and, mm_rv_cat]
    by_cases e3 : j + 1 = i
    · subst e3
      simp only [mm_np, hj] at hp
      simp only [beq_self_eq_true, Bool.true_and]
      exact hp
    · simp [e3]
theorem mL.st2 {κ : mm_K} {arr' : Array Slot} {nL i : Nat} {v : Value} {ls : List (Option Value)} (hp : mm_np ls i = true) (h : lv_has arr' nL ((i, mm_rv κ v) :: (mm_ps κ ls).filter (fun q => !(q.1 == i) && (!(q.1 == i + 1) && !(q.1 + 1 == i && q.2.category == 2))))) : mL κ arr' nL ((ls.set i (some v)).set (i + 1) none) := by
  refine ⟨h.1, h.2.1, fun j w hj => ?_⟩
  by_cases e0 : j = i + 1
  · subst e0
    have hl : i + 1 < (ls.set i (some v)).length := by have := (List.getElem?_eq_some_iff.mp hj).1; simpa using this
    rw [List.getElem?_set_self hl] at hj
    cases hj
  rw [List.getElem?_set_ne (Ne.symm e0)] at hj
  by_cases e : j = i
  · subst e
    have hl : j < ls.length := by have := (List.getElem?_eq_some_iff.mp hj).1; simpa using this
    rw [List.getElem?_set_self hl] at hj
    cases hj
    exact h.2.2 _ List.mem_cons_self
  · rw [List.getElem?_set_ne (Ne.symm e)] at hj
    refine h.2.2 (j, mm_rv κ w) (List.mem_cons_of_mem _ (List.mem_filter.mpr ⟨mm_ps_in hj, ?_⟩))
    have e2 : (j == i) = false := by simp [e]
    have e4 : (j == i + 1) = false := by simp [e0]
    simp only [e2, e4, Bool.not_false, Bool.true_and, mm_rv_cat]
    by_cases e3 : j + 1 = i
    · subst e3
      simp only [mm_np, hj] at hp
      simp only [beq_self_eq_true, Bool.true_and]
      exact hp
    · simp [e3]
def mm_fg (ls : List (Option Value)) (is : List Nat) : List (Option Value) := match is with
  | [] => ls
  | i :: r => mm_fg (ls.set i none) r
theorem mm_fg_at {v : Value} : ∀ (is : List Nat) (ls : List (Option Value)) (j : Nat), (mm_fg ls is)[j]? = some (some v) → ls[j]? = some (some v)
  | [], ls, j, h => h
  | i :: r, ls, j, h => by
    have h1 := mm_fg_at r (ls.set i none) j h
    by_cases e : j = i
    · subst e
      have hl : j < ls.length := by have := (List.getElem?_eq_some_iff.mp h1).1; simpa using this
      rw [List.getElem?_set_self hl] at h1
      cases h1
    · rw [List.getElem?_set_ne (Ne.symm e)] at h1
      exact h1
section RU
variable {l : Launch} {κ : mm_K} {ph : Bool} {d mc ms : Nat} {y : mm_Y} {pc : Nat} {ls : List (Option Value)} {st : List Value} {G : mm_G} {Q : Option Value → mm_G → Prop}
/-- some locals are forgotten -/
theorem mV_fg (is : List Nat) {ls' : List (Option Value)} (h : mm_fg ls is = ls') (kk : mV l κ ph d mc ms y pc ls' st G Q) : mV l κ ph d mc ms y pc ls st G Q := by
  intro p e s m args below meth c H locs cells slots R arr Q' X h1 h2 hR hT hH hS hL hvl hvd
  subst h
  refine kk p e s m args below meth c H locs cells slots R arr Q' X h1 h2 hR hT hH hS ⟨hL.1, hL.2.1, fun i v hi => hL.2.2 i v (mm_fg_at is ls i hi)⟩ (fun a ha => ?_) hvd
  obtain ⟨i, hi⟩ := List.getElem?_of_mem ha
  exact hvl a (List.mem_of_getElem? (mm_fg_at is ls i hi))
theorem mV_eq {pc' : Nat} {ls' : List (Option Value)} {st' : List Value} {G' : mm_G} (e1 : pc = pc') (e2 : ls = ls') (e3 : st = st') (e4 : G = G') (kk : mV l κ ph d mc ms y pc' ls' st' G' Q) : mV l κ ph d mc ms y pc ls st G Q := by
  subst e1; subst e2; subst e3; subst e4; exact kk
/-- one step that leaves world and locals -/
theorem mV.go {pc' : Nat} {st' : List Value} (hv : ∀ n, mm_vl n ls → mm_vd n st → mm_vd n st')
    (hw : ∀ (p : Program) (e : Env) (s : State) (m : MethodId) (args : Array Value) (below : List Frame) (meth : Method) (c : Code) (H : Heap) (locs : List Loc) (cells slots : Nat) (R : Room) (Q' : State → Prop) (arr : Array Slot), mX κ y p s m args meth c → mL κ arr y.2.2.1 ls → W p l e R s m args below meth c H locs cells slots Q' (F0 m pc' arr (st'.map (mm_rv κ))) → W p l e R s m args below meth c H locs cells slots Q' (F0 m pc arr (st.map (mm_rv κ))))
    (kk : mV l κ ph d mc ms y pc' ls st' G Q) : mV l κ ph d mc ms y pc ls st G Q := by
  intro p e s m args below meth c H locs cells slots R arr Q' X h1 h2 hR hT hH hS hL hvl hvd
  exact hw p e s m args below meth c H locs cells slots _ _ arr X hL (kk p e s m args below meth c H locs cells slots R arr Q' X h1 h2 hR hT hH hS hL hvl (hv _ hvl hvd))

theorem mV_iconst {n : Int} {v : Int32} (hd : decode y.2.1 pc = .ok (.iconst n, 1)) (hv : Int32.ofInt n = v) (kk : mV l κ ph d mc ms y (pc + 1) ls (.int v :: st) G Q) : mV l κ ph d mc ms y pc ls (st) G Q :=
  mV.go (fun n hl h => h.i) (fun p e s m args below meth c H locs cells slots R Q' arr X hL k => lv_iconst X.1 X.2.1 hd hv k) kk
theorem mV_bipush {n : Int} {v : Int32} (hd : decode y.2.1 pc = .ok (.bipush n, 2)) (hv : (Int8.ofInt n).toInt32 = v) (kk : mV l κ ph d mc ms y (pc + 2) ls (.int v :: st) G Q) : mV l κ ph d mc ms y pc ls (st) G Q :=
  mV.go (fun n hl h => h.i) (fun p e s m args below meth c H locs cells slots R Q' arr X hL k => lv_bipush X.1 X.2.1 hd hv k) kk
theorem mV_sipush {n : Int} {v : Int32} (hd : decode y.2.1 pc = .ok (.sipush n, 3)) (hv : (Int16.ofInt n).toInt32 = v) (kk : mV l κ ph d mc ms y (pc + 3) ls (.int v :: st) G Q) : mV l κ ph d mc ms y pc ls (st) G Q :=
  mV.go (fun n hl h => h.i) (fun p e s m args below meth c H locs cells slots R Q' arr X hL k => lv_sipush X.1 X.2.1 hd hv k) kk
theorem mV_lconst {n : Fin 2} {v : Int64} (hd : decode y.2.1 pc = .ok (.lconst n, 1)) (hv : Int64.ofNat (n : Nat) = v) (kk : mV l κ ph d mc ms y (pc + 1) ls (.long v :: st) G Q) : mV l κ ph d mc ms y pc ls (st) G Q :=
  mV.go (fun n hl h => h.l) (fun p e s m args below meth c H locs cells slots R Q' arr X hL k => lv_lconst X.1 X.2.1 hd hv k) kk
theorem mV_null (hd : decode y.2.1 pc = .ok (.aconst_null, 1)) (kk : mV l κ ph d mc ms y (pc + 1) ls (.null :: st) G Q) : mV l κ ph d mc ms y pc ls (st) G Q :=
  mV.go (fun n hl h => h.z) (fun p e s m args below meth c H locs cells slots R Q' arr X hL k => lv_null X.1 X.2.1 hd k) kk
theorem mV_ldc {idx : Nat} {v : Int32} (hd : decode y.2.1 pc = .ok (.ldc idx, 2)) (hc : Cond.constant y.1.cls idx v ∈ lw_tbl) (kk : mV l κ ph d mc ms y (pc + 2) ls (.int v :: st) G Q) : mV l κ ph d mc ms y pc ls (st) G Q :=
  mV.go (fun n hl h => h.i) (fun p e s m args below meth c H locs cells slots R Q' arr X hL k => lv_ldc X.1 X.2.1 X.2.2.2.2.2.1 (X.2.2.2.2.2.2.2.1 _ (mm_g hc rfl)) hd k) kk
theorem mV_ldcw {idx : Nat} {v : Int32} (hd : decode y.2.1 pc = .ok (.ldc_w idx, 3)) (hc : Cond.constant y.1.cls idx v ∈ lw_tbl) (kk : mV l κ ph d mc ms y (pc + 3) ls (.int v :: st) G Q) : mV l κ ph d mc ms y pc ls (st) G Q :=
  mV.go (fun n hl h => h.i) (fun p e s m args below meth c H locs cells slots R Q' arr X hL k => lv_ldcw X.1 X.2.1 X.2.2.2.2.2.1 (X.2.2.2.2.2.2.2.1 _ (mm_g hc rfl)) hd k) kk
theorem mV_ldc2 {idx : Nat} {v : Int64} (hd : decode y.2.1 pc = .ok (.ldc2_w idx, 3)) (hc : Cond.constantLong y.1.cls idx v ∈ lw_tbl) (kk : mV l κ ph d mc ms y (pc + 3) ls (.long v :: st) G Q) : mV l κ ph d mc ms y pc ls (st) G Q :=
  mV.go (fun n hl h => h.l) (fun p e s m args below meth c H locs cells slots R Q' arr X hL k => lv_ldc2 X.1 X.2.1 X.2.2.2.2.2.1 (X.2.2.2.2.2.2.2.1 _ (mm_g hc rfl)) hd k) kk
theorem mV_iload_n {k : Fin 4} {x : Int32} (hd : decode y.2.1 pc = .ok (.iload_n k, 1)) (h0 : ls[(k : Nat)]? = some (some (.int x))) (kk : mV l κ ph d mc ms y (pc + 1) ls (.int x :: st) G Q) : mV l κ ph d mc ms y pc ls (st) G Q :=
  mV.go (fun n hl h => h.i) (fun p e s m args below meth c H locs cells slots R Q' arr X hL k => lv_iload_n X.1 X.2.1 hd rfl (hL.2.2 _ _ h0) k) kk
theorem mV_iload {i : Nat} {x : Int32} (hd : decode y.2.1 pc = .ok (.iload i, 2)) (h0 : ls[i]? = some (some (.int x))) (kk : mV l κ ph d mc ms y (pc + 2) ls (.int x :: st) G Q) : mV l κ ph d mc ms y pc ls (st) G Q :=
  mV.go (fun n hl h => h.i) (fun p e s m args below meth c H locs cells slots R Q' arr X hL k => lv_iload X.1 X.2.1 hd (hL.2.2 _ _ h0) k) kk
theorem mV_lload_n {k : Fin 4} {x : Int64} (hd : decode y.2.1 pc = .ok (.lload_n k, 1)) (h0 : ls[(k : Nat)]? = some (some (.long x))) (kk : mV l κ ph d mc ms y (pc + 1) ls (.long x :: st) G Q) : mV l κ ph d mc ms y pc ls (st) G Q :=
  mV.go (fun n hl h => h.l) (fun p e s m args below meth c H locs cells slots R Q' arr X hL k => lv_lload_n X.1 X.2.1 hd rfl (hL.2.2 _ _ h0) k) kk
theorem mV_lload {i : Nat} {x : Int64} (hd : decode y.2.1 pc = .ok (.lload i, 2)) (h0 : ls[i]? = some (some (.long x))) (kk : mV l κ ph d mc ms y (pc + 2) ls (.long x :: st) G Q) : mV l κ ph d mc ms y pc ls (st) G Q :=
  mV.go (fun n hl h => h.l) (fun p e s m args below meth c H locs cells slots R Q' arr X hL k => lv_lload X.1 X.2.1 hd (hL.2.2 _ _ h0) k) kk
theorem mV_aload_n {k : Fin 4} {x : Nat} (hd : decode y.2.1 pc = .ok (.aload_n k, 1)) (h0 : ls[(k : Nat)]? = some (some (.ref x))) (kk : mV l κ ph d mc ms y (pc + 1) ls (.ref x :: st) G Q) : mV l κ ph d mc ms y pc ls (st) G Q :=
  mV.go (fun n hl h => h.c (hl.at h0)) (fun p e s m args below meth c H locs cells slots R Q' arr X hL k => lv_aload_n X.1 X.2.1 hd rfl (hL.2.2 _ _ h0) k) kk
theorem mV_aload {i : Nat} {x : Nat} (hd : decode y.2.1 pc = .ok (.aload i, 2)) (h0 : ls[i]? = some (some (.ref x))) (kk : mV l κ ph d mc ms y (pc + 2) ls (.ref x :: st) G Q) : mV l κ ph d mc ms y pc ls (st) G Q :=
  mV.go (fun n hl h => h.c (hl.at h0)) (fun p e s m args below meth c H locs cells slots R Q' arr X hL k => lv_aload X.1 X.2.1 hd (hL.2.2 _ _ h0) k) kk
theorem mV_aload_nN {k : Fin 4} (hd : decode y.2.1 pc = .ok (.aload_n k, 1)) (h0 : ls[(k : Nat)]? = some (some .null)) (kk : mV l κ ph d mc ms y (pc + 1) ls (.null :: st) G Q) : mV l κ ph d mc ms y pc ls (st) G Q :=
  mV.go (fun n hl h => h.z) (fun p e s m args below meth c H locs cells slots R Q' arr X hL k => lv_aload_nN X.1 X.2.1 hd rfl (hL.2.2 _ _ h0) k) kk
theorem mV_aloadN {i : Nat} (hd : decode y.2.1 pc = .ok (.aload i, 2)) (h0 : ls[i]? = some (some .null)) (kk : mV l κ ph d mc ms y (pc + 2) ls (.null :: st) G Q) : mV l κ ph d mc ms y pc ls (st) G Q :=
  mV.go (fun n hl h => h.z) (fun p e s m args below meth c H locs cells slots R Q' arr X hL k => lv_aloadN X.1 X.2.1 hd (hL.2.2 _ _ h0) k) kk
theorem mV_iadd {a b : Int32} (hd : decode y.2.1 pc = .ok (.iadd, 1)) (kk : mV l κ ph d mc ms y (pc + 1) ls (.int (a + b) :: st) G Q) : mV l κ ph d mc ms y pc ls (.int b :: .int a :: st) G Q :=
  mV.go (fun n hl h => h.tl.tl.i) (fun p e s m args below meth c H locs cells slots R Q' arr X hL k => lv_iadd X.1 X.2.1 hd k) kk
theorem mV_isub {a b : Int32} (hd : decode y.2.1 pc = .ok (.isub, 1)) (kk : mV l κ ph d mc ms y (pc + 1) ls (.int (a - b) :: st) G Q) : mV l κ ph d mc ms y pc ls (.int b :: .int a :: st) G Q :=
  mV.go (fun n hl h => h.tl.tl.i) (fun p e s m args below meth c H locs cells slots R Q' arr X hL k => lv_isub X.1 X.2.1 hd k) kk
theorem mV_imul {a b : Int32} (hd : decode y.2.1 pc = .ok (.imul, 1)) (kk : mV l κ ph d mc ms y (pc + 1) ls (.int (a * b) :: st) G Q) : mV l κ ph d mc ms y pc ls (.int b :: .int a :: st) G Q :=
  mV.go (fun n hl h => h.tl.tl.i) (fun p e s m args below meth c H locs cells slots R Q' arr X hL k => lv_imul X.1 X.2.1 hd k) kk
theorem mV_iand {a b : Int32} (hd : decode y.2.1 pc = .ok (.iand, 1)) (kk : mV l κ ph d mc ms y (pc + 1) ls (.int (a &&& b) :: st) G Q) : mV l κ ph d mc ms y pc ls (.int b :: .int a :: st) G Q :=
  mV.go (fun n hl h => h.tl.tl.i) (fun p e s m args below meth c H locs cells slots R Q' arr X hL k => lv_iand X.1 X.2.1 hd k) kk
theorem mV_ior {a b : Int32} (hd : decode y.2.1 pc = .ok (.ior, 1)) (kk : mV l κ ph d mc ms y (pc + 1) ls (.int (a ||| b) :: st) G Q) : mV l κ ph d mc ms y pc ls (.int b :: .int a :: st) G Q :=
  mV.go (fun n hl h => h.tl.tl.i) (fun p e s m args below meth c H locs cells slots R Q' arr X hL k => lv_ior X.1 X.2.1 hd k) kk
theorem mV_ixor {a b : Int32} (hd : decode y.2.1 pc = .ok (.ixor, 1)) (kk : mV l κ ph d mc ms y (pc + 1) ls (.int (a ^^^ b) :: st) G Q) : mV l κ ph d mc ms y pc ls (.int b :: .int a :: st) G Q :=
  mV.go (fun n hl h => h.tl.tl.i) (fun p e s m args below meth c H locs cells slots R Q' arr X hL k => lv_ixor X.1 X.2.1 hd k) kk
theorem mV_ishl {a b : Int32} (hd : decode y.2.1 pc = .ok (.ishl, 1)) (kk : mV l κ ph d mc ms y (pc + 1) ls (.int (a <<< (b &&& 31)) :: st) G Q) : mV l κ ph d mc ms y pc ls (.int b :: .int a :: st) G Q :=
  mV.go (fun n hl h => h.tl.tl.i) (fun p e s m args below meth c H locs cells slots R Q' arr X hL k => lv_ishl X.1 X.2.1 hd k) kk
theorem mV_ishr {a b : Int32} (hd : decode y.2.1 pc = .ok (.ishr, 1)) (kk : mV l κ ph d mc ms y (pc + 1) ls (.int (a >>> (b &&& 31)) :: st) G Q) : mV l κ ph d mc ms y pc ls (.int b :: .int a :: st) G Q :=
  mV.go (fun n hl h => h.tl.tl.i) (fun p e s m args below meth c H locs cells slots R Q' arr X hL k => lv_ishr X.1 X.2.1 hd k) kk
theorem mV_iushr {a b : Int32} (hd : decode y.2.1 pc = .ok (.iushr, 1)) (kk : mV l κ ph d mc ms y (pc + 1) ls (.int ((a.toUInt32 >>> (b.toUInt32 &&& Int32.toUInt32 31)).toInt32) :: st) G Q) : mV l κ ph d mc ms y pc ls (.int b :: .int a :: st) G Q :=
  mV.go (fun n hl h => h.tl.tl.i) (fun p e s m args below meth c H locs cells slots R Q' arr X hL k => lv_iushr X.1 X.2.1 hd rfl k) kk
theorem mV_idiv {a b : Int32} (hd : decode y.2.1 pc = .ok (.idiv, 1)) (hb : ¬ b = 0) (kk : mV l κ ph d mc ms y (pc + 1) ls (.int (a / b) :: st) G Q) : mV l κ ph d mc ms y pc ls (.int b :: .int a :: st) G Q :=
  mV.go (fun n hl h => h.tl.tl.i) (fun p e s m args below meth c H locs cells slots R Q' arr X hL k => lv_idiv X.1 X.2.1 hd hb k) kk
theorem mV_irem {a b : Int32} (hd : decode y.2.1 pc = .ok (.irem, 1)) (hb : ¬ b = 0) (kk : mV l κ ph d mc ms y (pc + 1) ls (.int (a - a / b * b) :: st) G Q) : mV l κ ph d mc ms y pc ls (.int b :: .int a :: st) G Q :=
  mV.go (fun n hl h => h.tl.tl.i) (fun p e s m args below meth c H locs cells slots R Q' arr X hL k => lv_irem X.1 X.2.1 hd hb k) kk
theorem mV_ineg {a : Int32} (hd : decode y.2.1 pc = .ok (.ineg, 1)) (kk : mV l κ ph d mc ms y (pc + 1) ls (.int (-a) :: st) G Q) : mV l κ ph d mc ms y pc ls (.int a :: st) G Q :=
  mV.go (fun n hl h => h.tl.i) (fun p e s m args below meth c H locs cells slots R Q' arr X hL k => lv_ineg X.1 X.2.1 hd k) kk
theorem mV_ladd {a b : Int64} (hd : decode y.2.1 pc = .ok (.ladd, 1)) (kk : mV l κ ph d mc ms y (pc + 1) ls (.long (a + b) :: st) G Q) : mV l κ ph d mc ms y pc ls (.long b :: .long a :: st) G Q :=
  mV.go (fun n hl h => h.tl.tl.l) (fun p e s m args below meth c H locs cells slots R Q' arr X hL k => lv_ladd X.1 X.2.1 hd k) kk
theorem mV_lmul {a b : Int64} (hd : decode y.2.1 pc = .ok (.lmul, 1)) (kk : mV l κ ph d mc ms y (pc + 1) ls (.long (a * b) :: st) G Q) : mV l κ ph d mc ms y pc ls (.long b :: .long a :: st) G Q :=
  mV.go (fun n hl h => h.tl.tl.l) (fun p e s m args below meth c H locs cells slots R Q' arr X hL k => lv_lmul X.1 X.2.1 hd k) kk
theorem mV_ldiv {a b : Int64} (hd : decode y.2.1 pc = .ok (.ldiv, 1)) (hb : ¬ b = 0) (kk : mV l κ ph d mc ms y (pc + 1) ls (.long (a / b) :: st) G Q) : mV l κ ph d mc ms y pc ls (.long b :: .long a :: st) G Q :=
  mV.go (fun n hl h => h.tl.tl.l) (fun p e s m args below meth c H locs cells slots R Q' arr X hL k => lv_ldiv X.1 X.2.1 hd hb k) kk
theorem mV_lrem {a b : Int64} (hd : decode y.2.1 pc = .ok (.lrem, 1)) (hb : ¬ b = 0) (kk : mV l κ ph d mc ms y (pc + 1) ls (.long (a - a / b * b) :: st) G Q) : mV l κ ph d mc ms y pc ls (.long b :: .long a :: st) G Q :=
  mV.go (fun n hl h => h.tl.tl.l) (fun p e s m args below meth c H locs cells slots R Q' arr X hL k => lv_lrem X.1 X.2.1 hd hb k) kk
theorem mV_i2l {a : Int32} (hd : decode y.2.1 pc = .ok (.i2l, 1)) (kk : mV l κ ph d mc ms y (pc + 1) ls (.long a.toInt64 :: st) G Q) : mV l κ ph d mc ms y pc ls (.int a :: st) G Q :=
  mV.go (fun n hl h => h.tl.l) (fun p e s m args below meth c H locs cells slots R Q' arr X hL k => lv_i2l X.1 X.2.1 hd rfl k) kk
theorem mV_l2i {a : Int64} (hd : decode y.2.1 pc = .ok (.l2i, 1)) (kk : mV l κ ph d mc ms y (pc + 1) ls (.int a.toInt32 :: st) G Q) : mV l κ ph d mc ms y pc ls (.long a :: st) G Q :=
  mV.go (fun n hl h => h.tl.i) (fun p e s m args below meth c H locs cells slots R Q' arr X hL k => lv_l2i X.1 X.2.1 hd rfl k) kk
theorem mV_i2b {a : Int32} (hd : decode y.2.1 pc = .ok (.i2b, 1)) (kk : mV l κ ph d mc ms y (pc + 1) ls (.int a.toInt8.toInt32 :: st) G Q) : mV l κ ph d mc ms y pc ls (.int a :: st) G Q :=
  mV.go (fun n hl h => h.tl.i) (fun p e s m args below meth c H locs cells slots R Q' arr X hL k => lv_i2b X.1 X.2.1 hd rfl k) kk
theorem mV_lcmp {a b : Int64} (hd : decode y.2.1 pc = .ok (.lcmp, 1)) (kk : mV l κ ph d mc ms y (pc + 1) ls (.int (lg_cmp a b) :: st) G Q) : mV l κ ph d mc ms y pc ls (.long b :: .long a :: st) G Q :=
  mV.go (fun n hl h => h.tl.tl.i) (fun p e s m args below meth c H locs cells slots R Q' arr X hL k => W.lcmp X.1 X.2.1 hd k) kk
theorem mV_dup {v : Value} (hd : decode y.2.1 pc = .ok (.dup, 1)) (hv : v.category = 1) (kk : mV l κ ph d mc ms y (pc + 1) ls (v :: v :: st) G Q) : mV l κ ph d mc ms y pc ls (v :: st) G Q :=
  mV.go (fun n hl h => h.c h.hd) (fun p e s m args below meth c H locs cells slots R Q' arr X hL k => lv_dup X.1 X.2.1 hd (by rw [mm_rv_cat]; exact hv) k) kk
theorem mV_pop {v : Value} (hd : decode y.2.1 pc = .ok (.pop, 1)) (hv : v.category = 1) (kk : mV l κ ph d mc ms y (pc + 1) ls (st) G Q) : mV l κ ph d mc ms y pc ls (v :: st) G Q :=
  mV.go (fun n hl h => h.tl) (fun p e s m args below meth c H locs cells slots R Q' arr X hL k => lv_pop X.1 X.2.1 hd (by rw [mm_rv_cat]; exact hv) k) kk
theorem mV_dup2 {v w : Value} (hd : decode y.2.1 pc = .ok (.dup2, 1)) (hv : v.category = 1) (hw : w.category = 1) (kk : mV l κ ph d mc ms y (pc + 1) ls (v :: w :: v :: w :: st) G Q) : mV l κ ph d mc ms y pc ls (v :: w :: st) G Q :=
  mV.go (fun n hl h => ((h.c h.tl.hd).c h.hd)) (fun p e s m args below meth c H locs cells slots R Q' arr X hL k => lv_dup2_11 X.1 X.2.1 hd (by rw [mm_rv_cat]; exact hv) (by rw [mm_rv_cat]; exact hw) k) kk
theorem mV_goto {off : Int} {tgt : Nat} (hd : decode y.2.1 pc = .ok (.goto off, 3)) (ht : (pc : Int) + off = (tgt : Int)) (kk : mV l κ ph d mc ms y tgt ls (st) G Q) : mV l κ ph d mc ms y pc ls (st) G Q :=
  mV.go (fun n hl h => h) (fun p e s m args below meth c H locs cells slots R Q' arr X hL k => lv_goto X.1 X.2.1 hd ht k) kk
theorem mV_istore_n {k : Fin 4} {x : Int32} {ls' : List (Option Value)} (hd : decode y.2.1 pc = .ok (.istore_n k, 1)) (hn : (k : Nat) < y.2.2.1) (hp : mm_np ls (k : Nat) = true) (he : ls.set (k : Nat) (some (.int x)) = ls') (kk : mV l κ ph d mc ms y (pc + 1) ls' st G Q) : mV l κ ph d mc ms y pc ls (.int x :: st) G Q := by
  intro p e s m args below meth c H locs cells slots R arr Q' X h1 h2 hR hT hH hS hL hvl hvd
  subst he
  exact lv_istore_n X.1 X.2.1 hd rfl hL.has hn rfl (fun ls' h' => kk p e s m args below meth c H locs cells slots R ls' Q' X h1 h2 hR hT hH hS (mL.st1 (v := .int x) hp h') (hvl.set hvd.hd) hvd.tl)
theorem mV_istore {i : Nat} {x : Int32} {ls' : List (Option Value)} (hd : decode y.2.1 pc = .ok (.istore i, 2)) (hn : i < y.2.2.1) (hp : mm_np ls i = true) (he : ls.set i (some (.int x)) = ls') (kk : mV l κ ph d mc ms y (pc + 2) ls' st G Q) : mV l κ ph d mc ms y pc ls (.int x :: st) G Q := by
  intro p e s m args below meth c H locs cells slots R arr Q' X h1 h2 hR hT hH hS hL hvl hvd
  subst he
  exact lv_istore X.1 X.2.1 hd hL.has hn rfl (fun ls' h' => kk p e s m args below meth c H locs cells slots R ls' Q' X h1 h2 hR hT hH hS (mL.st1 (v := .int x) hp h') (hvl.set hvd.hd) hvd.tl)
theorem mV_astore_n {k : Fin 4} {x : Nat} {ls' : List (Option Value)} (hd : decode y.2.1 pc = .ok (.astore_n k, 1)) (hn : (k : Nat) < y.2.2.1) (hp : mm_np ls (k : Nat) = true) (he : ls.set (k : Nat) (some (.ref x)) = ls') (kk : mV l κ ph d mc ms y (pc + 1) ls' st G Q) : mV l κ ph d mc ms y pc ls (.ref x :: st) G Q := by
  intro p e s m args below meth c H locs cells slots R arr Q' X h1 h2 hR hT hH hS hL hvl hvd
  subst he
  exact lv_astore_n X.1 X.2.1 hd rfl hL.has hn rfl (fun ls' h' => kk p e s m args below meth c H locs cells slots R ls' Q' X h1 h2 hR hT hH hS (mL.st1 (v := .ref x) hp h') (hvl.set hvd.hd) hvd.tl)
theorem mV_astore {i : Nat} {x : Nat} {ls' : List (Option Value)} (hd : decode y.2.1 pc = .ok (.astore i, 2)) (hn : i < y.2.2.1) (hp : mm_np ls i = true) (he : ls.set i (some (.ref x)) = ls') (kk : mV l κ ph d mc ms y (pc + 2) ls' st G Q) : mV l κ ph d mc ms y pc ls (.ref x :: st) G Q := by
  intro p e s m args below meth c H locs cells slots R arr Q' X h1 h2 hR hT hH hS hL hvl hvd
  subst he
  exact lv_astore X.1 X.2.1 hd hL.has hn rfl (fun ls' h' => kk p e s m args below meth c H locs cells slots R ls' Q' X h1 h2 hR hT hH hS (mL.st1 (v := .ref x) hp h') (hvl.set hvd.hd) hvd.tl)
theorem mV_lstore_n {k : Fin 4} {x : Int64} {ls' : List (Option Value)} (hd : decode y.2.1 pc = .ok (.lstore_n k, 1)) (hn : (k : Nat) + 1 < y.2.2.1) (hp : mm_np ls (k : Nat) = true) (he : (ls.set (k : Nat) (some (.long x))).set ((k : Nat) + 1) none = ls') (kk : mV l κ ph d mc ms y (pc + 1) ls' st G Q) : mV l κ ph d mc ms y pc ls (.long x :: st) G Q := by
  intro p e s m args below meth c H locs cells slots R arr Q' X h1 h2 hR hT hH hS hL hvl hvd
  subst he
  exact lv_lstore_n X.1 X.2.1 hd rfl hL.has hn rfl (fun ls' h' => kk p e s m args below meth c H locs cells slots R ls' Q' X h1 h2 hR hT hH hS (mL.st2 (v := .long x) hp h') (hvl.set hvd.hd).setn hvd.tl)
theorem mV_lstore {i : Nat} {x : Int64} {ls' : List (Option Value)} (hd : decode y.2.1 pc = .ok (.lstore i, 2)) (hn : i + 1 < y.2.2.1) (hp : mm_np ls i = true) (he : (ls.set i (some (.long x))).set (i + 1) none = ls') (kk : mV l κ ph d mc ms y (pc + 2) ls' st G Q) : mV l κ ph d mc ms y pc ls (.long x :: st) G Q := by
  intro p e s m args below meth c H locs cells slots R arr Q' X h1 h2 hR hT hH hS hL hvl hvd
  subst he
  exact lv_lstore X.1 X.2.1 hd hL.has hn rfl (fun ls' h' => kk p e s m args below meth c H locs cells slots R ls' Q' X h1 h2 hR hT hH hS (mL.st2 (v := .long x) hp h') (hvl.set hvd.hd).setn hvd.tl)
theorem mV_iinc {i : Nat} {n : Int} {x : Int32} {ls' : List (Option Value)} (hd : decode y.2.1 pc = .ok (.iinc i n, 3)) (h0 : ls[i]? = some (some (.int x))) (hn : i < y.2.2.1) (hp : mm_np ls i = true) (he : ls.set i (some (.int (x + Int32.ofInt n))) = ls') (kk : mV l κ ph d mc ms y (pc + 3) ls' st G Q) : mV l κ ph d mc ms y pc ls st G Q := by
  intro p e s m args below meth c H locs cells slots R arr Q' X h1 h2 hR hT hH hS hL hvl hvd
  subst he
  obtain ⟨k, hk⟩ := List.getElem?_of_mem (mm_ps_in (κ := κ) h0)
  exact lv_iinc X.1 X.2.1 hd hL.has hk rfl hn rfl (fun ls' h' => kk p e s m args below meth c H locs cells slots R ls' Q' X h1 h2 hR hT hH hS (mL.st1 (v := .int (x + Int32.ofInt n)) hp h') (hvl.set (mm_vd.i (fun a ha => by simp at ha))) hvd)
theorem mV_if_eq {a : Int32} {off : Int} {tgt : Nat} (hd : decode y.2.1 pc = .ok (.ifCond .eq off, 3)) (ht : (pc : Int) + off = (tgt : Int)) (kt : a = 0 → mV l κ ph d mc ms y tgt ls st G Q) (kf : ¬ a = 0 → mV l κ ph d mc ms y (pc + 3) ls st G Q) : mV l κ ph d mc ms y pc ls (.int a :: st) G Q := by
  intro p e s m args below meth c H locs cells slots R arr Q' X h1 h2 hR hT hH hS hL hvl hvd
  exact lv_if_eq X.1 X.2.1 hd ht (fun q => kt q p e s m args below meth c H locs cells slots R arr Q' X h1 h2 hR hT hH hS hL hvl hvd.tl) (fun q => kf q p e s m args below meth c H locs cells slots R arr Q' X h1 h2 hR hT hH hS hL hvl hvd.tl)
theorem mV_icmp_eq {a b : Int32} {off : Int} {tgt : Nat} (hd : decode y.2.1 pc = .ok (.if_icmp .eq off, 3)) (ht : (pc : Int) + off = (tgt : Int)) (kt : a = b → mV l κ ph d mc ms y tgt ls st G Q) (kf : ¬ a = b → mV l κ ph d mc ms y (pc + 3) ls st G Q) : mV l κ ph d mc ms y pc ls (.int b :: .int a :: st) G Q := by
  intro p e s m args below meth c H locs cells slots R arr Q' X h1 h2 hR hT hH hS hL hvl hvd
  exact lv_icmp_eq X.1 X.2.1 hd ht (fun q => kt q p e s m args below meth c H locs cells slots R arr Q' X h1 h2 hR hT hH hS hL hvl hvd.tl.tl) (fun q => kf q p e s m args below meth c H locs cells slots R arr Q' X h1 h2 hR hT hH hS hL hvl hvd.tl.tl)
theorem mV_if_ne {a : Int32} {off : Int} {tgt : Nat} (hd : decode y.2.1 pc = .ok (.ifCond .ne off, 3)) (ht : (pc : Int) + off = (tgt : Int)) (kt : ¬ a = 0 → mV l κ ph d mc ms y tgt ls st G Q) (kf : a = 0 → mV l κ ph d mc ms y (pc + 3) ls st G Q) : mV l κ ph d mc ms y pc ls (.int a :: st) G Q := by
  intro p e s m args below meth c H locs cells slots R arr Q' X h1 h2 hR hT hH hS hL hvl hvd
  exact lv_if_ne X.1 X.2.1 hd ht (fun q => kt q p e s m args below meth c H locs cells slots R arr Q' X h1 h2 hR hT hH hS hL hvl hvd.tl) (fun q => kf q p e s m args below meth c H locs cells slots R arr Q' X h1 h2 hR hT hH hS hL hvl hvd.tl)
theorem mV_icmp_ne {a b : Int32} {off : Int} {tgt : Nat} (hd : decode y.2.1 pc = .ok (.if_icmp .ne off, 3)) (ht : (pc : Int) + off = (tgt : Int)) (kt : ¬ a = b → mV l κ ph d mc ms y tgt ls st G Q) (kf : a = b → mV l κ ph d mc ms y (pc + 3) ls st G Q) : mV l κ ph d mc ms y pc ls (.int b :: .int a :: st) G Q := by
  intro p e s m args below meth c H locs cells slots R arr Q' X h1 h2 hR hT hH hS hL hvl hvd
  exact lv_icmp_ne X.1 X.2.1 hd ht (fun q => kt q p e s m args below meth c H locs cells slots R arr Q' X h1 h2 hR hT hH hS hL hvl hvd.tl.tl) (fun q => kf q p e s m args below meth c H locs cells slots R arr Q' X h1 h2 hR hT hH hS hL hvl hvd.tl.tl)
theorem mV_if_lt {a : Int32} {off : Int} {tgt : Nat} (hd : decode y.2.1 pc = .ok (.ifCond .lt off, 3)) (ht : (pc : Int) + off = (tgt : Int)) (kt : a < 0 → mV l κ ph d mc ms y tgt ls st G Q) (kf : ¬ a < 0 → mV l κ ph d mc ms y (pc + 3) ls st G Q) : mV l κ ph d mc ms y pc ls (.int a :: st) G Q := by
  intro p e s m args below meth c H locs cells slots R arr Q' X h1 h2 hR hT hH hS hL hvl hvd
  exact lv_if_lt X.1 X.2.1 hd ht (fun q => kt q p e s m args below meth c H locs cells slots R arr Q' X h1 h2 hR hT hH hS hL hvl hvd.tl) (fun q => kf q p e s m args below meth c H locs cells slots R arr Q' X h1 h2 hR hT hH hS hL hvl hvd.tl)
theorem mV_icmp_lt {a b : Int32} {off : Int} {tgt : Nat} (hd : decode y.2.1 pc = .ok (.if_icmp .lt off, 3)) (ht : (pc : Int) + off = (tgt : Int)) (kt : a < b → mV l κ ph d mc ms y tgt ls st G Q) (kf : ¬ a < b → mV l κ ph d mc ms y (pc + 3) ls st G Q) : mV l κ ph d mc ms y pc ls (.int b :: .int a :: st) G Q := by
  intro p e s m args below meth c H locs cells slots R arr Q' X h1 h2 hR hT hH hS hL hvl hvd
  exact lv_icmp_lt X.1 X.2.1 hd ht (fun q => kt q p e s m args below meth c H locs cells slots R arr Q' X h1 h2 hR hT hH hS hL hvl hvd.tl.tl) (fun q => kf q p e s m args below meth c H locs cells slots R arr Q' X h1 h2 hR hT hH hS hL hvl hvd.tl.tl)
theorem mV_if_ge {a : Int32} {off : Int} {tgt : Nat} (hd : decode y.2.1 pc = .ok (.ifCond .ge off, 3)) (ht : (pc : Int) + off = (tgt : Int)) (kt : 0 ≤ a → mV l κ ph d mc ms y tgt ls st G Q) (kf : ¬ 0 ≤ a → mV l κ ph d mc ms y (pc + 3) ls st G Q) : mV l κ ph d mc ms y pc ls (.int a :: st) G Q := by
  intro p e s m args below meth c H locs cells slots R arr Q' X h1 h2 hR hT hH hS hL hvl hvd
  exact lv_if_ge X.1 X.2.1 hd ht (fun q => kt q p e s m args below meth c H locs cells slots R arr Q' X h1 h2 hR hT hH hS hL hvl hvd.tl) (fun q => kf q p e s m args below meth c H locs cells slots R arr Q' X h1 h2 hR hT hH hS hL hvl hvd.tl)
theorem mV_icmp_ge {a b : Int32} {off : Int} {tgt : Nat} (hd : decode y.2.1 pc = .ok (.if_icmp .ge off, 3)) (ht : (pc : Int) + off = (tgt : Int)) (kt : b ≤ a → mV l κ ph d mc ms y tgt ls st G Q) (kf : ¬ b ≤ a → mV l κ ph d mc ms y (pc + 3) ls st G Q) : mV l κ ph d mc ms y pc ls (.int b :: .int a :: st) G Q := by
  intro p e s m args below meth c H locs cells slots R arr Q' X h1 h2 hR hT hH hS hL hvl hvd
  exact lv_icmp_ge X.1 X.2.1 hd ht (fun q => kt q p e s m args below meth c H locs cells slots R arr Q' X h1 h2 hR hT hH hS hL hvl hvd.tl.tl) (fun q => kf q p e s m args below meth c H locs cells slots R arr Q' X h1 h2 hR hT hH hS hL hvl hvd.tl.tl)
theorem mV_if_gt {a : Int32} {off : Int} {tgt : Nat} (hd : decode y.2.1 pc = .ok (.ifCond .gt off, 3)) (ht : (pc : Int) + off = (tgt : Int)) (kt : 0 < a → mV l κ ph d mc ms y tgt ls st G Q) (kf : ¬ 0 < a → mV l κ ph d mc ms y (pc + 3) ls st G Q) : mV l κ ph d mc ms y pc ls (.int a :: st) G Q := by
  intro p e s m args below meth c H locs cells slots R arr Q' X h1 h2 hR hT hH hS hL hvl hvd
  exact lv_if_gt X.1 X.2.1 hd ht (fun q => kt q p e s m args below meth c H locs cells slots R arr Q' X h1 h2 hR hT hH hS hL hvl hvd.tl) (fun q => kf q p e s m args below meth c H locs cells slots R arr Q' X h1 h2 hR hT hH hS hL hvl hvd.tl)
theorem mV_icmp_gt {a b : Int32} {off : Int} {tgt : Nat} (hd : decode y.2.1 pc = .ok (.if_icmp .gt off, 3)) (ht : (pc : Int) + off = (tgt : Int)) (kt : b < a → mV l κ ph d mc ms y tgt ls st G Q) (kf : ¬ b < a → mV l κ ph d mc ms y (pc + 3) ls st G Q) : mV l κ ph d mc ms y pc ls (.int b :: .int a :: st) G Q := by
  intro p e s m args below meth c H locs cells slots R arr Q' X h1 h2 hR hT hH hS hL hvl hvd
  exact lv_icmp_gt X.1 X.2.1 hd ht (fun q => kt q p e s m args below meth c H locs cells slots R arr Q' X h1 h2 hR hT hH hS hL hvl hvd.tl.tl) (fun q => kf q p e s m args below meth c H locs cells slots R arr Q' X h1 h2 hR hT hH hS hL hvl hvd.tl.tl)
theorem mV_if_le {a : Int32} {off : Int} {tgt : Nat} (hd : decode y.2.1 pc = .ok (.ifCond .le off, 3)) (ht : (pc : Int) + off = (tgt : Int)) (kt : a ≤ 0 → mV l κ ph d mc ms y tgt ls st G Q) (kf : ¬ a ≤ 0 → mV l κ ph d mc ms y (pc + 3) ls st G Q) : mV l κ ph d mc ms y pc ls (.int a :: st) G Q := by
  intro p e s m args below meth c H locs cells slots R arr Q' X h1 h2 hR hT hH hS hL hvl hvd
  exact lv_if_le X.1 X.2.1 hd ht (fun q => kt q p e s m args below meth c H locs cells slots R arr Q' X h1 h2 hR hT hH hS hL hvl hvd.tl) (fun q => kf q p e s m args below meth c H locs cells slots R arr Q' X h1 h2 hR hT hH hS hL hvl hvd.tl)
theorem mV_icmp_le {a b : Int32} {off : Int} {tgt : Nat} (hd : decode y.2.1 pc = .ok (.if_icmp .le off, 3)) (ht : (pc : Int) + off = (tgt : Int)) (kt : a ≤ b → mV l κ ph d mc ms y tgt ls st G Q) (kf : ¬ a ≤ b → mV l κ ph d mc ms y (pc + 3) ls st G Q) : mV l κ ph d mc ms y pc ls (.int b :: .int a :: st) G Q := by
  intro p e s m args below meth c H locs cells slots R arr Q' X h1 h2 hR hT hH hS hL hvl hvd
  exact lv_icmp_le X.1 X.2.1 hd ht (fun q => kt q p e s m args below meth c H locs cells slots R arr Q' X h1 h2 hR hT hH hS hL hvl hvd.tl.tl) (fun q => kf q p e s m args below meth c H locs cells slots R arr Q' X h1 h2 hR hT hH hS hL hvl hvd.tl.tl)
theorem mV_ifnullR {x : Nat} {off : Int} (hd : decode y.2.1 pc = .ok (.ifnull off, 3)) (kk : mV l κ ph d mc ms y (pc + 3) ls (st) G Q) : mV l κ ph d mc ms y pc ls (.ref x :: st) G Q :=
  mV.go (fun n hl h => h.tl) (fun p e s m args below meth c H locs cells slots R Q' arr X hL k => lv_ifnull X.1 X.2.1 hd k) kk
theorem mV_ifnullN {off : Int} {tgt : Nat} (hd : decode y.2.1 pc = .ok (.ifnull off, 3)) (ht : (pc : Int) + off = (tgt : Int)) (kk : mV l κ ph d mc ms y tgt ls (st) G Q) : mV l κ ph d mc ms y pc ls (.null :: st) G Q :=
  mV.go (fun n hl h => h.tl) (fun p e s m args below meth c H locs cells slots R Q' arr X hL k => lv_ifnullN X.1 X.2.1 hd ht k) kk
theorem mV_tabIn {dflt lo hi : Int} {offs : Array Int} {len : Nat} {x : Int32} {off : Int} {tgt : Nat} (hd : decode y.2.1 pc = .ok (.tableswitch dflt lo hi offs, len)) (h1 : ¬ x.toInt < lo) (h2 : ¬ hi < x.toInt) (ho : offs[(x.toInt - lo).toNat]? = some off) (ht : (pc : Int) + off = (tgt : Int)) (kk : mV l κ ph d mc ms y tgt ls (st) G Q) : mV l κ ph d mc ms y pc ls (.int x :: st) G Q :=
  mV.go (fun n hl h => h.tl) (fun p e s m args below meth c H locs cells slots R Q' arr X hL k => lv_tableIn X.1 X.2.1 hd h1 h2 ho ht k) kk
theorem mV_tabOut {dflt lo hi : Int} {offs : Array Int} {len : Nat} {x : Int32} {tgt : Nat} (hd : decode y.2.1 pc = .ok (.tableswitch dflt lo hi offs, len)) (h0 : x.toInt < lo ∨ hi < x.toInt) (ht : (pc : Int) + dflt = (tgt : Int)) (kk : mV l κ ph d mc ms y tgt ls (st) G Q) : mV l κ ph d mc ms y pc ls (.int x :: st) G Q :=
  mV.go (fun n hl h => h.tl) (fun p e s m args below meth c H locs cells slots R Q' arr X hL k => lv_tableOut X.1 X.2.1 hd h0 ht k) kk
theorem mV_lookup {dflt : Int} {ps : Array (Int × Int)} {len : Nat} {x : Int32} {off : Int} {tgt : Nat} (hd : decode y.2.1 pc = .ok (.lookupswitch dflt ps, len)) (hp : (ps.toList.zip (ps.toList.drop 1)).all (fun (a, next) => a.1 < next.1) = true) (ho : Op.lookupswitch.offset ps.toList dflt x.toInt = off) (ht : (pc : Int) + off = (tgt : Int)) (kk : mV l κ ph d mc ms y tgt ls (st) G Q) : mV l κ ph d mc ms y pc ls (.int x :: st) G Q :=
  mV.go (fun n hl h => h.tl) (fun p e s m args below meth c H locs cells slots R Q' arr X hL k => lv_lookup X.1 X.2.1 hd hp ho ht k) kk
end RU
