/-! contracts and walks over the world -/
def mm_rv (κ : mm_K) (v : Value) : Value := match v with
  | .ref a => .ref (κ.1 + a)
  | .retAddr n => .ref (κ.2.2 (9 + n))
  | w => w
def mm_rm (d mc ms : Nat) : Room := { frames := d, cells := mc, slots := ms, locals := 64 * d }
/-- the words that are carried into a call -/
def mm_gt : List Cond := lw_tbl.filter goodWord
theorem mm_g {w : Cond} (h : w ∈ lw_tbl) (hg : goodWord w = true) : w ∈ mm_gt := List.mem_filter.mpr ⟨h, hg⟩
def mm_wd (y : mm_Y) : List Cond := Cond.code y.1 y.2.1 y.2.2.1 y.2.2.2 :: mm_gt
def mm_AOI (U : State) : Prop := (Cond.arrayOver (.array .int)).before #[] U = true
theorem mm_AOI.moved {u U : State} (hvm : u.vm.Alike U.vm) (h : mm_AOI u) : mm_AOI U := by
  have hidx : ∀ comp : ClassId, (U.vm.classes.findIdx? fun (x : Class) => match x.kind with | .array component _ => component == comp | _ => false) = (u.vm.classes.findIdx? fun (x : Class) => match x.kind with | .array component _ => component == comp | _ => false) := by
    intro comp
    have h1 := va_idx_bare U.vm comp
    have h2 := va_idx_bare u.vm comp
    have h3 : U.vm.bare = u.vm.bare := by first | exact hvm.bare_eq | exact hvm.bare_eq.symm
    rw [h3] at h1
    exact h1.symm.trans h2
  unfold mm_AOI Cond.before Cond.holds at h ⊢
  simp only [Cond.value, beq_iff_eq] at h ⊢
  rw [hvm.findClass]
  cases hc : u.vm.findClass (FieldType.array .int).toString with
  | none => rw [hc] at h; simp at h
  | some comp =>
    rw [hc] at h
    simp only [Option.bind_some] at h ⊢
    rw [Option.bind_eq_some_iff] at h ⊢
    obtain ⟨c, hi, h2⟩ := h
    refine ⟨c, (hidx comp).trans hi, ?_⟩
    cases hk : u.vm.classes[c]? with
    | none => rw [hk] at h2; simp at h2
    | some k =>
      obtain ⟨k', hk', he⟩ := hvm.2.2 _ _ hk
      rw [hk] at h2
      rw [hk']
      simp only [Option.map_some] at h2 ⊢
      rw [he, hvm.findClass]
      exact h2
/-- what is known of the tables -/
def mm_Kn (κ : mm_K) (U : State) : Prop := va_K κ.2.1 vwCl (mm_tys κ) U ∧ (∀ q ∈ mm_nw, va_Nw (.methodLinkNest q.1 q.2.1 q.2.2.1 q.2.2.2) U) ∧ (∀ C ∈ [RX0, RX1, RX6, RX7], va_AO C U) ∧ mm_AOI U
def mm_byt : List Int32 := [115, 101, 116, 32, 97, 100, 100, 32, 115, 117, 98, 32, 109, 117, 108, 32, 100, 105, 118, 32, 111, 117, 116, 32, 103, 111, 32, 105, 102, 32, 99, 97, 108, 108, 32, 101, 110, 100, 32, 115, 107, 105, 112, 32, 107, 97, 32, 107, 98, 32, 107, 99, 32, 107, 100, 32, 105, 110, 32, 114, 111, 119, 32, 116, 114, 105, 97, 108, 32, 103, 105, 118, 101, 115, 32, 102, 117, 101, 108]
def mm_txt : String := "set add sub mul div out go if call end skip ka kb kc kd in row trial gives fuel"
/-- the script's contents, the constant text's cell and its bytes' cell, all outside the world -/
def mm_xs (κ : mm_K) (j : Nat) : Int32 := Int32.ofNat (κ.2.2 (14 + j))
def mm_E (κ : mm_K) (U : State) : Prop :=
  vk_S 1 [79] [mm_byt] (fun _ => κ.2.2 9) (fun _ => κ.2.2 12) (fun q => κ.1 ≤ q) U U.heap ∧ vk_R RX10 28 mm_txt (κ.2.2 9) U ∧ va_Z "java/lang/String" "COMPACT_STRINGS" "Z" (.int 1) (fun q => κ.1 ≤ q) U U.heap ∧ (va_Z "jdk/internal/util/Preconditions" "SIOOBE_FORMATTER" "Ljava/util/function/BiFunction;" .null (fun q => κ.1 ≤ q) U U.heap ∨ va_Z "jdk/internal/util/Preconditions" "SIOOBE_FORMATTER" "Ljava/util/function/BiFunction;" (.ref (κ.2.2 13)) (fun q => κ.1 ≤ q) U U.heap) ∧ va_X (κ.2.2 10) (κ.2.2 11) (mm_xs κ) U U.heap ∧ κ.2.2 10 < κ.1 ∧ κ.1 ≤ U.heap.size
theorem mm_E.go {κ : mm_K} {s U : State} (hW : s.WarmedH U.vm) (hz : s.heap.size ≤ U.heap.size) (hq : ∀ a : Nat, a < s.heap.size → ¬ κ.1 ≤ a → U.heap[a]? = s.heap[a]?) (h : mm_E κ s) : mm_E κ U := by
  obtain ⟨h1, h2, h3, h4, h5, h6, h7⟩ := h
  exact ⟨(h1.moved hW.alike).kept hq, h2.warm hW, (h3.moved hW.alike).kept hq, h4.imp (fun z => (z.moved hW.alike).kept hq) (fun z => (z.moved hW.alike).kept hq), (h5.moved hW.alike).kept (hq _ (Nat.lt_of_lt_of_le h6 h7) (Nat.not_le.mpr h6)), h6, Nat.le_trans h7 hz⟩
theorem mm_Kn.warm {κ : mm_K} {s U : State} (hW : s.WarmedH U.vm) (h : mm_Kn κ s) : mm_Kn κ U := ⟨va_K.moved hW.alike h.1, fun q hq => (h.2.1 q hq).warmM hW, fun C hC => (h.2.2.1 C hC).moved hW.alike, h.2.2.2.moved hW.alike⟩
def mm_vd (n : Nat) (vs : List Value) : Prop := ∀ a, Value.ref a ∈ vs → a < n
def mm_Pc (κ : mm_K) (ph : Bool) (as : List Value) (G : mm_G) : Array Value → State → Prop := va_Pc (as.map (mm_rv κ)) (fun U => mm_H κ ph G U.heap ∧ mm_Kn κ U ∧ mm_E κ U ∧ mm_vd (mg_n G) as)
def mm_Qc (κ : mm_K) (ph : Bool) (Q : Option Value → mm_G → Prop) : Array Value → State → Outcome → State → Prop := fun _ st o t =>
  (∃ (v : Option Value) (G' : mm_G), o = .returned (v.map (mm_rv κ)) ∧ Q v G' ∧ mm_H κ ph G' t.heap ∧ mm_vd (mg_n G') v.toList) ∧ va_F (fun q => κ.1 ≤ q) st t
/-- a method's contract: called with these values in this world it returns, and Q holds of its answer and of the world behind it -/
def mC (l : Launch) (κ : mm_K) (ph : Bool) (d mc ms : Nat) (y : mm_Y) (as : List Value) (G : mm_G) (Q : Option Value → mm_G → Prop) : Prop :=
  Met l y.1 (mm_wd y) (mm_rm d mc ms) (mm_Pc κ ph as G) (mm_Qc κ ph Q) mc ms (fun q => κ.1 ≤ q)
/-- what holds all along a method -/
def mX (κ : mm_K) (y : mm_Y) (p : Program) (s : State) (m : MethodId) (args : Array Value) (meth : Method) (c : Code) : Prop :=
  p.tables.exec = Jvm.exec ∧ c.code = y.2.1 ∧ c.maxLocals = y.2.2.1 ∧ meth.sig.returnType = y.2.2.2 ∧ meth.locks = false ∧ s.vm.findClass y.1.cls = some m.cls ∧ (y.1.name = "<init>" → meth.name = "<init>") ∧ (∀ w ∈ mm_gt, w.before args s = true) ∧ mm_Kn κ s ∧ mm_E κ s
def mL (κ : mm_K) (arr : Array Slot) (nL : Nat) (ls : List (Option Value)) : Prop := arr.size = nL ∧ lv_wf arr ∧ ∀ (i : Nat) (v : Value), ls[i]? = some (some v) → arr[i]? = some (.val (mm_rv κ v))
def mm_vl (n : Nat) (ls : List (Option Value)) : Prop := ∀ a, some (Value.ref a) ∈ ls → a < n
/-- a return instruction that fits the method, with its answer -/
def mm_rt (y : mm_Y) (pc : Nat) (v : Option Value) : Prop :=
  (y.2.2.2 = some .int ∧ decode y.2.1 pc = .ok (.ireturn, 1) ∧ ∃ x : Int32, v = some (.int x)) ∨ (∃ (ty : FieldType) (x : Int32), y.2.2.2 = some ty ∧ decode y.2.1 pc = .ok (.ireturn, 1) ∧ v = some (.int x) ∧ narrow ty (.int x) = .int x) ∨
  (y.2.2.2 = some .long ∧ decode y.2.1 pc = .ok (.lreturn, 1) ∧ ∃ x : Int64, v = some (.long x)) ∨ (y.2.2.2 = none ∧ decode y.2.1 pc = .ok (.return_, 1) ∧ v = none)
/-- what is wanted behind the method's return -/
def mm_Ret (l : Launch) (κ : mm_K) (ph : Bool) (y : mm_Y) (Q : Option Value → mm_G → Prop) (p : Program) (e : Env) (s : State) (m : MethodId) (args : Array Value) (below : List Frame) (meth : Method) (c : Code) (R : Room) (Q' : State → Prop) : Prop :=
  ∀ (v : Option Value) (G : mm_G) (H : Heap) (locs : List Loc) (cells slots pc : Nat) (arr : Array Slot), Q v G → mm_rt y pc v → mm_H κ ph G H → va_S (fun q => κ.1 ≤ q) s.heap H locs → cells ≤ R.cells → slots ≤ R.slots → mm_vd (mg_n G) v.toList → W p l e R s m args below meth c H locs cells slots Q' (F0 m pc arr (v.toList.map (mm_rv κ)))
/-- the machine in a method's frame: it comes to the method's end, with Q -/
def mV (l : Launch) (κ : mm_K) (ph : Bool) (d mc ms : Nat) (y : mm_Y) (pc : Nat) (ls : List (Option Value)) (st : List Value) (G : mm_G) (Q : Option Value → mm_G → Prop) : Prop :=
  ∀ (p : Program) (e : Env) (s : State) (m : MethodId) (args : Array Value) (below : List Frame) (meth : Method) (c : Code) (H : Heap) (locs : List Loc) (cells slots : Nat) (R : Room) (arr : Array Slot) (Q' : State → Prop),
    mX κ y p s m args meth c → cells + mc ≤ R.cells → slots + ms ≤ R.slots → d ≤ R.frames ∧ 64 * d ≤ R.locals → mm_Ret l κ ph y Q p e s m args below meth c R Q' → mm_H κ ph G H → va_S (fun q => κ.1 ≤ q) s.heap H locs → mL κ arr y.2.2.1 ls → mm_vl (mg_n G) ls → mm_vd (mg_n G) st →
    W p l e R s m args below meth c H locs cells slots Q' (F0 m pc arr (st.map (mm_rv κ)))
theorem mm_rv_va {κ : mm_K} (r : Option Nat) : mm_rv κ (va_rf r) = va_rf (r.map (fun t => κ.1 + t)) := by cases r <;> rfl
def mm_lo (as : List Value) : List (Option Value) := match as with
  | [] => []
  | v :: r => if v.category = 2 then some v :: none :: mm_lo r else some v :: mm_lo r
theorem mm_lo_pairs {κ : mm_K} : ∀ (as : List Value) (i0 : Nat) (i : Nat) (v : Value), (mm_lo as)[i]? = some (some v) → (i0 + i, mm_rv κ v) ∈ lv_args i0 (as.map (mm_rv κ))
  | [], i0, i, v, h => by simp [mm_lo] at h
  | w :: r, i0, i, v, h => by
    have hcat : (mm_rv κ w).category = w.category := by cases w <;> rfl
    unfold mm_lo at h
    rw [List.map_cons, lv_args, hcat]
    by_cases e : w.category = 2
    · rw [if_pos e] at h
      cases i with
      | zero => simp at h; subst h; exact List.mem_cons_self
      | succ i =>
        cases i with
        | zero => simp at h
        | succ i =>
          simp only [List.getElem?_cons_succ] at h
          have := mm_lo_pairs (κ := κ) r (i0 + 2) i v h
          rw [show i0 + 2 + i = i0 + (i + 1 + 1) by omega] at this
          exact List.mem_cons_of_mem _ (by rw [if_pos e]; exact this)
    · rw [if_neg e] at h
      cases i with
      | zero => simp at h; subst h; exact List.mem_cons_self
      | succ i =>
        simp only [List.getElem?_cons_succ] at h
        have := mm_lo_pairs (κ := κ) r (i0 + 1) i v h
        rw [show i0 + 1 + i = i0 + (i + 1) by omega] at this
        exact List.mem_cons_of_mem _ (by rw [if_neg e]; exact this)
theorem mm_lo_mem {a : Nat} : ∀ (as : List Value), some (Value.ref a) ∈ mm_lo as → Value.ref a ∈ as
  | [], h => by simp [mm_lo] at h
  | w :: r, h => by
    unfold mm_lo at h
    by_cases e : w.category = 2
    · rw [if_pos e] at h
      simp only [List.mem_cons] at h
      rcases h with h | h | h
      · cases h; exact List.mem_cons_self
      · cases h
      · exact List.mem_cons_of_mem _ (mm_lo_mem r h)
    · rw [if_neg e] at h
      simp only [List.mem_cons] at h
      rcases h with h | h
      · cases h; exact List.mem_cons_self
      · exact List.mem_cons_of_mem _ (mm_lo_mem r h)
theorem mm_sl_len {κ : mm_K} (as : List Value) : (lg_sl (as.map (mm_rv κ))).length = (lg_sl as).length := by
  induction as with
  | nil => rfl
  | cons a r ih =>
    have hcat : (mm_rv κ a).category = a.category := by cases a <;> rfl
    simp only [lg_sl, List.map_cons, List.flatMap_cons, List.length_append] at ih ⊢
    rw [ih, hcat]
    split <;> rfl
theorem mm_blind {κ : mm_K} {ph : Bool} {as : List Value} {G : mm_G} : FrameBlind (mm_Pc κ ph as G) := by
  intro a U g mk h
  obtain ⟨q0, q1, q2, qE, q3⟩ := h
  exact ⟨q0, q1, mm_Kn.warm (s := U) (U := U.calling g mk a) (State.WarmedH.refl U) q2, mm_E.go (s := U) (U := U.calling g mk a) (State.WarmedH.refl U) (Nat.le_refl _) (fun _ _ _ => rfl) qE, q3⟩
theorem mm_ret {κ : mm_K} {ph : Bool} {G : mm_G} {H : Heap} {s t : State} {locs : List Loc} {v : Option Value} {a : Array Value} {Q : Option Value → mm_G → Prop} (hH : mm_H κ ph G H) (hS : va_S (fun q => κ.1 ≤ q) s.heap H locs) (hq : Q v G) (hv : mm_vd (mg_n G) v.toList) (ht : t.heap = H) : mm_Qc κ ph Q a s (.returned (v.map (mm_rv κ))) t :=
  ⟨⟨v, G, rfl, hq, by rw [ht]; exact hH, hv⟩, hS.F ht⟩
theorem mm_Ret.of {l : Launch} {κ : mm_K} {ph : Bool} {y : mm_Y} {Q : Option Value → mm_G → Prop} {p : Program} {e : Env} {s : State} {m : MethodId} {args : Array Value} {below : List Frame} {meth : Method} {c : Code} {d Mc Ms : Nat} (X : mX κ y p s m args meth c) : mm_Ret l κ ph y Q p e s m args below meth c (mm_rm d Mc Ms) (MQ below (mm_Qc κ ph Q) args s Mc Ms (fun q => κ.1 ≤ q)) := by
  intro v G H locs cells slots pc arr hq hrt hH hS hc hs hv
  have hlocks := X.2.2.2.2.1
  refine W.widen (k := Mc) (n := Ms) hc hs ?_
  rcases hrt with ⟨hr, hd, x, rfl⟩ | ⟨ty, x, hr, hd, rfl, hb⟩ | ⟨hr, hd, x, rfl⟩ | ⟨hr, hd, rfl⟩
  · exact W.iret (v := x) X.1 X.2.1 (X.2.2.2.1.trans hr) (fun t ht hW => mm_ret (v := some (.int x)) hH hS hq hv ht) hS.2.2 hd hlocks
  · exact W.zret (v := x) X.1 X.2.1 (X.2.2.2.1.trans hr) hb (fun t ht hW => mm_ret (v := some (.int x)) hH hS hq hv ht) hS.2.2 hd hlocks
  · exact W.lret (v := x) X.1 X.2.1 (X.2.2.2.1.trans hr) (fun t ht hW => mm_ret (v := some (.long x)) hH hS hq hv ht) hS.2.2 hd hlocks
  · exact W.vret X.1 X.2.1 (X.2.2.2.1.trans hr) (fun t ht hW => mm_ret (v := none) hH hS hq hv ht) hS.2.2 hd hlocks
/-- a contract out of a walk from the entry -/
theorem mC.of {l : Launch} {κ : mm_K} {ph : Bool} {d mc ms : Nat} {y : mm_Y} {as : List Value} {G : mm_G} {Q : Option Value → mm_G → Prop} (hy : plainName y.1.cls = true) (hn : (lg_sl as).length ≤ y.2.2.1) (ls : List (Option Value)) (hls : ls = mm_lo as ++ List.replicate (y.2.2.1 - (mm_lo as).length) none)
    (h : mV l κ ph d mc ms y 0 ls [] G Q) : mC l κ ph d mc ms y as G Q := by
  refine Met.ofW (cc := y.2.1) (maxL := y.2.2.1) (ret := y.2.2.2) hy rfl ?_
  intro p e s m args below meth c s₁ B hml hv
  obtain ⟨rfl, hH, hK, hE, hvd⟩ := hv
  have hts := atoms_spec (ws := mm_wd y) B.pre
  have hX : mX κ y p s m (as.map (mm_rv κ)).toArray meth c := ⟨B.exec, B.bytes, hml, B.returns, B.notSynchronized, findClass_of_methodNamed B.named, fun hi => (name_of_methodNamed B.named B.method).1.trans hi, fun w hw => hts w (List.mem_cons_of_mem _ hw), hK, hE⟩
  have hlen := mm_sl_len (κ := κ) as
  have hl := lv_entry (as.map (mm_rv κ)) (n := y.2.2.1) (by rw [hlen]; exact hn)
  rw [lg_entry_eq]
  generalize (lg_sl (as.map (mm_rv κ)) ++ List.replicate (y.2.2.1 - (lg_sl (as.map (mm_rv κ))).length) Slot.unset).toArray = arr at hl ⊢
  refine h p e s m _ below meth c s.heap [] 0 0 (mm_rm d mc ms) arr _ hX (by show 0 + mc ≤ mc; omega) (by show 0 + ms ≤ ms; omega) ⟨Nat.le_refl _, Nat.le_refl _⟩ (mm_Ret.of hX) hH va_S.rf ⟨hl.1, hl.2.1, fun i v hi => ?_⟩ (fun a ha => ?_) (fun a ha => by simp at ha)
  · rw [hls] at hi
    have hi' : (mm_lo as)[i]? = some (some v) := by
      by_cases q : i < (mm_lo as).length
      · rw [List.getElem?_append_left q] at hi; exact hi
      · rw [List.getElem?_append_right (by omega)] at hi
        rw [List.getElem?_replicate] at hi
        split at hi <;> simp at hi
    have := hl.2.2 _ (mm_lo_pairs (κ := κ) as 0 i v hi')
    simpa using this
  · rw [hls] at ha
    rcases List.mem_append.mp ha with q | q
    · exact hvd a (mm_lo_mem as q)
    · have := (List.mem_replicate.mp q).2
      cases this
