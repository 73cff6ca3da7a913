def R_law : String := "MiceEngineLaw"
def lw_P (b : Addr) (xs : List Int32) (args : Array Value) (s : State) : Prop := args = #[.ref b] ∧ s.IntsAt b xs ∧ xs.length ≤ 3072 ∧ (Jvm.Cond.and given_1 narrow_1).before args s = true
def lw_Q (_ : Array Value) (s : State) (o : Outcome) (t : State) : Prop := o = .returned (some (.int 1)) ∧ Framed s o t [] 600000 7302249
def lw_Z (below : List Frame) (a : Array Value) (s : State) : State → Prop := fun t => ∃ o, t.status = .running ∧ Ended t below o ∧ lw_Q a s o t
/-- the law's own end, with 1 on the stack, nothing written that was there before, its room as the claim has it -/
theorem lw_ret {p : Program} {l : Launch} {e : Env} {s : State} {m : MethodId} {below : List Frame} {meth : Method} {c : Code} {b : Nat} (hx : p.tables.exec = Jvm.exec) (hb : c.code = code) (hr : meth.sig.returnType = ret) (hlocks : meth.locks = false) {pc : Nat} {H : Heap} {ls : Array Slot} (hdg : decode code pc = .ok (.ireturn, 1)) : W p l e room_1 s m #[Value.ref b] below meth c H [] 600000 7302249 (lw_Z below #[Value.ref b] s) (F0 m pc ls [.int 1]) := by
  intro T hT X
  obtain ⟨fs, hret, hrun, hended, hW, hframe⟩ := X.leave (v := some (.int 1)) (hlocks := hlocks) (fun h => by rw [hr] at h; cases h)
  have hmeth' : T.vm.method? m = some meth := X.method'
  refine ⟨T.setFrames fs, ?_, .returned (some (.int 1)), hrun, hended, rfl, ⟨_, rfl⟩, hW, hframe⟩
  jvm_step X.here [X.here.top, hx, hb, hdg, hmeth', hr, ret, narrow_b1]
  (try refine ⟨rfl, ?_⟩); (try refine ⟨rfl, ?_⟩)
  first | (intro acts; rw [hret _ acts rfl rfl rfl]) | rw [hret _ _ rfl rfl rfl]
  exact Steps.refl _
/-- what holds at the law's entry: the machine, the code, the tables' words (any of lw_tbl by 'hts w (by decide +kernel)'), the script of L ints xs at the cell b, what the Statement gives of the start (any of its parts by flat_of_before) -/
def lw_At (p : Program) (s : State) (m : MethodId) (meth : Method) (c : Code) (b L : Nat) (xs : Nat → Int32) : Prop :=
  p.tables.exec = Jvm.exec ∧ c.code = code ∧ meth.sig.returnType = ret ∧ c.maxLocals = 4 ∧ s.vm.findClass R_law = some m.cls ∧ (∀ w ∈ lw_tbl, w.before #[Value.ref b] s = true) ∧ va_X b L xs s s.heap ∧ b < s.heap.size ∧ meth.locks = false ∧ (Jvm.Cond.and given_1 narrow_1).before #[Value.ref b] s = true
theorem mm_ar0 {A : Array Value} {s : State} {ty : FieldType} (h : (Cond.arrayClass ty).before A s = true) (hr : ∀ c, s.vm.findClass ("[" ++ ty.toString) = some c → va_RA s c ty) : ∃ cA : ClassId, ArrOfT s cA ty ∧ va_RA s cA ty := by
  obtain ⟨c, k, comp, h1, h2, h3⟩ := Cond.arrayClass_spec (args := A) (first := s) (o := none) (s := s) (idx := []) h
  exact ⟨c, fun N z => ⟨(fun k h => by cases h), k, h2, comp, h3⟩, hr c h1⟩
theorem mm_ar1 {A : Array Value} {s : State} {C : String} (h : (Cond.arrayOver (.object C)).before A s = true) : ∃ cA : ClassId, ArrOfT s cA (.object C) ∧ va_RA s cA (.object C) := by
  obtain ⟨comp, c, k, h1, h2, h3, h4, h5⟩ := Cond.arrayOver_spec h
  exact ⟨c, fun N z => ⟨(fun k h => by cases h), k, h3, comp, h4⟩, k, comp, h3, h4, h1, h5⟩
theorem mm_ar2 {A : Array Value} {s : State} (h : (Cond.arrayOver (.array .int)).before A s = true) : ∃ cA : ClassId, ArrOfT s cA (.array .int) ∧ va_RA s cA (.array .int) := by
  obtain ⟨comp, c, k, h1, h3, h4, h5⟩ := Cond.arrayOver_specA h
  exact ⟨c, fun N z => ⟨(fun k h => by cases h), k, h3, comp, h4⟩, h5⟩
theorem mm_arA {A : Array Value} {s : State} (hts : ∀ w ∈ lw_tbl, w.before A s = true) (t : Nat) (ht : t < 9) : ∃ cA : ClassId, ArrOfT s cA (mm_aty t) ∧ va_RA s cA (mm_aty t) := by
  match t, ht with
  | 0, _ => exact mm_ar0 (ty := .int) (hts _ (mm_t1 111 (by decide +kernel))) (fun c h => h)
  | 1, _ => exact mm_ar0 (ty := .byte) (hts _ (mm_t1 113 (by decide +kernel))) (fun c h => h)
  | 2, _ => exact mm_ar0 (ty := .boolean) (hts _ (mm_t2 1 (by decide +kernel))) (fun c h => h)
  | 3, _ => exact mm_ar0 (ty := .long) (hts _ (mm_t1 112 (by decide +kernel))) (fun c h => h)
  | 4, _ => exact mm_ar1 (C := RX1) (hts _ (mm_t1 134 (by decide +kernel)))
  | 5, _ => exact mm_ar1 (C := RX6) (hts _ (mm_t1 127 (by decide +kernel)))
  | 6, _ => exact mm_ar1 (C := RX7) (hts _ (mm_t3 52 (by decide +kernel)))
  | 7, _ => exact mm_ar1 (C := RX0) (hts _ (mm_t1 209 (by decide +kernel)))
  | 8, _ => exact mm_ar2 (hts _ (mm_t1 207 (by decide +kernel)))
  | n + 9, h => exact absurd h (by omega)
theorem mm_ins (ci : Nat) (q : vw_C) (h : vwCl[ci]? = some q) : Cond.instantiable q.1 q.2.2 ∈ lw_tbl := by
  match ci, h with
  | 0, h => cases h; exact mm_t1 210 (by decide +kernel)
  | 1, h => cases h; exact mm_t3 181 (by decide +kernel)
  | 2, h => cases h; exact mm_t2 144 (by decide +kernel)
  | 3, h => cases h; exact mm_t2 80 (by decide +kernel)
  | 4, h => cases h; exact mm_t2 176 (by decide +kernel)
  | 5, h => cases h; exact mm_t1 115 (by decide +kernel)
  | 6, h => cases h; exact mm_t1 128 (by decide +kernel)
  | 7, h => cases h; exact mm_t1 121 (by decide +kernel)
  | 8, h => cases h; exact mm_t2 204 (by decide +kernel)
  | 9, h => cases h; exact mm_t3 1 (by decide +kernel)
  | 10, h => cases h; exact mm_t1 30 (by decide +kernel)
  | 11, h => cases h; exact mm_t1 201 (by decide +kernel)
  | 12, h => cases h; exact mm_t1 22 (by decide +kernel)
  | 13, h => cases h; exact mm_t6 66 (by decide +kernel)
  | n + 14, h => simp at h
theorem mm_clA {A : Array Value} {s : State} (hts : ∀ w ∈ lw_tbl, w.before A s = true) (ci : Nat) : ∃ r : ClassId × (Nat → Nat), ∀ q : vw_C, vwCl[ci]? = some q → u_Kn s q.1 q.2.1 q.2.2 r.1 r.2 := by
  cases h : vwCl[ci]? with
  | none => exact ⟨(0, fun _ => 0), fun q hq => by cases hq⟩
  | some q =>
    obtain ⟨cC, iS, hk⟩ := u_known (C := q.1) (T := q.2.1) (N := q.2.2) (n := q.2.2) hts (mm_in ci q h) (hts _ (mm_ins ci q h))
    exact ⟨(cC, iS), fun q' hq => by cases hq; exact hk⟩
theorem mm_i32 (v : Int32) : Int32.ofNat v.toUInt32.toNat = v := by
  first
    | exact congrArg Int32.ofUInt32 (UInt32.ofNat_toNat (x := v.toUInt32))
    | (apply Int32.toBitVec_inj.mp; simp)
    | simp
theorem mm_l79 (i : Nat) (hi : i < 1) : ([79] : List Nat).getD i 0 < 2 ^ 31 := by
  have e : i = 0 := by omega
  subst e
  decide
theorem mm_txA {A : Array Value} {s : State} {P : Nat → Prop} (hg : (Jvm.Cond.and given_1 narrow_1).before A s = true) (hA : ∀ a : Nat, a < s.heap.size → ¬ P a) : ∃ a v : Nat, vk_S 1 [79] [mm_byt] (fun _ => a) (fun _ => v) P s s.heap ∧ (Term.string RX10 28).eval A s none [] s = some (.ref a) := by
  have hs := flat_of_before _ hg
  obtain ⟨adK, adV, h1, h2⟩ := vk_Sof (args := A) (s := s) (N := 1) (tm := fun _ => Term.string RX10 28) (len := [79]) (byt := [mm_byt]) (A := P) (fun i hi => mm_l79 i hi) (fun i hi => hs _ (by decide +kernel)) (fun i hi => hs _ (by decide +kernel)) (fun i hi => hs _ (by decide +kernel)) (fun i hi => by
      have : i = 0 := by omega
      subst this
      exact hs _ (by decide +kernel)) (fun i hi j hj => by
      have : i = 0 := by omega
      subst this
      have hj' : j < 79 := hj
      clear hj
      show (Cond.eq (.elem (.field (Term.string RX10 28) "java/lang/String" "value" "[B") (.int (Int32.ofNat j))) (.int (mm_byt.getD j 0))).before A s = true
      refine hs _ ?_
      revert hj'
      revert j
      decide +kernel) (fun i j hi hj hij => absurd (show i = j by omega) hij) hA
  refine ⟨adK 0, adV 0, ⟨fun i hi => ?_, fun i j hi hj _ => by omega⟩, h2 0 (by omega)⟩
  have : i = 0 := by omega
  subst this
  exact h1.1 0 (by omega)
theorem mm_kap {A : Array Value} {s : State} {b L : Nat} {xs : Nat → Int32} (hts : ∀ w ∈ lw_tbl, w.before A s = true) (hX : va_X b L xs s s.heap) (hb : b < s.heap.size) (hg : (Jvm.Cond.and given_1 narrow_1).before A s = true) :
    ∃ κ : mm_K, κ.1 = s.heap.size ∧ κ.2.2 10 = b ∧ κ.2.2 11 = L ∧ (∀ j, mm_xs κ j = xs j) ∧ mm_Kn κ s ∧ mm_E κ s := by
  have hs := flat_of_before _ hg
  obtain ⟨fc, hfc⟩ := Classical.axiomOfChoice (mm_clA hts)
  obtain ⟨ga, hga⟩ := Classical.axiomOfChoice (fun t : Nat => (show ∃ cA : ClassId, t < 9 → ArrOfT s cA (mm_aty t) ∧ va_RA s cA (mm_aty t) from by
    by_cases h : t < 9
    · obtain ⟨c, hc⟩ := mm_arA hts t h
      exact ⟨c, fun _ => hc⟩
    · exact ⟨0, fun q => absurd q h⟩))
  have hP : ∀ a : Nat, a < s.heap.size → ¬ s.heap.size ≤ a := fun a h => Nat.not_le.mpr h
  obtain ⟨ta, tv, hS, ht⟩ := mm_txA (P := fun q => s.heap.size ≤ q) hg hP
  have hZ : va_Z "java/lang/String" "COMPACT_STRINGS" "Z" (.int 1) (fun q => s.heap.size ≤ q) s s.heap := va_Zof (hts _ (mm_t1 45 (by decide +kernel))) (hts _ (by decide +kernel)) (va_eqi (hs _ (by decide +kernel))) hP
  have hF : va_Zq "jdk/internal/util/Preconditions" "SIOOBE_FORMATTER" "Ljava/util/function/BiFunction;" (fun q => s.heap.size ≤ q) s s.heap := va_Zqof (hts _ (mm_t1 61 (by decide +kernel))) (hts _ (by decide +kernel)) (hs _ (by decide +kernel)) hP
  obtain ⟨fm, hFm⟩ : ∃ fm : Nat, va_Z "jdk/internal/util/Preconditions" "SIOOBE_FORMATTER" "Ljava/util/function/BiFunction;" .null (fun q => s.heap.size ≤ q) s s.heap ∨ va_Z "jdk/internal/util/Preconditions" "SIOOBE_FORMATTER" "Ljava/util/function/BiFunction;" (.ref fm) (fun q => s.heap.size ≤ q) s s.heap := by
    rcases hF with h | ⟨t, h⟩
    · exact ⟨0, Or.inl h⟩
    · exact ⟨t, Or.inr h⟩
  have hR : vk_R RX10 28 mm_txt ta s := vk_R.of (hts _ (mm_t1 35 (by decide +kernel))) ht
  have hAOI : (Cond.arrayOver (.array .int)).before A s = true := hts _ (mm_t1 207 (by decide +kernel))
  let ac : Nat → ClassId := fun t => if t < 9 then ga t else if t = 9 then ta else if t = 10 then b else if t = 11 then L else if t = 12 then tv else if t = 13 then fm else (xs (t - 14)).toUInt32.toNat
  have hxs : ∀ j, Int32.ofNat (ac (14 + j)) = xs j := fun j => by
    show Int32.ofNat (if 14 + j < 9 then ga (14 + j) else if 14 + j = 9 then ta else if 14 + j = 10 then b else if 14 + j = 11 then L else if 14 + j = 12 then tv else if 14 + j = 13 then fm else (xs (14 + j - 14)).toUInt32.toNat) = xs j
    rw [if_neg (by omega), if_neg (by omega), if_neg (by omega), if_neg (by omega), if_neg (by omega), if_neg (by omega), Nat.add_sub_cancel_left]
    exact mm_i32 _
  refine ⟨(s.heap.size, (fun c => (fc c).1, fun c => (fc c).2), ac), rfl, rfl, rfl, hxs, ⟨⟨fun c q hq => hfc c q hq, fun k q hq => ?_⟩, fun q hq => va_Nw.of rfl (hts _ (mm_nw_in q hq)), fun C hC => ?_, hAOI⟩, ⟨hS, hR, hZ, hFm, ?_, hb, Nat.le_refl _⟩⟩
  · have hk : k < 9 := by
      by_cases h : k < 9
      · exact h
      · rw [List.getElem?_eq_none (by simp [mm_tys]; omega)] at hq; cases hq
    rw [mm_tys_at _ hk] at hq
    cases hq
    have e : ac k = ga k := if_pos hk
    show ArrOfT s (ac k) (mm_aty k) ∧ va_RA s (ac k) (mm_aty k)
    rw [e]
    exact hga k hk
  · simp only [List.mem_cons, List.not_mem_nil, or_false] at hC
    rcases hC with rfl | rfl | rfl | rfl
    · exact va_AO.of (hts _ (mm_t1 209 (by decide +kernel)))
    · exact va_AO.of (hts _ (mm_t1 134 (by decide +kernel)))
    · exact va_AO.of (hts _ (mm_t1 127 (by decide +kernel)))
    · exact va_AO.of (hts _ (mm_t3 52 (by decide +kernel)))
  · have e : mm_xs (s.heap.size, (fun c => (fc c).1, fun c => (fc c).2), ac) = xs := funext hxs
    show va_X b L (mm_xs (s.heap.size, (fun c => (fc c).1, fun c => (fc c).2), ac)) s s.heap
    rw [e]
    exact hX
theorem mm_Hz {κ : mm_K} {H : Heap} (h : κ.1 = H.size) : mm_H κ false w_z H := ⟨fun o ho => absurd ho (Nat.not_lt_zero _), h.symm, fun o k _ => ⟨rfl, rfl, rfl⟩, fun o k t h => (by cases h), fun h => (by cases h)⟩
/-- the claim's walk out of the walk of the law's loop in the world behind both constructors -/
theorem mm_glue {p : Program} {e : Env} {s : State} {m : MethodId} {below : List Frame} {meth : Method} {c : Code} (l : Launch) {b L : Nat} {xs : Nat → Int32} {d mc ms : Nat} (hd : d + 10 ≤ 1300) (hmc : 285 + mc ≤ 600000) (hms : 43230 + ms ≤ 7302249) (C0 : lw_At p s m meth c b L xs)
    (kk : ∀ κ : mm_K, κ.2.2 11 = L → (∀ j, mm_xs κ j = xs j) → mV l κ true (d + 10) mc ms m_law 18 [some (.retAddr 1), some (.ref 0), some (.ref 226), some (.int (nI 0))] [] w_fin (rI (fun v _ => v = nI 1))) : W p l e room_1 s m #[Value.ref b] below meth c s.heap [] 0 0 (lw_Z below #[Value.ref b] s) (entryFrame m ([Value.ref b] : List Value).toArray 4) := by
  obtain ⟨hx, hcode, hret, hml, hown, hts, hX, hb, hlocks, hg⟩ := C0
  obtain ⟨κ, k1, k2, k3, k4, hKn, hE⟩ := mm_kap hts hX hb hg
  have hXX : mX κ m_law p s m #[Value.ref b] meth c := ⟨hx, hcode, hml, hret, hlocks, hown, fun h => absurd h (by decide +kernel), fun w hw => hts w (List.mem_filter.mp hw).1, hKn, hE⟩
  have h := law_begin (K := fun v _ => v = nI 1) (fun _ _ _ h => h) (kk κ k3 k4)
  have hl := lv_entry [Value.ref b] (n := 4) (by show 1 ≤ 4; omega)
  rw [lg_entry_eq]
  generalize (lg_sl [Value.ref b] ++ List.replicate (4 - (lg_sl [Value.ref b]).length) Slot.unset).toArray = arr at hl ⊢
  refine h p e s m _ below meth c s.heap [] 0 0 room_1 arr _ hXX (by show 0 + (285 + mc) ≤ 600000; omega) (by show 0 + (43230 + ms) ≤ 7302249; omega) ⟨by show d + 10 ≤ 2048; omega, by show 64 * (d + 10) ≤ 84000; omega⟩ ?_ (mm_Hz k1) va_S.rf ⟨hl.1, hl.2.1, fun i v hi => ?_⟩ (fun a ha => ?_) (fun a ha => by simp at ha)
  · intro v G H locs cells slots pc arr hq hrt hH hS hc hs hv
    obtain ⟨x, rfl, hx1⟩ := hq
    subst hx1
    have hdec : decode code pc = .ok (.ireturn, 1) := by
      rcases hrt with ⟨_, hd, _⟩ | ⟨_, _, _, hd, _, _⟩ | ⟨_, _, x, hv⟩ | ⟨_, _, hv⟩
      · exact hd
      · exact hd
      · cases hv
      · cases hv
    refine W.widen (k := 600000) (n := 7302249) hc hs ?_
    refine va_forget (fun q hq => ?_) ?_
    · have := hS.2.2 q hq
      rw [← k1]; exact this
    · have e1 : nI 1 = 1 := by decide
      show W p l e room_1 s m #[Value.ref b] below meth c H [] 600000 7302249 (lw_Z below #[Value.ref b] s) (F0 m pc arr [.int (nI 1)])
      rw [e1]
      exact lw_ret hx hcode hret hlocks hdec
  · match i, hi with
    | 0, hi =>
      cases hi
      have := hl.2.2 (0, Value.ref b) List.mem_cons_self
      show arr[0]? = some (.val (.ref (κ.2.2 10)))
      rw [k2]; exact this
    | 1, hi => cases hi
    | 2, hi => cases hi
    | 3, hi => cases hi
    | n + 4, hi => simp at hi
  · simp at ha
