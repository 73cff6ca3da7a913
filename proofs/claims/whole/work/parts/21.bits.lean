/-! Integer.bitCount -/
def bc_u (a b : Int32) : Int32 := (a.toUInt32 >>> (b.toUInt32 &&& Int32.toUInt32 31)).toInt32
def bc_1 (a : Int32) : Int32 := a - (bc_u a 1 &&& 1431655765)
def bc_2 (a : Int32) : Int32 := (a &&& 858993459) + (bc_u a 2 &&& 858993459)
def bc_3 (a : Int32) : Int32 := (a + bc_u a 4) &&& 252645135
def bc_4 (a : Int32) : Int32 := a + bc_u a 8
def bc_5 (a : Int32) : Int32 := a + bc_u a 16
def bc_n (a : Int32) : Int32 := bc_5 (bc_4 (bc_3 (bc_2 (bc_1 a)))) &&& 63
theorem s_bitCount {l : Launch} {κ : mm_K} {ph : Bool} {d : Nat} {G : mm_G} {K : Int32 → mm_G → Prop} (a : Int32) (h : K (bc_n a) G) : mC l κ ph (d + 1) 0 0 m_J6_bitCount_0f7a4 [.int a] G (rI K) := by
  refine mC.of (by decide +kernel) (by show 1 ≤ 1; omega) [some (.int a)] rfl ?_
  refine mV_iload_n (k := 0) (x := a) (by decide +kernel) rfl ?_
  refine mV_iload_n (k := 0) (x := a) (by decide +kernel) rfl ?_
  refine mV_iconst (n := 1) (v := 1) (by decide +kernel) (by decide) ?_
  refine mV_iushr (by decide +kernel) ?_
  refine mV_ldcw (idx := 265) (v := 1431655765) (by decide +kernel) (mm_t5 57 (by decide +kernel)) ?_
  refine mV_iand (by decide +kernel) ?_
  refine mV_isub (by decide +kernel) ?_
  refine mV_istore_n (k := 0) (x := bc_1 a) (ls' := [some (.int (bc_1 a))]) (by decide +kernel) (Nat.le_of_ble_eq_true rfl) rfl rfl ?_
  refine mV_iload_n (k := 0) (x := (bc_1 a)) (by decide +kernel) rfl ?_
  refine mV_ldcw (idx := 266) (v := 858993459) (by decide +kernel) (mm_t5 58 (by decide +kernel)) ?_
  refine mV_iand (by decide +kernel) ?_
  refine mV_iload_n (k := 0) (x := (bc_1 a)) (by decide +kernel) rfl ?_
  refine mV_iconst (n := 2) (v := 2) (by decide +kernel) (by decide) ?_
  refine mV_iushr (by decide +kernel) ?_
  refine mV_ldcw (idx := 266) (v := 858993459) (by decide +kernel) (mm_t5 58 (by decide +kernel)) ?_
  refine mV_iand (by decide +kernel) ?_
  refine mV_iadd (by decide +kernel) ?_
  refine mV_istore_n (k := 0) (x := bc_2 (bc_1 a)) (ls' := [some (.int (bc_2 (bc_1 a)))]) (by decide +kernel) (Nat.le_of_ble_eq_true rfl) rfl rfl ?_
  refine mV_iload_n (k := 0) (x := (bc_2 (bc_1 a))) (by decide +kernel) rfl ?_
  refine mV_iload_n (k := 0) (x := (bc_2 (bc_1 a))) (by decide +kernel) rfl ?_
  refine mV_iconst (n := 4) (v := 4) (by decide +kernel) (by decide) ?_
  refine mV_iushr (by decide +kernel) ?_
  refine mV_iadd (by decide +kernel) ?_
  refine mV_ldcw (idx := 267) (v := 252645135) (by decide +kernel) (mm_t5 59 (by decide +kernel)) ?_
  refine mV_iand (by decide +kernel) ?_
  refine mV_istore_n (k := 0) (x := bc_3 (bc_2 (bc_1 a))) (ls' := [some (.int (bc_3 (bc_2 (bc_1 a))))]) (by decide +kernel) (Nat.le_of_ble_eq_true rfl) rfl rfl ?_
  refine mV_iload_n (k := 0) (x := (bc_3 (bc_2 (bc_1 a)))) (by decide +kernel) rfl ?_
  refine mV_iload_n (k := 0) (x := (bc_3 (bc_2 (bc_1 a)))) (by decide +kernel) rfl ?_
  refine mV_bipush (n := 8) (v := 8) (by decide +kernel) (by decide) ?_
  refine mV_iushr (by decide +kernel) ?_
  refine mV_iadd (by decide +kernel) ?_
  refine mV_istore_n (k := 0) (x := bc_4 (bc_3 (bc_2 (bc_1 a)))) (ls' := [some (.int (bc_4 (bc_3 (bc_2 (bc_1 a)))))]) (by decide +kernel) (Nat.le_of_ble_eq_true rfl) rfl rfl ?_
  refine mV_iload_n (k := 0) (x := (bc_4 (bc_3 (bc_2 (bc_1 a))))) (by decide +kernel) rfl ?_
  refine mV_iload_n (k := 0) (x := (bc_4 (bc_3 (bc_2 (bc_1 a))))) (by decide +kernel) rfl ?_
  refine mV_bipush (n := 16) (v := 16) (by decide +kernel) (by decide) ?_
  refine mV_iushr (by decide +kernel) ?_
  refine mV_iadd (by decide +kernel) ?_
  refine mV_istore_n (k := 0) (x := bc_5 (bc_4 (bc_3 (bc_2 (bc_1 a))))) (ls' := [some (.int (bc_5 (bc_4 (bc_3 (bc_2 (bc_1 a))))))]) (by decide +kernel) (Nat.le_of_ble_eq_true rfl) rfl rfl ?_
  refine mV_iload_n (k := 0) (x := (bc_5 (bc_4 (bc_3 (bc_2 (bc_1 a)))))) (by decide +kernel) rfl ?_
  refine mV_bipush (n := 63) (v := 63) (by decide +kernel) (by decide) ?_
  refine mV_iand (by decide +kernel) ?_
  exact mV_iret (by decide +kernel) rfl h
