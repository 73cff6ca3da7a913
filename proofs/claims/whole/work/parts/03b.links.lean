theorem mm_t1 {w : Cond} (i : Nat) (h : tables_1_1[i]? = some w) : w ∈ lw_tbl := by
  rw [show lw_tbl = k2_sels lw_privs ++ (tables_1_1 ++ (tables_1_2 ++ (tables_1_3 ++ (tables_1_4 ++ (tables_1_5 ++ (tables_1_6 ++ (tables_1_7 ++ (tables_1_8 ++ tables_1_9)))))))) from rfl]
  simp only [List.mem_append]
  have := List.mem_of_getElem? h
  simp [this]
theorem mm_t2 {w : Cond} (i : Nat) (h : tables_1_2[i]? = some w) : w ∈ lw_tbl := by
  rw [show lw_tbl = k2_sels lw_privs ++ (tables_1_1 ++ (tables_1_2 ++ (tables_1_3 ++ (tables_1_4 ++ (tables_1_5 ++ (tables_1_6 ++ (tables_1_7 ++ (tables_1_8 ++ tables_1_9)))))))) from rfl]
  simp only [List.mem_append]
  have := List.mem_of_getElem? h
  simp [this]
theorem mm_t3 {w : Cond} (i : Nat) (h : tables_1_3[i]? = some w) : w ∈ lw_tbl := by
  rw [show lw_tbl = k2_sels lw_privs ++ (tables_1_1 ++ (tables_1_2 ++ (tables_1_3 ++ (tables_1_4 ++ (tables_1_5 ++ (tables_1_6 ++ (tables_1_7 ++ (tables_1_8 ++ tables_1_9)))))))) from rfl]
  simp only [List.mem_append]
  have := List.mem_of_getElem? h
  simp [this]
theorem mm_t4 {w : Cond} (i : Nat) (h : tables_1_4[i]? = some w) : w ∈ lw_tbl := by
  rw [show lw_tbl = k2_sels lw_privs ++ (tables_1_1 ++ (tables_1_2 ++ (tables_1_3 ++ (tables_1_4 ++ (tables_1_5 ++ (tables_1_6 ++ (tables_1_7 ++ (tables_1_8 ++ tables_1_9)))))))) from rfl]
  simp only [List.mem_append]
  have := List.mem_of_getElem? h
  simp [this]
theorem mm_t5 {w : Cond} (i : Nat) (h : tables_1_5[i]? = some w) : w ∈ lw_tbl := by
  rw [show lw_tbl = k2_sels lw_privs ++ (tables_1_1 ++ (tables_1_2 ++ (tables_1_3 ++ (tables_1_4 ++ (tables_1_5 ++ (tables_1_6 ++ (tables_1_7 ++ (tables_1_8 ++ tables_1_9)))))))) from rfl]
  simp only [List.mem_append]
  have := List.mem_of_getElem? h
  simp [this]
theorem mm_t6 {w : Cond} (i : Nat) (h : tables_1_6[i]? = some w) : w ∈ lw_tbl := by
  rw [show lw_tbl = k2_sels lw_privs ++ (tables_1_1 ++ (tables_1_2 ++ (tables_1_3 ++ (tables_1_4 ++ (tables_1_5 ++ (tables_1_6 ++ (tables_1_7 ++ (tables_1_8 ++ tables_1_9)))))))) from rfl]
  simp only [List.mem_append]
  have := List.mem_of_getElem? h
  simp [this]
theorem mm_t7 {w : Cond} (i : Nat) (h : tables_1_7[i]? = some w) : w ∈ lw_tbl := by
  rw [show lw_tbl = k2_sels lw_privs ++ (tables_1_1 ++ (tables_1_2 ++ (tables_1_3 ++ (tables_1_4 ++ (tables_1_5 ++ (tables_1_6 ++ (tables_1_7 ++ (tables_1_8 ++ tables_1_9)))))))) from rfl]
  simp only [List.mem_append]
  have := List.mem_of_getElem? h
  simp [this]
theorem mm_t8 {w : Cond} (i : Nat) (h : tables_1_8[i]? = some w) : w ∈ lw_tbl := by
  rw [show lw_tbl = k2_sels lw_privs ++ (tables_1_1 ++ (tables_1_2 ++ (tables_1_3 ++ (tables_1_4 ++ (tables_1_5 ++ (tables_1_6 ++ (tables_1_7 ++ (tables_1_8 ++ tables_1_9)))))))) from rfl]
  simp only [List.mem_append]
  have := List.mem_of_getElem? h
  simp [this]
theorem mm_t9 {w : Cond} (i : Nat) (h : tables_1_9[i]? = some w) : w ∈ lw_tbl := by
  rw [show lw_tbl = k2_sels lw_privs ++ (tables_1_1 ++ (tables_1_2 ++ (tables_1_3 ++ (tables_1_4 ++ (tables_1_5 ++ (tables_1_6 ++ (tables_1_7 ++ (tables_1_8 ++ tables_1_9)))))))) from rfl]
  simp only [List.mem_append]
  have := List.mem_of_getElem? h
  simp [this]
theorem mm_t11 {y : MethodName} (i : Nat) (h : (lw_privs_1[i]?).map (fun q => q.1) = some y) : Cond.selects y.cls y y ∈ lw_tbl := by
  rw [show lw_tbl = k2_sels lw_privs ++ tables_1 from rfl]
  refine List.mem_append_left _ ?_
  cases e : lw_privs_1[i]? with
  | none => rw [e] at h; cases h
  | some q =>
    rw [e] at h
    have h2 : q.1 = y := by simpa using h
    have hm := List.mem_of_getElem? e
    rw [← h2]
    refine List.mem_map.mpr ⟨q, ?_, rfl⟩
    rw [show lw_privs = lw_privs_1 ++ (lw_privs_2 ++ (lw_privs_3 ++ (lw_privs_4 ++ (lw_privs_5 ++ (lw_privs_6 ++ (lw_privs_7 ++ (lw_privs_8 ++ lw_privs_9))))))) from rfl]
    simp only [List.mem_append]
    simp [hm]
theorem mm_t12 {y : MethodName} (i : Nat) (h : (lw_privs_2[i]?).map (fun q => q.1) = some y) : Cond.selects y.cls y y ∈ lw_tbl := by
  rw [show lw_tbl = k2_sels lw_privs ++ tables_1 from rfl]
  refine List.mem_append_left _ ?_
  cases e : lw_privs_2[i]? with
  | none => rw [e] at h; cases h
  | some q =>
    rw [e] at h
    have h2 : q.1 = y := by simpa using h
    have hm := List.mem_of_getElem? e
    rw [← h2]
    refine List.mem_map.mpr ⟨q, ?_, rfl⟩
    rw [show lw_privs = lw_privs_1 ++ (lw_privs_2 ++ (lw_privs_3 ++ (lw_privs_4 ++ (lw_privs_5 ++ (lw_privs_6 ++ (lw_privs_7 ++ (lw_privs_8 ++ lw_privs_9))))))) from rfl]
    simp only [List.mem_append]
    simp [hm]
theorem mm_t13 {y : MethodName} (i : Nat) (h : (lw_privs_3[i]?).map (fun q => q.1) = some y) : Cond.selects y.cls y y ∈ lw_tbl := by
  rw [show lw_tbl = k2_sels lw_privs ++ tables_1 from rfl]
  refine List.mem_append_left _ ?_
  cases e : lw_privs_3[i]? with
  | none => rw [e] at h; cases h
  | some q =>
    rw [e] at h
    have h2 : q.1 = y := by simpa using h
    have hm := List.mem_of_getElem? e
    rw [← h2]
    refine List.mem_map.mpr ⟨q, ?_, rfl⟩
    rw [show lw_privs = lw_privs_1 ++ (lw_privs_2 ++ (lw_privs_3 ++ (lw_privs_4 ++ (lw_privs_5 ++ (lw_privs_6 ++ (lw_privs_7 ++ (lw_privs_8 ++ lw_privs_9))))))) from rfl]
    simp only [List.mem_append]
    simp [hm]
theorem mm_t14 {y : MethodName} (i : Nat) (h : (lw_privs_4[i]?).map (fun q => q.1) = some y) : Cond.selects y.cls y y ∈ lw_tbl := by
  rw [show lw_tbl = k2_sels lw_privs ++ tables_1 from rfl]
  refine List.mem_append_left _ ?_
  cases e : lw_privs_4[i]? with
  | none => rw [e] at h; cases h
  | some q =>
    rw [e] at h
    have h2 : q.1 = y := by simpa using h
    have hm := List.mem_of_getElem? e
    rw [← h2]
    refine List.mem_map.mpr ⟨q, ?_, rfl⟩
    rw [show lw_privs = lw_privs_1 ++ (lw_privs_2 ++ (lw_privs_3 ++ (lw_privs_4 ++ (lw_privs_5 ++ (lw_privs_6 ++ (lw_privs_7 ++ (lw_privs_8 ++ lw_privs_9))))))) from rfl]
    simp only [List.mem_append]
    simp [hm]
theorem mm_t15 {y : MethodName} (i : Nat) (h : (lw_privs_5[i]?).map (fun q => q.1) = some y) : Cond.selects y.cls y y ∈ lw_tbl := by
  rw [show lw_tbl = k2_sels lw_privs ++ tables_1 from rfl]
  refine List.mem_append_left _ ?_
  cases e : lw_privs_5[i]? with
  | none => rw [e] at h; cases h
  | some q =>
    rw [e] at h
    have h2 : q.1 = y := by simpa using h
    have hm := List.mem_of_getElem? e
    rw [← h2]
    refine List.mem_map.mpr ⟨q, ?_, rfl⟩
    rw [show lw_privs = lw_privs_1 ++ (lw_privs_2 ++ (lw_privs_3 ++ (lw_privs_4 ++ (lw_privs_5 ++ (lw_privs_6 ++ (lw_privs_7 ++ (lw_privs_8 ++ lw_privs_9))))))) from rfl]
    simp only [List.mem_append]
    simp [hm]
theorem mm_t16 {y : MethodName} (i : Nat) (h : (lw_privs_6[i]?).map (fun q => q.1) = some y) : Cond.selects y.cls y y ∈ lw_tbl := by
  rw [show lw_tbl = k2_sels lw_privs ++ tables_1 from rfl]
  refine List.mem_append_left _ ?_
  cases e : lw_privs_6[i]? with
  | none => rw [e] at h; cases h
  | some q =>
    rw [e] at h
    have h2 : q.1 = y := by simpa using h
    have hm := List.mem_of_getElem? e
    rw [← h2]
    refine List.mem_map.mpr ⟨q, ?_, rfl⟩
    rw [show lw_privs = lw_privs_1 ++ (lw_privs_2 ++ (lw_privs_3 ++ (lw_privs_4 ++ (lw_privs_5 ++ (lw_privs_6 ++ (lw_privs_7 ++ (lw_privs_8 ++ lw_privs_9))))))) from rfl]
    simp only [List.mem_append]
    simp [hm]
theorem mm_t17 {y : MethodName} (i : Nat) (h : (lw_privs_7[i]?).map (fun q => q.1) = some y) : Cond.selects y.cls y y ∈ lw_tbl := by
  rw [show lw_tbl = k2_sels lw_privs ++ tables_1 from rfl]
  refine List.mem_append_left _ ?_
  cases e : lw_privs_7[i]? with
  | none => rw [e] at h; cases h
  | some q =>
    rw [e] at h
    have h2 : q.1 = y := by simpa using h
    have hm := List.mem_of_getElem? e
    rw [← h2]
    refine List.mem_map.mpr ⟨q, ?_, rfl⟩
    rw [show lw_privs = lw_privs_1 ++ (lw_privs_2 ++ (lw_privs_3 ++ (lw_privs_4 ++ (lw_privs_5 ++ (lw_privs_6 ++ (lw_privs_7 ++ (lw_privs_8 ++ lw_privs_9))))))) from rfl]
    simp only [List.mem_append]
    simp [hm]
theorem mm_t18 {y : MethodName} (i : Nat) (h : (lw_privs_8[i]?).map (fun q => q.1) = some y) : Cond.selects y.cls y y ∈ lw_tbl := by
  rw [show lw_tbl = k2_sels lw_privs ++ tables_1 from rfl]
  refine List.mem_append_left _ ?_
  cases e : lw_privs_8[i]? with
  | none => rw [e] at h; cases h
  | some q =>
    rw [e] at h
    have h2 : q.1 = y := by simpa using h
    have hm := List.mem_of_getElem? e
    rw [← h2]
    refine List.mem_map.mpr ⟨q, ?_, rfl⟩
    rw [show lw_privs = lw_privs_1 ++ (lw_privs_2 ++ (lw_privs_3 ++ (lw_privs_4 ++ (lw_privs_5 ++ (lw_privs_6 ++ (lw_privs_7 ++ (lw_privs_8 ++ lw_privs_9))))))) from rfl]
    simp only [List.mem_append]
    simp [hm]
theorem mm_t19 {y : MethodName} (i : Nat) (h : (lw_privs_9[i]?).map (fun q => q.1) = some y) : Cond.selects y.cls y y ∈ lw_tbl := by
  rw [show lw_tbl = k2_sels lw_privs ++ tables_1 from rfl]
  refine List.mem_append_left _ ?_
  cases e : lw_privs_9[i]? with
  | none => rw [e] at h; cases h
  | some q =>
    rw [e] at h
    have h2 : q.1 = y := by simpa using h
    have hm := List.mem_of_getElem? e
    rw [← h2]
    refine List.mem_map.mpr ⟨q, ?_, rfl⟩
    rw [show lw_privs = lw_privs_1 ++ (lw_privs_2 ++ (lw_privs_3 ++ (lw_privs_4 ++ (lw_privs_5 ++ (lw_privs_6 ++ (lw_privs_7 ++ (lw_privs_8 ++ lw_privs_9))))))) from rfl]
    simp only [List.mem_append]
    simp [hm]
theorem mm_all {C : String} {T : u_T} {N : Nat} (h : ∀ k, k < N → u_lay C T k ∈ lw_tbl) : ∀ w ∈ u_ws C T N, w ∈ lw_tbl := by
  intro w hw
  obtain ⟨k, hk, rfl⟩ := List.mem_map.mp hw
  exact h k (List.mem_range.mp hk)
theorem mm_tin {w : Cond} (i : Nat) (h : lw_tbl[i]? = some w) : w ∈ lw_tbl := List.mem_of_getElem? h
theorem mm_mem {big ws : List Cond} (ps : List Nat) (hp : ws = ps.filterMap (fun i => big[i]?)) : ∀ w ∈ ws, w ∈ big := by
  intro w hw
  rw [hp] at hw
  obtain ⟨i, -, hi⟩ := List.mem_filterMap.mp hw
  exact List.mem_of_getElem? hi
theorem mm_in0 : ∀ w ∈ u_ws RX0 TX0 4, w ∈ lw_tbl := mm_all (fun k hk => by
  match k, hk with
  | 0, _ => exact mm_t1 232 (by decide +kernel)
  | 1, _ => exact mm_t1 234 (by decide +kernel)
  | 2, _ => exact mm_t1 236 (by decide +kernel)
  | 3, _ => exact mm_t1 238 (by decide +kernel)
  | n + 4, h => omega)
theorem mm_in1 : ∀ w ∈ u_ws RX1 TX1 11, w ∈ lw_tbl := mm_all (fun k hk => by
  match k, hk with
  | 0, _ => exact mm_t3 211 (by decide +kernel)
  | 1, _ => exact mm_t3 213 (by decide +kernel)
  | 2, _ => exact mm_t3 215 (by decide +kernel)
  | 3, _ => exact mm_t3 217 (by decide +kernel)
  | 4, _ => exact mm_t3 219 (by decide +kernel)
  | 5, _ => exact mm_t3 221 (by decide +kernel)
  | 6, _ => exact mm_t3 223 (by decide +kernel)
  | 7, _ => exact mm_t3 225 (by decide +kernel)
  | 8, _ => exact mm_t3 227 (by decide +kernel)
  | 9, _ => exact mm_t3 229 (by decide +kernel)
  | 10, _ => exact mm_t3 231 (by decide +kernel)
  | n + 11, h => omega)
theorem mm_in2 : ∀ w ∈ u_ws RX2 TX2 7, w ∈ lw_tbl := mm_all (fun k hk => by
  match k, hk with
  | 0, _ => exact mm_t2 160 (by decide +kernel)
  | 1, _ => exact mm_t2 162 (by decide +kernel)
  | 2, _ => exact mm_t2 164 (by decide +kernel)
  | 3, _ => exact mm_t2 166 (by decide +kernel)
  | 4, _ => exact mm_t2 168 (by decide +kernel)
  | 5, _ => exact mm_t2 170 (by decide +kernel)
  | 6, _ => exact mm_t2 172 (by decide +kernel)
  | n + 7, h => omega)
theorem mm_in3 : ∀ w ∈ u_ws RX3 TX3 15, w ∈ lw_tbl := mm_all (fun k hk => by
  match k, hk with
  | 0, _ => exact mm_t2 112 (by decide +kernel)
  | 1, _ => exact mm_t2 114 (by decide +kernel)
  | 2, _ => exact mm_t2 116 (by decide +kernel)
  | 3, _ => exact mm_t2 118 (by decide +kernel)
  | 4, _ => exact mm_t2 120 (by decide +kernel)
  | 5, _ => exact mm_t2 122 (by decide +kernel)
  | 6, _ => exact mm_t2 124 (by decide +kernel)
  | 7, _ => exact mm_t2 126 (by decide +kernel)
  | 8, _ => exact mm_t2 128 (by decide +kernel)
  | 9, _ => exact mm_t2 130 (by decide +kernel)
  | 10, _ => exact mm_t2 132 (by decide +kernel)
  | 11, _ => exact mm_t2 134 (by decide +kernel)
  | 12, _ => exact mm_t2 136 (by decide +kernel)
  | 13, _ => exact mm_t2 138 (by decide +kernel)
  | 14, _ => exact mm_t2 140 (by decide +kernel)
  | n + 15, h => omega)
theorem mm_in4 : ∀ w ∈ u_ws RX4 TX4 7, w ∈ lw_tbl := mm_all (fun k hk => by
  match k, hk with
  | 0, _ => exact mm_t2 188 (by decide +kernel)
  | 1, _ => exact mm_t2 190 (by decide +kernel)
  | 2, _ => exact mm_t2 192 (by decide +kernel)
  | 3, _ => exact mm_t2 194 (by decide +kernel)
  | 4, _ => exact mm_t2 196 (by decide +kernel)
  | 5, _ => exact mm_t2 198 (by decide +kernel)
  | 6, _ => exact mm_t2 200 (by decide +kernel)
  | n + 7, h => omega)
theorem mm_in5 : ∀ w ∈ u_ws RX5 TX5 10, w ∈ lw_tbl := mm_all (fun k hk => by
  match k, hk with
  | 0, _ => exact mm_t2 54 (by decide +kernel)
  | 1, _ => exact mm_t2 56 (by decide +kernel)
  | 2, _ => exact mm_t2 58 (by decide +kernel)
  | 3, _ => exact mm_t2 60 (by decide +kernel)
  | 4, _ => exact mm_t2 62 (by decide +kernel)
  | 5, _ => exact mm_t2 64 (by decide +kernel)
  | 6, _ => exact mm_t2 66 (by decide +kernel)
  | 7, _ => exact mm_t2 68 (by decide +kernel)
  | 8, _ => exact mm_t2 70 (by decide +kernel)
  | 9, _ => exact mm_t2 72 (by decide +kernel)
  | n + 10, h => omega)
theorem mm_in6 : ∀ w ∈ u_ws RX6 TX6 4, w ∈ lw_tbl := mm_all (fun k hk => by
  match k, hk with
  | 0, _ => exact mm_t1 156 (by decide +kernel)
  | 1, _ => exact mm_t1 158 (by decide +kernel)
  | 2, _ => exact mm_t1 160 (by decide +kernel)
  | 3, _ => exact mm_t1 162 (by decide +kernel)
  | n + 4, h => omega)
theorem mm_in7 : ∀ w ∈ u_ws RX7 TX7 6, w ∈ lw_tbl := mm_all (fun k hk => by
  match k, hk with
  | 0, _ => exact mm_t1 187 (by decide +kernel)
  | 1, _ => exact mm_t1 189 (by decide +kernel)
  | 2, _ => exact mm_t1 191 (by decide +kernel)
  | 3, _ => exact mm_t1 193 (by decide +kernel)
  | 4, _ => exact mm_t1 195 (by decide +kernel)
  | 5, _ => exact mm_t1 197 (by decide +kernel)
  | n + 6, h => omega)
theorem mm_in8 : ∀ w ∈ u_ws RX8 TX8 9, w ∈ lw_tbl := mm_all (fun k hk => by
  match k, hk with
  | 0, _ => exact mm_t2 221 (by decide +kernel)
  | 1, _ => exact mm_t2 223 (by decide +kernel)
  | 2, _ => exact mm_t2 225 (by decide +kernel)
  | 3, _ => exact mm_t2 227 (by decide +kernel)
  | 4, _ => exact mm_t2 229 (by decide +kernel)
  | 5, _ => exact mm_t2 231 (by decide +kernel)
  | 6, _ => exact mm_t2 233 (by decide +kernel)
  | 7, _ => exact mm_t2 235 (by decide +kernel)
  | 8, _ => exact mm_t2 237 (by decide +kernel)
  | n + 9, h => omega)
theorem mm_in9 : ∀ w ∈ u_ws RX9 TX9 14, w ∈ lw_tbl := mm_all (fun k hk => by
  match k, hk with
  | 0, _ => exact mm_t3 23 (by decide +kernel)
  | 1, _ => exact mm_t3 25 (by decide +kernel)
  | 2, _ => exact mm_t3 27 (by decide +kernel)
  | 3, _ => exact mm_t3 29 (by decide +kernel)
  | 4, _ => exact mm_t3 31 (by decide +kernel)
  | 5, _ => exact mm_t3 33 (by decide +kernel)
  | 6, _ => exact mm_t3 35 (by decide +kernel)
  | 7, _ => exact mm_t3 37 (by decide +kernel)
  | 8, _ => exact mm_t3 39 (by decide +kernel)
  | 9, _ => exact mm_t3 41 (by decide +kernel)
  | 10, _ => exact mm_t3 43 (by decide +kernel)
  | 11, _ => exact mm_t3 45 (by decide +kernel)
  | 12, _ => exact mm_t3 47 (by decide +kernel)
  | 13, _ => exact mm_t3 49 (by decide +kernel)
  | n + 14, h => omega)
theorem mm_in10 : ∀ w ∈ u_ws RX10 TX10 6, w ∈ lw_tbl := mm_all (fun k hk => by
  match k, hk with
  | 0, _ => exact mm_t1 98 (by decide +kernel)
  | 1, _ => exact mm_t1 100 (by decide +kernel)
  | 2, _ => exact mm_t1 102 (by decide +kernel)
  | 3, _ => exact mm_t1 104 (by decide +kernel)
  | 4, _ => exact mm_t1 106 (by decide +kernel)
  | 5, _ => exact mm_t1 108 (by decide +kernel)
  | n + 6, h => omega)
theorem mm_in11 : ∀ w ∈ u_ws RX11 TX11 6, w ∈ lw_tbl := mm_all (fun k hk => by
  match k, hk with
  | 0, _ => exact mm_t2 27 (by decide +kernel)
  | 1, _ => exact mm_t2 29 (by decide +kernel)
  | 2, _ => exact mm_t2 31 (by decide +kernel)
  | 3, _ => exact mm_t2 33 (by decide +kernel)
  | 4, _ => exact mm_t2 35 (by decide +kernel)
  | 5, _ => exact mm_t2 37 (by decide +kernel)
  | n + 6, h => omega)
theorem mm_in12 : ∀ w ∈ u_ws RX12 TX12 12, w ∈ lw_tbl := mm_all (fun k hk => by
  match k, hk with
  | 0, _ => exact mm_t3 65 (by decide +kernel)
  | 1, _ => exact mm_t3 67 (by decide +kernel)
  | 2, _ => exact mm_t3 69 (by decide +kernel)
  | 3, _ => exact mm_t3 71 (by decide +kernel)
  | 4, _ => exact mm_t3 73 (by decide +kernel)
  | 5, _ => exact mm_t3 75 (by decide +kernel)
  | 6, _ => exact mm_t3 77 (by decide +kernel)
  | 7, _ => exact mm_t3 79 (by decide +kernel)
  | 8, _ => exact mm_t3 81 (by decide +kernel)
  | 9, _ => exact mm_t3 83 (by decide +kernel)
  | 10, _ => exact mm_t3 85 (by decide +kernel)
  | 11, _ => exact mm_t3 87 (by decide +kernel)
  | n + 12, h => omega)
theorem mm_in13 : ∀ w ∈ u_ws RX13 TX13 85, w ∈ lw_tbl := mm_all (fun k hk => by
  match k, hk with
  | 0, _ => exact mm_t6 162 (by decide +kernel)
  | 1, _ => exact mm_t6 164 (by decide +kernel)
  | 2, _ => exact mm_t6 166 (by decide +kernel)
  | 3, _ => exact mm_t6 168 (by decide +kernel)
  | 4, _ => exact mm_t6 170 (by decide +kernel)
  | 5, _ => exact mm_t6 172 (by decide +kernel)
  | 6, _ => exact mm_t6 174 (by decide +kernel)
  | 7, _ => exact mm_t6 176 (by decide +kernel)
  | 8, _ => exact mm_t6 178 (by decide +kernel)
  | 9, _ => exact mm_t6 180 (by decide +kernel)
  | 10, _ => exact mm_t6 182 (by decide +kernel)
  | 11, _ => exact mm_t6 184 (by decide +kernel)
  | 12, _ => exact mm_t6 186 (by decide +kernel)
  | 13, _ => exact mm_t6 188 (by decide +kernel)
  | 14, _ => exact mm_t6 190 (by decide +kernel)
  | 15, _ => exact mm_t6 192 (by decide +kernel)
  | 16, _ => exact mm_t6 194 (by decide +kernel)
  | 17, _ => exact mm_t6 196 (by decide +kernel)
  | 18, _ => exact mm_t6 198 (by decide +kernel)
  | 19, _ => exact mm_t6 200 (by decide +kernel)
  | 20, _ => exact mm_t6 202 (by decide +kernel)
  | 21, _ => exact mm_t6 204 (by decide +kernel)
  | 22, _ => exact mm_t6 206 (by decide +kernel)
  | 23, _ => exact mm_t6 208 (by decide +kernel)
  | 24, _ => exact mm_t6 210 (by decide +kernel)
  | 25, _ => exact mm_t6 212 (by decide +kernel)
  | 26, _ => exact mm_t6 214 (by decide +kernel)
  | 27, _ => exact mm_t6 216 (by decide +kernel)
  | 28, _ => exact mm_t6 218 (by decide +kernel)
  | 29, _ => exact mm_t6 220 (by decide +kernel)
  | 30, _ => exact mm_t6 222 (by decide +kernel)
  | 31, _ => exact mm_t6 224 (by decide +kernel)
  | 32, _ => exact mm_t6 226 (by decide +kernel)
  | 33, _ => exact mm_t6 228 (by decide +kernel)
  | 34, _ => exact mm_t6 230 (by decide +kernel)
  | 35, _ => exact mm_t6 232 (by decide +kernel)
  | 36, _ => exact mm_t6 234 (by decide +kernel)
  | 37, _ => exact mm_t6 236 (by decide +kernel)
  | 38, _ => exact mm_t6 238 (by decide +kernel)
  | 39, _ => exact mm_t7 0 (by decide +kernel)
  | 40, _ => exact mm_t7 2 (by decide +kernel)
  | 41, _ => exact mm_t7 4 (by decide +kernel)
  | 42, _ => exact mm_t7 6 (by decide +kernel)
  | 43, _ => exact mm_t7 8 (by decide +kernel)
  | 44, _ => exact mm_t7 10 (by decide +kernel)
  | 45, _ => exact mm_t7 12 (by decide +kernel)
  | 46, _ => exact mm_t7 14 (by decide +kernel)
  | 47, _ => exact mm_t7 16 (by decide +kernel)
  | 48, _ => exact mm_t7 18 (by decide +kernel)
  | 49, _ => exact mm_t7 20 (by decide +kernel)
  | 50, _ => exact mm_t7 22 (by decide +kernel)
  | 51, _ => exact mm_t7 24 (by decide +kernel)
  | 52, _ => exact mm_t7 26 (by decide +kernel)
  | 53, _ => exact mm_t7 28 (by decide +kernel)
  | 54, _ => exact mm_t7 30 (by decide +kernel)
  | 55, _ => exact mm_t7 32 (by decide +kernel)
  | 56, _ => exact mm_t7 34 (by decide +kernel)
  | 57, _ => exact mm_t7 36 (by decide +kernel)
  | 58, _ => exact mm_t7 38 (by decide +kernel)
  | 59, _ => exact mm_t7 40 (by decide +kernel)
  | 60, _ => exact mm_t7 42 (by decide +kernel)
  | 61, _ => exact mm_t7 44 (by decide +kernel)
  | 62, _ => exact mm_t7 46 (by decide +kernel)
  | 63, _ => exact mm_t7 48 (by decide +kernel)
  | 64, _ => exact mm_t7 50 (by decide +kernel)
  | 65, _ => exact mm_t7 52 (by decide +kernel)
  | 66, _ => exact mm_t7 54 (by decide +kernel)
  | 67, _ => exact mm_t7 56 (by decide +kernel)
  | 68, _ => exact mm_t7 58 (by decide +kernel)
  | 69, _ => exact mm_t7 60 (by decide +kernel)
  | 70, _ => exact mm_t7 62 (by decide +kernel)
  | 71, _ => exact mm_t7 64 (by decide +kernel)
  | 72, _ => exact mm_t7 66 (by decide +kernel)
  | 73, _ => exact mm_t7 68 (by decide +kernel)
  | 74, _ => exact mm_t7 70 (by decide +kernel)
  | 75, _ => exact mm_t7 72 (by decide +kernel)
  | 76, _ => exact mm_t7 74 (by decide +kernel)
  | 77, _ => exact mm_t7 76 (by decide +kernel)
  | 78, _ => exact mm_t7 78 (by decide +kernel)
  | 79, _ => exact mm_t7 80 (by decide +kernel)
  | 80, _ => exact mm_t7 82 (by decide +kernel)
  | 81, _ => exact mm_t7 84 (by decide +kernel)
  | 82, _ => exact mm_t7 86 (by decide +kernel)
  | 83, _ => exact mm_t7 88 (by decide +kernel)
  | 84, _ => exact mm_t7 90 (by decide +kernel)
  | n + 85, h => omega)
theorem mm_in (ci : Nat) (q : vw_C) (h : vwCl[ci]? = some q) : ∀ w ∈ u_ws q.1 q.2.1 q.2.2, w ∈ lw_tbl := by
  match ci, h with
  | 0, h => cases h; exact mm_in0
  | 1, h => cases h; exact mm_in1
  | 2, h => cases h; exact mm_in2
  | 3, h => cases h; exact mm_in3
  | 4, h => cases h; exact mm_in4
  | 5, h => cases h; exact mm_in5
  | 6, h => cases h; exact mm_in6
  | 7, h => cases h; exact mm_in7
  | 8, h => cases h; exact mm_in8
  | 9, h => cases h; exact mm_in9
  | 10, h => cases h; exact mm_in10
  | 11, h => cases h; exact mm_in11
  | 12, h => cases h; exact mm_in12
  | 13, h => cases h; exact mm_in13
  | n + 14, h => simp at h
theorem mm_nm (ci : Nat) (q : vw_C) (h : vwCl[ci]? = some q) : ∀ a, a < q.2.2 → ∀ b, b < q.2.2 → a ≠ b → (q.2.1 a).2.1 ≠ (q.2.1 b).2.1 := by
  match ci, h with
  | 0, h => cases h; exact nmX0
  | 1, h => cases h; exact nmX1
  | 2, h => cases h; exact nmX2
  | 3, h => cases h; exact nmX3
  | 4, h => cases h; exact nmX4
  | 5, h => cases h; exact nmX5
  | 6, h => cases h; exact nmX6
  | 7, h => cases h; exact nmX7
  | 8, h => cases h; exact nmX8
  | 9, h => cases h; exact nmX9
  | 10, h => cases h; exact nmX10
  | 11, h => cases h; exact nmX11
  | 12, h => cases h; exact nmX12
  | 13, h => cases h; exact nmX13
  | n + 14, h => simp at h
theorem mm_tk (ci : Nat) (q : vw_C) (h : vwCl[ci]? = some q) : ∀ k, k < q.2.2 → parseFieldDescriptor (q.2.1 k).2.2.1 = some (mm_fty ci k) := by
  match ci, h with
  | 0, h => cases h; exact tyX0_ok
  | 1, h => cases h; exact tyX1_ok
  | 2, h => cases h; exact tyX2_ok
  | 3, h => cases h; exact tyX3_ok
  | 4, h => cases h; exact tyX4_ok
  | 5, h => cases h; exact tyX5_ok
  | 6, h => cases h; exact tyX6_ok
  | 7, h => cases h; exact tyX7_ok
  | 8, h => cases h; exact tyX8_ok
  | 9, h => cases h; exact tyX9_ok
  | 10, h => cases h; exact tyX10_ok
  | 11, h => cases h; exact tyX11_ok
  | 12, h => cases h; exact tyX12_ok
  | 13, h => cases h; exact tyX13_ok
  | n + 14, h => simp at h
/-- a field's entry in the pool of a class: which field it is, of which kind, final or not -/
def mm_fo (tb : List Cond) (ti : Nat) (own : String) (idx ci k N kd : Nat) (fin : Bool) : Bool := match vwCl[ci]? with
  | none => false
  | some q => decide (q.2.2 = N) && decide (k < N) && decide (tb[ti]? = some (Cond.fieldLink own idx (q.2.1 k).1 (q.2.1 k).2.1 (q.2.1 k).2.2.1)) && decide (mm_fk (mm_fty ci k) = kd) && decide ((q.2.1 k).2.2.2 = fin) && decide (kd = 0 → mm_fty ci k = .int)
def mm_fok (own : String) (idx ci k N kd : Nat) (fin : Bool) : Prop := ∃ (C : String) (T : u_T), vwCl[ci]? = some (C, T, N) ∧ k < N ∧ Cond.fieldLink own idx (T k).1 (T k).2.1 (T k).2.2.1 ∈ lw_tbl ∧ mm_fk (mm_fty ci k) = kd ∧ (T k).2.2.2 = fin ∧ (kd = 0 → mm_fty ci k = .int)
theorem mm_fo_spec {own : String} {ti idx ci k N kd : Nat} {fin : Bool} {tb : List Cond} (ht : ∀ (w : Cond) (i : Nat), tb[i]? = some w → w ∈ lw_tbl) (h : mm_fo tb ti own idx ci k N kd fin = true) : mm_fok own idx ci k N kd fin := by
  unfold mm_fo at h
  cases e : vwCl[ci]? with
  | none => rw [e] at h; cases h
  | some q =>
    obtain ⟨C, T, N'⟩ := q
    rw [e] at h
    simp only [Bool.and_eq_true, decide_eq_true_eq] at h
    obtain ⟨⟨⟨⟨⟨h1, h2⟩, h3⟩, h4⟩, h5⟩, h6⟩ := h
    subst h1
    exact ⟨C, T, e, h2, ht _ _ h3, h4, h5, h6⟩
theorem fk_10_9 : mm_fok RX10 9 10 0 6 2 true := mm_fo_spec (ti := 88) (tb := tables_1_1) (fun w i h => mm_t1 i h) (by decide +kernel)
theorem fk_10_15 : mm_fok RX10 15 10 1 6 2 true := mm_fo_spec (ti := 89) (tb := tables_1_1) (fun w i h => mm_t1 i h) (by decide +kernel)
theorem fk_5_52 : mm_fok RX5 52 10 1 6 2 true := mm_fo_spec (ti := 90) (tb := tables_1_1) (fun w i h => mm_t1 i h) (by decide +kernel)
theorem fk_10_18 : mm_fok RX10 18 10 2 6 2 true := mm_fo_spec (ti := 91) (tb := tables_1_1) (fun w i h => mm_t1 i h) (by decide +kernel)
theorem fk_5_65 : mm_fok RX5 65 10 2 6 2 true := mm_fo_spec (ti := 92) (tb := tables_1_1) (fun w i h => mm_t1 i h) (by decide +kernel)
theorem fk_10_21 : mm_fok RX10 21 10 3 6 2 true := mm_fo_spec (ti := 93) (tb := tables_1_1) (fun w i h => mm_t1 i h) (by decide +kernel)
theorem fk_5_91 : mm_fok RX5 91 10 3 6 2 true := mm_fo_spec (ti := 94) (tb := tables_1_1) (fun w i h => mm_t1 i h) (by decide +kernel)
theorem fk_12_92 : mm_fok RX12 92 10 4 6 0 false := mm_fo_spec (ti := 95) (tb := tables_1_1) (fun w i h => mm_t1 i h) (by decide +kernel)
theorem fk_10_44 : mm_fok RX10 44 10 4 6 0 false := mm_fo_spec (ti := 96) (tb := tables_1_1) (fun w i h => mm_t1 i h) (by decide +kernel)
theorem fk_10_25 : mm_fok RX10 25 10 5 6 2 true := mm_fo_spec (ti := 97) (tb := tables_1_1) (fun w i h => mm_t1 i h) (by decide +kernel)
theorem fk_6_11 : mm_fok RX6 11 6 0 4 2 true := mm_fo_spec (ti := 135) (tb := tables_1_1) (fun w i h => mm_t1 i h) (by decide +kernel)
theorem fk_3_100 : mm_fok RX3 100 6 0 4 2 true := mm_fo_spec (ti := 136) (tb := tables_1_1) (fun w i h => mm_t1 i h) (by decide +kernel)
theorem fk_8_90 : mm_fok RX8 90 6 0 4 2 true := mm_fo_spec (ti := 137) (tb := tables_1_1) (fun w i h => mm_t1 i h) (by decide +kernel)
theorem fk_5_115 : mm_fok RX5 115 6 0 4 2 true := mm_fo_spec (ti := 138) (tb := tables_1_1) (fun w i h => mm_t1 i h) (by decide +kernel)
theorem fk_12_135 : mm_fok RX12 135 6 0 4 2 true := mm_fo_spec (ti := 139) (tb := tables_1_1) (fun w i h => mm_t1 i h) (by decide +kernel)
theorem fk_2_107 : mm_fok RX2 107 6 0 4 2 true := mm_fo_spec (ti := 140) (tb := tables_1_1) (fun w i h => mm_t1 i h) (by decide +kernel)
theorem fk_6_17 : mm_fok RX6 17 6 1 4 0 false := mm_fo_spec (ti := 141) (tb := tables_1_1) (fun w i h => mm_t1 i h) (by decide +kernel)
theorem fk_4_40 : mm_fok RX4 40 6 1 4 0 false := mm_fo_spec (ti := 142) (tb := tables_1_1) (fun w i h => mm_t1 i h) (by decide +kernel)
theorem fk_9_61 : mm_fok RX9 61 6 1 4 0 false := mm_fo_spec (ti := 143) (tb := tables_1_1) (fun w i h => mm_t1 i h) (by decide +kernel)
theorem fk_3_88 : mm_fok RX3 88 6 1 4 0 false := mm_fo_spec (ti := 144) (tb := tables_1_1) (fun w i h => mm_t1 i h) (by decide +kernel)
theorem fk_8_86 : mm_fok RX8 86 6 1 4 0 false := mm_fo_spec (ti := 145) (tb := tables_1_1) (fun w i h => mm_t1 i h) (by decide +kernel)
theorem fk_2_89 : mm_fok RX2 89 6 1 4 0 false := mm_fo_spec (ti := 146) (tb := tables_1_1) (fun w i h => mm_t1 i h) (by decide +kernel)
theorem fk_12_126 : mm_fok RX12 126 6 1 4 0 false := mm_fo_spec (ti := 147) (tb := tables_1_1) (fun w i h => mm_t1 i h) (by decide +kernel)
theorem fk_5_85 : mm_fok RX5 85 6 1 4 0 false := mm_fo_spec (ti := 148) (tb := tables_1_1) (fun w i h => mm_t1 i h) (by decide +kernel)
theorem fk_7_25 : mm_fok RX7 25 6 2 4 0 false := mm_fo_spec (ti := 149) (tb := tables_1_1) (fun w i h => mm_t1 i h) (by decide +kernel)
theorem fk_6_21 : mm_fok RX6 21 6 2 4 0 false := mm_fo_spec (ti := 150) (tb := tables_1_1) (fun w i h => mm_t1 i h) (by decide +kernel)
theorem fk_8_87 : mm_fok RX8 87 6 2 4 0 false := mm_fo_spec (ti := 151) (tb := tables_1_1) (fun w i h => mm_t1 i h) (by decide +kernel)
theorem fk_3_104 : mm_fok RX3 104 6 2 4 0 false := mm_fo_spec (ti := 152) (tb := tables_1_1) (fun w i h => mm_t1 i h) (by decide +kernel)
theorem fk_6_24 : mm_fok RX6 24 6 3 4 1 false := mm_fo_spec (ti := 153) (tb := tables_1_1) (fun w i h => mm_t1 i h) (by decide +kernel)
theorem fk_7_42 : mm_fok RX7 42 6 3 4 1 false := mm_fo_spec (ti := 154) (tb := tables_1_1) (fun w i h => mm_t1 i h) (by decide +kernel)
theorem fk_5_95 : mm_fok RX5 95 6 3 4 1 false := mm_fo_spec (ti := 155) (tb := tables_1_1) (fun w i h => mm_t1 i h) (by decide +kernel)
theorem fk_7_11 : mm_fok RX7 11 7 0 6 2 true := mm_fo_spec (ti := 165) (tb := tables_1_1) (fun w i h => mm_t1 i h) (by decide +kernel)
theorem fk_4_34 : mm_fok RX4 34 7 0 6 2 true := mm_fo_spec (ti := 166) (tb := tables_1_1) (fun w i h => mm_t1 i h) (by decide +kernel)
theorem fk_9_55 : mm_fok RX9 55 7 0 6 2 true := mm_fo_spec (ti := 167) (tb := tables_1_1) (fun w i h => mm_t1 i h) (by decide +kernel)
theorem fk_2_51 : mm_fok RX2 51 7 0 6 2 true := mm_fo_spec (ti := 168) (tb := tables_1_1) (fun w i h => mm_t1 i h) (by decide +kernel)
theorem fk_8_76 : mm_fok RX8 76 7 0 6 2 true := mm_fo_spec (ti := 169) (tb := tables_1_1) (fun w i h => mm_t1 i h) (by decide +kernel)
theorem fk_12_122 : mm_fok RX12 122 7 0 6 2 true := mm_fo_spec (ti := 170) (tb := tables_1_1) (fun w i h => mm_t1 i h) (by decide +kernel)
theorem fk_5_81 : mm_fok RX5 81 7 0 6 2 true := mm_fo_spec (ti := 171) (tb := tables_1_1) (fun w i h => mm_t1 i h) (by decide +kernel)
theorem fk_3_170 : mm_fok RX3 170 7 0 6 2 true := mm_fo_spec (ti := 172) (tb := tables_1_1) (fun w i h => mm_t1 i h) (by decide +kernel)
theorem fk_7_29 : mm_fok RX7 29 7 1 6 0 false := mm_fo_spec (ti := 173) (tb := tables_1_1) (fun w i h => mm_t1 i h) (by decide +kernel)
theorem fk_5_74 : mm_fok RX5 74 7 1 6 0 false := mm_fo_spec (ti := 174) (tb := tables_1_1) (fun w i h => mm_t1 i h) (by decide +kernel)
theorem fk_3_167 : mm_fok RX3 167 7 1 6 0 false := mm_fo_spec (ti := 175) (tb := tables_1_1) (fun w i h => mm_t1 i h) (by decide +kernel)
theorem fk_12_293 : mm_fok RX12 293 7 1 6 0 false := mm_fo_spec (ti := 176) (tb := tables_1_1) (fun w i h => mm_t1 i h) (by decide +kernel)
theorem fk_7_17 : mm_fok RX7 17 7 2 6 2 true := mm_fo_spec (ti := 177) (tb := tables_1_1) (fun w i h => mm_t1 i h) (by decide +kernel)
theorem fk_9_108 : mm_fok RX9 108 7 2 6 2 true := mm_fo_spec (ti := 178) (tb := tables_1_1) (fun w i h => mm_t1 i h) (by decide +kernel)
theorem fk_12_269 : mm_fok RX12 269 7 2 6 2 true := mm_fo_spec (ti := 179) (tb := tables_1_1) (fun w i h => mm_t1 i h) (by decide +kernel)
theorem fk_7_21 : mm_fok RX7 21 7 3 6 2 true := mm_fo_spec (ti := 180) (tb := tables_1_1) (fun w i h => mm_t1 i h) (by decide +kernel)
theorem fk_9_115 : mm_fok RX9 115 7 3 6 2 true := mm_fo_spec (ti := 181) (tb := tables_1_1) (fun w i h => mm_t1 i h) (by decide +kernel)
theorem fk_12_272 : mm_fok RX12 272 7 3 6 2 true := mm_fo_spec (ti := 182) (tb := tables_1_1) (fun w i h => mm_t1 i h) (by decide +kernel)
theorem fk_7_32 : mm_fok RX7 32 7 4 6 0 false := mm_fo_spec (ti := 183) (tb := tables_1_1) (fun w i h => mm_t1 i h) (by decide +kernel)
theorem fk_12_260 : mm_fok RX12 260 7 4 6 0 false := mm_fo_spec (ti := 184) (tb := tables_1_1) (fun w i h => mm_t1 i h) (by decide +kernel)
theorem fk_7_39 : mm_fok RX7 39 7 5 6 0 false := mm_fo_spec (ti := 185) (tb := tables_1_1) (fun w i h => mm_t1 i h) (by decide +kernel)
theorem fk_12_266 : mm_fok RX12 266 7 5 6 0 false := mm_fo_spec (ti := 186) (tb := tables_1_1) (fun w i h => mm_t1 i h) (by decide +kernel)
theorem fk_0_9 : mm_fok RX0 9 0 0 4 2 true := mm_fo_spec (ti := 215) (tb := tables_1_1) (fun w i h => mm_t1 i h) (by decide +kernel)
theorem fk_9_95 : mm_fok RX9 95 0 0 4 2 true := mm_fo_spec (ti := 216) (tb := tables_1_1) (fun w i h => mm_t1 i h) (by decide +kernel)
theorem fk_3_174 : mm_fok RX3 174 0 0 4 2 true := mm_fo_spec (ti := 217) (tb := tables_1_1) (fun w i h => mm_t1 i h) (by decide +kernel)
theorem fk_12_180 : mm_fok RX12 180 0 0 4 2 true := mm_fo_spec (ti := 218) (tb := tables_1_1) (fun w i h => mm_t1 i h) (by decide +kernel)
theorem fk_5_215 : mm_fok RX5 215 0 0 4 2 true := mm_fo_spec (ti := 219) (tb := tables_1_1) (fun w i h => mm_t1 i h) (by decide +kernel)
theorem fk_0_15 : mm_fok RX0 15 0 1 4 0 false := mm_fo_spec (ti := 220) (tb := tables_1_1) (fun w i h => mm_t1 i h) (by decide +kernel)
theorem fk_9_94 : mm_fok RX9 94 0 1 4 0 false := mm_fo_spec (ti := 221) (tb := tables_1_1) (fun w i h => mm_t1 i h) (by decide +kernel)
theorem fk_12_171 : mm_fok RX12 171 0 1 4 0 false := mm_fo_spec (ti := 222) (tb := tables_1_1) (fun w i h => mm_t1 i h) (by decide +kernel)
theorem fk_3_173 : mm_fok RX3 173 0 1 4 0 false := mm_fo_spec (ti := 223) (tb := tables_1_1) (fun w i h => mm_t1 i h) (by decide +kernel)
theorem fk_5_217 : mm_fok RX5 217 0 1 4 0 false := mm_fo_spec (ti := 224) (tb := tables_1_1) (fun w i h => mm_t1 i h) (by decide +kernel)
theorem fk_0_19 : mm_fok RX0 19 0 2 4 0 false := mm_fo_spec (ti := 225) (tb := tables_1_1) (fun w i h => mm_t1 i h) (by decide +kernel)
theorem fk_3_50 : mm_fok RX3 50 0 2 4 0 false := mm_fo_spec (ti := 226) (tb := tables_1_1) (fun w i h => mm_t1 i h) (by decide +kernel)
theorem fk_9_89 : mm_fok RX9 89 0 2 4 0 false := mm_fo_spec (ti := 227) (tb := tables_1_1) (fun w i h => mm_t1 i h) (by decide +kernel)
theorem fk_12_166 : mm_fok RX12 166 0 2 4 0 false := mm_fo_spec (ti := 228) (tb := tables_1_1) (fun w i h => mm_t1 i h) (by decide +kernel)
theorem fk_0_22 : mm_fok RX0 22 0 3 4 0 false := mm_fo_spec (ti := 229) (tb := tables_1_1) (fun w i h => mm_t1 i h) (by decide +kernel)
theorem fk_2_74 : mm_fok RX2 74 0 3 4 0 false := mm_fo_spec (ti := 230) (tb := tables_1_1) (fun w i h => mm_t1 i h) (by decide +kernel)
theorem fk_3_91 : mm_fok RX3 91 0 3 4 0 false := mm_fo_spec (ti := 231) (tb := tables_1_1) (fun w i h => mm_t1 i h) (by decide +kernel)
theorem fk_11_11 : mm_fok RX11 11 11 0 6 2 true := mm_fo_spec (ti := 2) (tb := tables_1_2) (fun w i h => mm_t2 i h) (by decide +kernel)
theorem fk_3_163 : mm_fok RX3 163 11 0 6 2 true := mm_fo_spec (ti := 3) (tb := tables_1_2) (fun w i h => mm_t2 i h) (by decide +kernel)
theorem fk_5_198 : mm_fok RX5 198 11 0 6 2 true := mm_fo_spec (ti := 4) (tb := tables_1_2) (fun w i h => mm_t2 i h) (by decide +kernel)
theorem fk_11_16 : mm_fok RX11 16 11 1 6 2 true := mm_fo_spec (ti := 5) (tb := tables_1_2) (fun w i h => mm_t2 i h) (by decide +kernel)
theorem fk_3_160 : mm_fok RX3 160 11 1 6 2 true := mm_fo_spec (ti := 6) (tb := tables_1_2) (fun w i h => mm_t2 i h) (by decide +kernel)
theorem fk_5_195 : mm_fok RX5 195 11 1 6 2 true := mm_fo_spec (ti := 7) (tb := tables_1_2) (fun w i h => mm_t2 i h) (by decide +kernel)
theorem fk_12_311 : mm_fok RX12 311 11 1 6 2 true := mm_fo_spec (ti := 8) (tb := tables_1_2) (fun w i h => mm_t2 i h) (by decide +kernel)
theorem fk_11_22 : mm_fok RX11 22 11 2 6 2 true := mm_fo_spec (ti := 9) (tb := tables_1_2) (fun w i h => mm_t2 i h) (by decide +kernel)
theorem fk_8_47 : mm_fok RX8 47 11 2 6 2 true := mm_fo_spec (ti := 10) (tb := tables_1_2) (fun w i h => mm_t2 i h) (by decide +kernel)
theorem fk_5_206 : mm_fok RX5 206 11 2 6 2 true := mm_fo_spec (ti := 11) (tb := tables_1_2) (fun w i h => mm_t2 i h) (by decide +kernel)
theorem fk_12_317 : mm_fok RX12 317 11 2 6 2 true := mm_fo_spec (ti := 12) (tb := tables_1_2) (fun w i h => mm_t2 i h) (by decide +kernel)
theorem fk_11_26 : mm_fok RX11 26 11 3 6 2 true := mm_fo_spec (ti := 13) (tb := tables_1_2) (fun w i h => mm_t2 i h) (by decide +kernel)
theorem fk_8_43 : mm_fok RX8 43 11 3 6 2 true := mm_fo_spec (ti := 14) (tb := tables_1_2) (fun w i h => mm_t2 i h) (by decide +kernel)
theorem fk_5_191 : mm_fok RX5 191 11 3 6 2 true := mm_fo_spec (ti := 15) (tb := tables_1_2) (fun w i h => mm_t2 i h) (by decide +kernel)
theorem fk_12_314 : mm_fok RX12 314 11 3 6 2 true := mm_fo_spec (ti := 16) (tb := tables_1_2) (fun w i h => mm_t2 i h) (by decide +kernel)
theorem fk_11_35 : mm_fok RX11 35 11 4 6 0 false := mm_fo_spec (ti := 17) (tb := tables_1_2) (fun w i h => mm_t2 i h) (by decide +kernel)
theorem fk_8_38 : mm_fok RX8 38 11 4 6 0 false := mm_fo_spec (ti := 18) (tb := tables_1_2) (fun w i h => mm_t2 i h) (by decide +kernel)
theorem fk_2_45 : mm_fok RX2 45 11 4 6 0 false := mm_fo_spec (ti := 19) (tb := tables_1_2) (fun w i h => mm_t2 i h) (by decide +kernel)
theorem fk_9_125 : mm_fok RX9 125 11 4 6 0 false := mm_fo_spec (ti := 20) (tb := tables_1_2) (fun w i h => mm_t2 i h) (by decide +kernel)
theorem fk_5_190 : mm_fok RX5 190 11 4 6 0 false := mm_fo_spec (ti := 21) (tb := tables_1_2) (fun w i h => mm_t2 i h) (by decide +kernel)
theorem fk_12_294 : mm_fok RX12 294 11 4 6 0 false := mm_fo_spec (ti := 22) (tb := tables_1_2) (fun w i h => mm_t2 i h) (by decide +kernel)
theorem fk_11_30 : mm_fok RX11 30 11 5 6 0 false := mm_fo_spec (ti := 23) (tb := tables_1_2) (fun w i h => mm_t2 i h) (by decide +kernel)
theorem fk_3_54 : mm_fok RX3 54 11 5 6 0 false := mm_fo_spec (ti := 24) (tb := tables_1_2) (fun w i h => mm_t2 i h) (by decide +kernel)
theorem fk_5_221 : mm_fok RX5 221 11 5 6 0 false := mm_fo_spec (ti := 25) (tb := tables_1_2) (fun w i h => mm_t2 i h) (by decide +kernel)
theorem fk_12_299 : mm_fok RX12 299 11 5 6 0 false := mm_fo_spec (ti := 26) (tb := tables_1_2) (fun w i h => mm_t2 i h) (by decide +kernel)
theorem fk_5_12 : mm_fok RX5 12 5 0 10 2 true := mm_fo_spec (ti := 40) (tb := tables_1_2) (fun w i h => mm_t2 i h) (by decide +kernel)
theorem fk_12_106 : mm_fok RX12 106 5 0 10 2 true := mm_fo_spec (ti := 41) (tb := tables_1_2) (fun w i h => mm_t2 i h) (by decide +kernel)
theorem fk_5_21 : mm_fok RX5 21 5 1 10 2 true := mm_fo_spec (ti := 42) (tb := tables_1_2) (fun w i h => mm_t2 i h) (by decide +kernel)
theorem fk_12_111 : mm_fok RX12 111 5 1 10 2 true := mm_fo_spec (ti := 43) (tb := tables_1_2) (fun w i h => mm_t2 i h) (by decide +kernel)
theorem fk_5_42 : mm_fok RX5 42 5 2 10 0 false := mm_fo_spec (ti := 44) (tb := tables_1_2) (fun w i h => mm_t2 i h) (by decide +kernel)
theorem fk_12_102 : mm_fok RX12 102 5 2 10 0 false := mm_fo_spec (ti := 45) (tb := tables_1_2) (fun w i h => mm_t2 i h) (by decide +kernel)
theorem fk_5_68 : mm_fok RX5 68 5 3 10 0 false := mm_fo_spec (ti := 46) (tb := tables_1_2) (fun w i h => mm_t2 i h) (by decide +kernel)
theorem fk_12_105 : mm_fok RX12 105 5 3 10 0 false := mm_fo_spec (ti := 47) (tb := tables_1_2) (fun w i h => mm_t2 i h) (by decide +kernel)
theorem fk_5_29 : mm_fok RX5 29 5 4 10 2 true := mm_fo_spec (ti := 48) (tb := tables_1_2) (fun w i h => mm_t2 i h) (by decide +kernel)
theorem fk_5_25 : mm_fok RX5 25 5 5 10 2 true := mm_fo_spec (ti := 49) (tb := tables_1_2) (fun w i h => mm_t2 i h) (by decide +kernel)
theorem fk_5_49 : mm_fok RX5 49 5 6 10 0 false := mm_fo_spec (ti := 50) (tb := tables_1_2) (fun w i h => mm_t2 i h) (by decide +kernel)
theorem fk_5_166 : mm_fok RX5 166 5 7 10 0 false := mm_fo_spec (ti := 51) (tb := tables_1_2) (fun w i h => mm_t2 i h) (by decide +kernel)
theorem fk_5_46 : mm_fok RX5 46 5 8 10 0 false := mm_fo_spec (ti := 52) (tb := tables_1_2) (fun w i h => mm_t2 i h) (by decide +kernel)
theorem fk_5_71 : mm_fok RX5 71 5 9 10 0 false := mm_fo_spec (ti := 53) (tb := tables_1_2) (fun w i h => mm_t2 i h) (by decide +kernel)
theorem fk_3_12 : mm_fok RX3 12 3 0 15 2 true := mm_fo_spec (ti := 88) (tb := tables_1_2) (fun w i h => mm_t2 i h) (by decide +kernel)
theorem fk_8_57 : mm_fok RX8 57 3 0 15 2 true := mm_fo_spec (ti := 89) (tb := tables_1_2) (fun w i h => mm_t2 i h) (by decide +kernel)
theorem fk_2_63 : mm_fok RX2 63 3 0 15 2 true := mm_fo_spec (ti := 90) (tb := tables_1_2) (fun w i h => mm_t2 i h) (by decide +kernel)
theorem fk_9_85 : mm_fok RX9 85 3 0 15 2 true := mm_fo_spec (ti := 91) (tb := tables_1_2) (fun w i h => mm_t2 i h) (by decide +kernel)
theorem fk_12_162 : mm_fok RX12 162 3 0 15 2 true := mm_fo_spec (ti := 92) (tb := tables_1_2) (fun w i h => mm_t2 i h) (by decide +kernel)
theorem fk_3_18 : mm_fok RX3 18 3 1 15 2 true := mm_fo_spec (ti := 93) (tb := tables_1_2) (fun w i h => mm_t2 i h) (by decide +kernel)
theorem fk_12_175 : mm_fok RX12 175 3 1 15 2 true := mm_fo_spec (ti := 94) (tb := tables_1_2) (fun w i h => mm_t2 i h) (by decide +kernel)
theorem fk_3_22 : mm_fok RX3 22 3 2 15 2 true := mm_fo_spec (ti := 95) (tb := tables_1_2) (fun w i h => mm_t2 i h) (by decide +kernel)
theorem fk_12_212 : mm_fok RX12 212 3 2 15 2 true := mm_fo_spec (ti := 96) (tb := tables_1_2) (fun w i h => mm_t2 i h) (by decide +kernel)
theorem fk_3_64 : mm_fok RX3 64 3 3 15 0 false := mm_fo_spec (ti := 97) (tb := tables_1_2) (fun w i h => mm_t2 i h) (by decide +kernel)
theorem fk_12_172 : mm_fok RX12 172 3 3 15 0 false := mm_fo_spec (ti := 98) (tb := tables_1_2) (fun w i h => mm_t2 i h) (by decide +kernel)
theorem fk_3_67 : mm_fok RX3 67 3 4 15 0 false := mm_fo_spec (ti := 99) (tb := tables_1_2) (fun w i h => mm_t2 i h) (by decide +kernel)
theorem fk_2_71 : mm_fok RX2 71 3 4 15 0 false := mm_fo_spec (ti := 100) (tb := tables_1_2) (fun w i h => mm_t2 i h) (by decide +kernel)
theorem fk_3_70 : mm_fok RX3 70 3 5 15 0 false := mm_fo_spec (ti := 101) (tb := tables_1_2) (fun w i h => mm_t2 i h) (by decide +kernel)
theorem fk_8_98 : mm_fok RX8 98 3 5 15 0 false := mm_fo_spec (ti := 102) (tb := tables_1_2) (fun w i h => mm_t2 i h) (by decide +kernel)
theorem fk_3_34 : mm_fok RX3 34 3 6 15 2 true := mm_fo_spec (ti := 103) (tb := tables_1_2) (fun w i h => mm_t2 i h) (by decide +kernel)
theorem fk_3_38 : mm_fok RX3 38 3 7 15 2 true := mm_fo_spec (ti := 104) (tb := tables_1_2) (fun w i h => mm_t2 i h) (by decide +kernel)
theorem fk_3_27 : mm_fok RX3 27 3 8 15 2 true := mm_fo_spec (ti := 105) (tb := tables_1_2) (fun w i h => mm_t2 i h) (by decide +kernel)
theorem fk_3_31 : mm_fok RX3 31 3 9 15 2 true := mm_fo_spec (ti := 106) (tb := tables_1_2) (fun w i h => mm_t2 i h) (by decide +kernel)
theorem fk_3_73 : mm_fok RX3 73 3 10 15 0 false := mm_fo_spec (ti := 107) (tb := tables_1_2) (fun w i h => mm_t2 i h) (by decide +kernel)
theorem fk_3_76 : mm_fok RX3 76 3 11 15 0 false := mm_fo_spec (ti := 108) (tb := tables_1_2) (fun w i h => mm_t2 i h) (by decide +kernel)
theorem fk_3_79 : mm_fok RX3 79 3 12 15 0 false := mm_fo_spec (ti := 109) (tb := tables_1_2) (fun w i h => mm_t2 i h) (by decide +kernel)
theorem fk_3_82 : mm_fok RX3 82 3 13 15 0 false := mm_fo_spec (ti := 110) (tb := tables_1_2) (fun w i h => mm_t2 i h) (by decide +kernel)
theorem fk_3_85 : mm_fok RX3 85 3 14 15 2 false := mm_fo_spec (ti := 111) (tb := tables_1_2) (fun w i h => mm_t2 i h) (by decide +kernel)
theorem fk_2_32 : mm_fok RX2 32 2 0 7 2 true := mm_fo_spec (ti := 153) (tb := tables_1_2) (fun w i h => mm_t2 i h) (by decide +kernel)
theorem fk_2_36 : mm_fok RX2 36 2 1 7 2 true := mm_fo_spec (ti := 154) (tb := tables_1_2) (fun w i h => mm_t2 i h) (by decide +kernel)
theorem fk_2_40 : mm_fok RX2 40 2 2 7 2 true := mm_fo_spec (ti := 155) (tb := tables_1_2) (fun w i h => mm_t2 i h) (by decide +kernel)
theorem fk_2_11 : mm_fok RX2 11 2 3 7 2 true := mm_fo_spec (ti := 156) (tb := tables_1_2) (fun w i h => mm_t2 i h) (by decide +kernel)
theorem fk_2_17 : mm_fok RX2 17 2 4 7 2 true := mm_fo_spec (ti := 157) (tb := tables_1_2) (fun w i h => mm_t2 i h) (by decide +kernel)
theorem fk_2_21 : mm_fok RX2 21 2 5 7 2 true := mm_fo_spec (ti := 158) (tb := tables_1_2) (fun w i h => mm_t2 i h) (by decide +kernel)
theorem fk_2_28 : mm_fok RX2 28 2 6 7 2 true := mm_fo_spec (ti := 159) (tb := tables_1_2) (fun w i h => mm_t2 i h) (by decide +kernel)
theorem fk_4_26 : mm_fok RX4 26 4 0 7 2 true := mm_fo_spec (ti := 181) (tb := tables_1_2) (fun w i h => mm_t2 i h) (by decide +kernel)
theorem fk_4_30 : mm_fok RX4 30 4 1 7 2 true := mm_fo_spec (ti := 182) (tb := tables_1_2) (fun w i h => mm_t2 i h) (by decide +kernel)
theorem fk_4_9 : mm_fok RX4 9 4 2 7 2 true := mm_fo_spec (ti := 183) (tb := tables_1_2) (fun w i h => mm_t2 i h) (by decide +kernel)
theorem fk_4_15 : mm_fok RX4 15 4 3 7 2 true := mm_fo_spec (ti := 184) (tb := tables_1_2) (fun w i h => mm_t2 i h) (by decide +kernel)
theorem fk_4_19 : mm_fok RX4 19 4 4 7 0 false := mm_fo_spec (ti := 185) (tb := tables_1_2) (fun w i h => mm_t2 i h) (by decide +kernel)
theorem fk_4_23 : mm_fok RX4 23 4 5 7 0 false := mm_fo_spec (ti := 186) (tb := tables_1_2) (fun w i h => mm_t2 i h) (by decide +kernel)
theorem fk_4_79 : mm_fok RX4 79 4 6 7 0 false := mm_fo_spec (ti := 187) (tb := tables_1_2) (fun w i h => mm_t2 i h) (by decide +kernel)
theorem fk_8_9 : mm_fok RX8 9 8 0 9 2 true := mm_fo_spec (ti := 211) (tb := tables_1_2) (fun w i h => mm_t2 i h) (by decide +kernel)
theorem fk_12_255 : mm_fok RX12 255 8 0 9 2 true := mm_fo_spec (ti := 212) (tb := tables_1_2) (fun w i h => mm_t2 i h) (by decide +kernel)
theorem fk_8_26 : mm_fok RX8 26 8 1 9 2 true := mm_fo_spec (ti := 213) (tb := tables_1_2) (fun w i h => mm_t2 i h) (by decide +kernel)
theorem fk_8_30 : mm_fok RX8 30 8 2 9 2 true := mm_fo_spec (ti := 214) (tb := tables_1_2) (fun w i h => mm_t2 i h) (by decide +kernel)
theorem fk_8_34 : mm_fok RX8 34 8 3 9 2 true := mm_fo_spec (ti := 215) (tb := tables_1_2) (fun w i h => mm_t2 i h) (by decide +kernel)
theorem fk_8_18 : mm_fok RX8 18 8 4 9 2 true := mm_fo_spec (ti := 216) (tb := tables_1_2) (fun w i h => mm_t2 i h) (by decide +kernel)
theorem fk_8_22 : mm_fok RX8 22 8 5 9 0 false := mm_fo_spec (ti := 217) (tb := tables_1_2) (fun w i h => mm_t2 i h) (by decide +kernel)
theorem fk_8_67 : mm_fok RX8 67 8 6 9 0 false := mm_fo_spec (ti := 218) (tb := tables_1_2) (fun w i h => mm_t2 i h) (by decide +kernel)
theorem fk_8_70 : mm_fok RX8 70 8 7 9 0 false := mm_fo_spec (ti := 219) (tb := tables_1_2) (fun w i h => mm_t2 i h) (by decide +kernel)
theorem fk_8_73 : mm_fok RX8 73 8 8 9 0 false := mm_fo_spec (ti := 220) (tb := tables_1_2) (fun w i h => mm_t2 i h) (by decide +kernel)
theorem fk_9_9 : mm_fok RX9 9 9 0 14 2 true := mm_fo_spec (ti := 7) (tb := tables_1_3) (fun w i h => mm_t3 i h) (by decide +kernel)
theorem fk_12_281 : mm_fok RX12 281 9 0 14 2 true := mm_fo_spec (ti := 8) (tb := tables_1_3) (fun w i h => mm_t3 i h) (by decide +kernel)
theorem fk_9_15 : mm_fok RX9 15 9 1 14 2 true := mm_fo_spec (ti := 9) (tb := tables_1_3) (fun w i h => mm_t3 i h) (by decide +kernel)
theorem fk_12_284 : mm_fok RX12 284 9 1 14 2 true := mm_fo_spec (ti := 10) (tb := tables_1_3) (fun w i h => mm_t3 i h) (by decide +kernel)
theorem fk_9_40 : mm_fok RX9 40 9 2 14 2 true := mm_fo_spec (ti := 11) (tb := tables_1_3) (fun w i h => mm_t3 i h) (by decide +kernel)
theorem fk_9_44 : mm_fok RX9 44 9 3 14 2 true := mm_fo_spec (ti := 12) (tb := tables_1_3) (fun w i h => mm_t3 i h) (by decide +kernel)
theorem fk_9_48 : mm_fok RX9 48 9 4 14 2 true := mm_fo_spec (ti := 13) (tb := tables_1_3) (fun w i h => mm_t3 i h) (by decide +kernel)
theorem fk_9_18 : mm_fok RX9 18 9 5 14 2 true := mm_fo_spec (ti := 14) (tb := tables_1_3) (fun w i h => mm_t3 i h) (by decide +kernel)
theorem fk_9_21 : mm_fok RX9 21 9 6 14 2 true := mm_fo_spec (ti := 15) (tb := tables_1_3) (fun w i h => mm_t3 i h) (by decide +kernel)
theorem fk_9_24 : mm_fok RX9 24 9 7 14 2 true := mm_fo_spec (ti := 16) (tb := tables_1_3) (fun w i h => mm_t3 i h) (by decide +kernel)
theorem fk_9_28 : mm_fok RX9 28 9 8 14 2 true := mm_fo_spec (ti := 17) (tb := tables_1_3) (fun w i h => mm_t3 i h) (by decide +kernel)
theorem fk_9_33 : mm_fok RX9 33 9 9 14 2 true := mm_fo_spec (ti := 18) (tb := tables_1_3) (fun w i h => mm_t3 i h) (by decide +kernel)
theorem fk_9_66 : mm_fok RX9 66 9 10 14 0 false := mm_fo_spec (ti := 19) (tb := tables_1_3) (fun w i h => mm_t3 i h) (by decide +kernel)
theorem fk_9_105 : mm_fok RX9 105 9 11 14 0 false := mm_fo_spec (ti := 20) (tb := tables_1_3) (fun w i h => mm_t3 i h) (by decide +kernel)
theorem fk_9_36 : mm_fok RX9 36 9 12 14 0 false := mm_fo_spec (ti := 21) (tb := tables_1_3) (fun w i h => mm_t3 i h) (by decide +kernel)
theorem fk_9_52 : mm_fok RX9 52 9 13 14 0 false := mm_fo_spec (ti := 22) (tb := tables_1_3) (fun w i h => mm_t3 i h) (by decide +kernel)
theorem fk_12_10 : mm_fok RX12 10 12 0 12 2 true := mm_fo_spec (ti := 53) (tb := tables_1_3) (fun w i h => mm_t3 i h) (by decide +kernel)
theorem fk_12_21 : mm_fok RX12 21 12 1 12 2 true := mm_fo_spec (ti := 54) (tb := tables_1_3) (fun w i h => mm_t3 i h) (by decide +kernel)
theorem fk_12_28 : mm_fok RX12 28 12 2 12 2 true := mm_fo_spec (ti := 55) (tb := tables_1_3) (fun w i h => mm_t3 i h) (by decide +kernel)
theorem fk_12_35 : mm_fok RX12 35 12 3 12 2 true := mm_fo_spec (ti := 56) (tb := tables_1_3) (fun w i h => mm_t3 i h) (by decide +kernel)
theorem fk_12_44 : mm_fok RX12 44 12 4 12 2 true := mm_fo_spec (ti := 57) (tb := tables_1_3) (fun w i h => mm_t3 i h) (by decide +kernel)
theorem fk_12_53 : mm_fok RX12 53 12 5 12 2 true := mm_fo_spec (ti := 58) (tb := tables_1_3) (fun w i h => mm_t3 i h) (by decide +kernel)
theorem fk_12_62 : mm_fok RX12 62 12 6 12 2 true := mm_fo_spec (ti := 59) (tb := tables_1_3) (fun w i h => mm_t3 i h) (by decide +kernel)
theorem fk_12_69 : mm_fok RX12 69 12 7 12 2 true := mm_fo_spec (ti := 60) (tb := tables_1_3) (fun w i h => mm_t3 i h) (by decide +kernel)
theorem fk_12_76 : mm_fok RX12 76 12 8 12 2 true := mm_fo_spec (ti := 61) (tb := tables_1_3) (fun w i h => mm_t3 i h) (by decide +kernel)
theorem fk_12_80 : mm_fok RX12 80 12 9 12 2 true := mm_fo_spec (ti := 62) (tb := tables_1_3) (fun w i h => mm_t3 i h) (by decide +kernel)
theorem fk_12_84 : mm_fok RX12 84 12 10 12 2 true := mm_fo_spec (ti := 63) (tb := tables_1_3) (fun w i h => mm_t3 i h) (by decide +kernel)
theorem fk_12_88 : mm_fok RX12 88 12 11 12 0 false := mm_fo_spec (ti := 64) (tb := tables_1_3) (fun w i h => mm_t3 i h) (by decide +kernel)
theorem fk_6_28 : mm_fok RX6 28 1 0 11 1 false := mm_fo_spec (ti := 186) (tb := tables_1_3) (fun w i h => mm_t3 i h) (by decide +kernel)
theorem fk_5_135 : mm_fok RX5 135 1 0 11 1 false := mm_fo_spec (ti := 187) (tb := tables_1_3) (fun w i h => mm_t3 i h) (by decide +kernel)
theorem fk_3_107 : mm_fok RX3 107 1 1 11 0 false := mm_fo_spec (ti := 188) (tb := tables_1_3) (fun w i h => mm_t3 i h) (by decide +kernel)
theorem fk_5_119 : mm_fok RX5 119 1 1 11 0 false := mm_fo_spec (ti := 189) (tb := tables_1_3) (fun w i h => mm_t3 i h) (by decide +kernel)
theorem fk_12_139 : mm_fok RX12 139 1 1 11 0 false := mm_fo_spec (ti := 190) (tb := tables_1_3) (fun w i h => mm_t3 i h) (by decide +kernel)
theorem fk_12_144 : mm_fok RX12 144 1 2 11 0 false := mm_fo_spec (ti := 191) (tb := tables_1_3) (fun w i h => mm_t3 i h) (by decide +kernel)
theorem fk_5_140 : mm_fok RX5 140 1 2 11 0 false := mm_fo_spec (ti := 192) (tb := tables_1_3) (fun w i h => mm_t3 i h) (by decide +kernel)
theorem fk_2_139 : mm_fok RX2 139 1 2 11 0 false := mm_fo_spec (ti := 193) (tb := tables_1_3) (fun w i h => mm_t3 i h) (by decide +kernel)
theorem fk_3_176 : mm_fok RX3 176 1 3 11 0 false := mm_fo_spec (ti := 194) (tb := tables_1_3) (fun w i h => mm_t3 i h) (by decide +kernel)
theorem fk_5_163 : mm_fok RX5 163 1 3 11 0 false := mm_fo_spec (ti := 195) (tb := tables_1_3) (fun w i h => mm_t3 i h) (by decide +kernel)
theorem fk_3_112 : mm_fok RX3 112 1 4 11 0 false := mm_fo_spec (ti := 196) (tb := tables_1_3) (fun w i h => mm_t3 i h) (by decide +kernel)
theorem fk_5_178 : mm_fok RX5 178 1 4 11 0 false := mm_fo_spec (ti := 197) (tb := tables_1_3) (fun w i h => mm_t3 i h) (by decide +kernel)
theorem fk_3_115 : mm_fok RX3 115 1 5 11 0 false := mm_fo_spec (ti := 198) (tb := tables_1_3) (fun w i h => mm_t3 i h) (by decide +kernel)
theorem fk_5_181 : mm_fok RX5 181 1 5 11 0 false := mm_fo_spec (ti := 199) (tb := tables_1_3) (fun w i h => mm_t3 i h) (by decide +kernel)
theorem fk_3_137 : mm_fok RX3 137 1 6 11 0 false := mm_fo_spec (ti := 200) (tb := tables_1_3) (fun w i h => mm_t3 i h) (by decide +kernel)
theorem fk_5_172 : mm_fok RX5 172 1 6 11 0 false := mm_fo_spec (ti := 201) (tb := tables_1_3) (fun w i h => mm_t3 i h) (by decide +kernel)
theorem fk_3_140 : mm_fok RX3 140 1 7 11 0 false := mm_fo_spec (ti := 202) (tb := tables_1_3) (fun w i h => mm_t3 i h) (by decide +kernel)
theorem fk_5_175 : mm_fok RX5 175 1 7 11 0 false := mm_fo_spec (ti := 203) (tb := tables_1_3) (fun w i h => mm_t3 i h) (by decide +kernel)
theorem fk_3_143 : mm_fok RX3 143 1 8 11 0 false := mm_fo_spec (ti := 204) (tb := tables_1_3) (fun w i h => mm_t3 i h) (by decide +kernel)
theorem fk_5_184 : mm_fok RX5 184 1 8 11 0 false := mm_fo_spec (ti := 205) (tb := tables_1_3) (fun w i h => mm_t3 i h) (by decide +kernel)
theorem fk_3_125 : mm_fok RX3 125 1 9 11 1 false := mm_fo_spec (ti := 206) (tb := tables_1_3) (fun w i h => mm_t3 i h) (by decide +kernel)
theorem fk_5_124 : mm_fok RX5 124 1 9 11 1 false := mm_fo_spec (ti := 207) (tb := tables_1_3) (fun w i h => mm_t3 i h) (by decide +kernel)
theorem fk_12_146 : mm_fok RX12 146 1 9 11 1 false := mm_fo_spec (ti := 208) (tb := tables_1_3) (fun w i h => mm_t3 i h) (by decide +kernel)
theorem fk_3_150 : mm_fok RX3 150 1 10 11 0 false := mm_fo_spec (ti := 209) (tb := tables_1_3) (fun w i h => mm_t3 i h) (by decide +kernel)
theorem fk_5_187 : mm_fok RX5 187 1 10 11 0 false := mm_fo_spec (ti := 210) (tb := tables_1_3) (fun w i h => mm_t3 i h) (by decide +kernel)
theorem fk_13_13 : mm_fok RX13 13 13 1 85 2 true := mm_fo_spec (ti := 78) (tb := tables_1_6) (fun w i h => mm_t6 i h) (by decide +kernel)
theorem fk_13_198 : mm_fok RX13 198 13 2 85 0 false := mm_fo_spec (ti := 79) (tb := tables_1_6) (fun w i h => mm_t6 i h) (by decide +kernel)
theorem fk_13_17 : mm_fok RX13 17 13 3 85 2 true := mm_fo_spec (ti := 80) (tb := tables_1_6) (fun w i h => mm_t6 i h) (by decide +kernel)
theorem fk_13_205 : mm_fok RX13 205 13 4 85 0 false := mm_fo_spec (ti := 81) (tb := tables_1_6) (fun w i h => mm_t6 i h) (by decide +kernel)
theorem fk_13_20 : mm_fok RX13 20 13 5 85 2 true := mm_fo_spec (ti := 82) (tb := tables_1_6) (fun w i h => mm_t6 i h) (by decide +kernel)
theorem fk_13_24 : mm_fok RX13 24 13 6 85 2 true := mm_fo_spec (ti := 83) (tb := tables_1_6) (fun w i h => mm_t6 i h) (by decide +kernel)
theorem fk_13_27 : mm_fok RX13 27 13 7 85 2 true := mm_fo_spec (ti := 84) (tb := tables_1_6) (fun w i h => mm_t6 i h) (by decide +kernel)
theorem fk_13_30 : mm_fok RX13 30 13 8 85 2 true := mm_fo_spec (ti := 85) (tb := tables_1_6) (fun w i h => mm_t6 i h) (by decide +kernel)
theorem fk_13_34 : mm_fok RX13 34 13 9 85 2 true := mm_fo_spec (ti := 86) (tb := tables_1_6) (fun w i h => mm_t6 i h) (by decide +kernel)
theorem fk_13_214 : mm_fok RX13 214 13 10 85 0 false := mm_fo_spec (ti := 87) (tb := tables_1_6) (fun w i h => mm_t6 i h) (by decide +kernel)
theorem fk_13_239 : mm_fok RX13 239 13 11 85 0 false := mm_fo_spec (ti := 88) (tb := tables_1_6) (fun w i h => mm_t6 i h) (by decide +kernel)
theorem fk_13_263 : mm_fok RX13 263 13 12 85 0 false := mm_fo_spec (ti := 89) (tb := tables_1_6) (fun w i h => mm_t6 i h) (by decide +kernel)
theorem fk_13_236 : mm_fok RX13 236 13 13 85 0 false := mm_fo_spec (ti := 90) (tb := tables_1_6) (fun w i h => mm_t6 i h) (by decide +kernel)
theorem fk_13_242 : mm_fok RX13 242 13 14 85 0 false := mm_fo_spec (ti := 91) (tb := tables_1_6) (fun w i h => mm_t6 i h) (by decide +kernel)
theorem fk_13_245 : mm_fok RX13 245 13 15 85 0 false := mm_fo_spec (ti := 92) (tb := tables_1_6) (fun w i h => mm_t6 i h) (by decide +kernel)
theorem fk_13_248 : mm_fok RX13 248 13 16 85 0 false := mm_fo_spec (ti := 93) (tb := tables_1_6) (fun w i h => mm_t6 i h) (by decide +kernel)
theorem fk_13_37 : mm_fok RX13 37 13 17 85 0 false := mm_fo_spec (ti := 94) (tb := tables_1_6) (fun w i h => mm_t6 i h) (by decide +kernel)
theorem fk_13_266 : mm_fok RX13 266 13 18 85 0 false := mm_fo_spec (ti := 95) (tb := tables_1_6) (fun w i h => mm_t6 i h) (by decide +kernel)
theorem fk_13_269 : mm_fok RX13 269 13 19 85 0 false := mm_fo_spec (ti := 96) (tb := tables_1_6) (fun w i h => mm_t6 i h) (by decide +kernel)
theorem fk_13_40 : mm_fok RX13 40 13 20 85 2 true := mm_fo_spec (ti := 97) (tb := tables_1_6) (fun w i h => mm_t6 i h) (by decide +kernel)
theorem fk_13_43 : mm_fok RX13 43 13 21 85 2 true := mm_fo_spec (ti := 98) (tb := tables_1_6) (fun w i h => mm_t6 i h) (by decide +kernel)
theorem fk_13_46 : mm_fok RX13 46 13 22 85 2 true := mm_fo_spec (ti := 99) (tb := tables_1_6) (fun w i h => mm_t6 i h) (by decide +kernel)
theorem fk_13_49 : mm_fok RX13 49 13 23 85 2 true := mm_fo_spec (ti := 100) (tb := tables_1_6) (fun w i h => mm_t6 i h) (by decide +kernel)
theorem fk_13_52 : mm_fok RX13 52 13 24 85 2 true := mm_fo_spec (ti := 101) (tb := tables_1_6) (fun w i h => mm_t6 i h) (by decide +kernel)
theorem fk_13_55 : mm_fok RX13 55 13 25 85 2 true := mm_fo_spec (ti := 102) (tb := tables_1_6) (fun w i h => mm_t6 i h) (by decide +kernel)
theorem fk_13_58 : mm_fok RX13 58 13 26 85 2 true := mm_fo_spec (ti := 103) (tb := tables_1_6) (fun w i h => mm_t6 i h) (by decide +kernel)
theorem fk_13_61 : mm_fok RX13 61 13 27 85 2 true := mm_fo_spec (ti := 104) (tb := tables_1_6) (fun w i h => mm_t6 i h) (by decide +kernel)
theorem fk_13_64 : mm_fok RX13 64 13 28 85 2 true := mm_fo_spec (ti := 105) (tb := tables_1_6) (fun w i h => mm_t6 i h) (by decide +kernel)
theorem fk_13_67 : mm_fok RX13 67 13 29 85 2 true := mm_fo_spec (ti := 106) (tb := tables_1_6) (fun w i h => mm_t6 i h) (by decide +kernel)
theorem fk_13_70 : mm_fok RX13 70 13 30 85 2 true := mm_fo_spec (ti := 107) (tb := tables_1_6) (fun w i h => mm_t6 i h) (by decide +kernel)
theorem fk_13_73 : mm_fok RX13 73 13 31 85 2 true := mm_fo_spec (ti := 108) (tb := tables_1_6) (fun w i h => mm_t6 i h) (by decide +kernel)
theorem fk_13_76 : mm_fok RX13 76 13 32 85 2 true := mm_fo_spec (ti := 109) (tb := tables_1_6) (fun w i h => mm_t6 i h) (by decide +kernel)
theorem fk_13_79 : mm_fok RX13 79 13 33 85 2 true := mm_fo_spec (ti := 110) (tb := tables_1_6) (fun w i h => mm_t6 i h) (by decide +kernel)
theorem fk_13_82 : mm_fok RX13 82 13 34 85 2 true := mm_fo_spec (ti := 111) (tb := tables_1_6) (fun w i h => mm_t6 i h) (by decide +kernel)
theorem fk_13_85 : mm_fok RX13 85 13 35 85 2 true := mm_fo_spec (ti := 112) (tb := tables_1_6) (fun w i h => mm_t6 i h) (by decide +kernel)
theorem fk_13_88 : mm_fok RX13 88 13 36 85 2 true := mm_fo_spec (ti := 113) (tb := tables_1_6) (fun w i h => mm_t6 i h) (by decide +kernel)
theorem fk_13_91 : mm_fok RX13 91 13 37 85 2 true := mm_fo_spec (ti := 114) (tb := tables_1_6) (fun w i h => mm_t6 i h) (by decide +kernel)
theorem fk_13_94 : mm_fok RX13 94 13 38 85 2 true := mm_fo_spec (ti := 115) (tb := tables_1_6) (fun w i h => mm_t6 i h) (by decide +kernel)
theorem fk_13_97 : mm_fok RX13 97 13 39 85 2 true := mm_fo_spec (ti := 116) (tb := tables_1_6) (fun w i h => mm_t6 i h) (by decide +kernel)
theorem fk_13_100 : mm_fok RX13 100 13 40 85 2 true := mm_fo_spec (ti := 117) (tb := tables_1_6) (fun w i h => mm_t6 i h) (by decide +kernel)
theorem fk_13_317 : mm_fok RX13 317 13 41 85 0 false := mm_fo_spec (ti := 118) (tb := tables_1_6) (fun w i h => mm_t6 i h) (by decide +kernel)
theorem fk_13_320 : mm_fok RX13 320 13 42 85 0 false := mm_fo_spec (ti := 119) (tb := tables_1_6) (fun w i h => mm_t6 i h) (by decide +kernel)
theorem fk_13_103 : mm_fok RX13 103 13 43 85 2 true := mm_fo_spec (ti := 120) (tb := tables_1_6) (fun w i h => mm_t6 i h) (by decide +kernel)
theorem fk_13_106 : mm_fok RX13 106 13 44 85 2 true := mm_fo_spec (ti := 121) (tb := tables_1_6) (fun w i h => mm_t6 i h) (by decide +kernel)
theorem fk_13_340 : mm_fok RX13 340 13 45 85 0 false := mm_fo_spec (ti := 122) (tb := tables_1_6) (fun w i h => mm_t6 i h) (by decide +kernel)
theorem fk_13_334 : mm_fok RX13 334 13 46 85 0 false := mm_fo_spec (ti := 123) (tb := tables_1_6) (fun w i h => mm_t6 i h) (by decide +kernel)
theorem fk_13_343 : mm_fok RX13 343 13 47 85 0 false := mm_fo_spec (ti := 124) (tb := tables_1_6) (fun w i h => mm_t6 i h) (by decide +kernel)
theorem fk_13_109 : mm_fok RX13 109 13 48 85 2 true := mm_fo_spec (ti := 125) (tb := tables_1_6) (fun w i h => mm_t6 i h) (by decide +kernel)
theorem fk_13_353 : mm_fok RX13 353 13 49 85 0 false := mm_fo_spec (ti := 126) (tb := tables_1_6) (fun w i h => mm_t6 i h) (by decide +kernel)
theorem fk_13_350 : mm_fok RX13 350 13 50 85 0 false := mm_fo_spec (ti := 127) (tb := tables_1_6) (fun w i h => mm_t6 i h) (by decide +kernel)
theorem fk_13_368 : mm_fok RX13 368 13 51 85 0 false := mm_fo_spec (ti := 128) (tb := tables_1_6) (fun w i h => mm_t6 i h) (by decide +kernel)
theorem fk_13_112 : mm_fok RX13 112 13 52 85 2 true := mm_fo_spec (ti := 129) (tb := tables_1_6) (fun w i h => mm_t6 i h) (by decide +kernel)
theorem fk_13_371 : mm_fok RX13 371 13 53 85 0 false := mm_fo_spec (ti := 130) (tb := tables_1_6) (fun w i h => mm_t6 i h) (by decide +kernel)
theorem fk_13_115 : mm_fok RX13 115 13 54 85 2 true := mm_fo_spec (ti := 131) (tb := tables_1_6) (fun w i h => mm_t6 i h) (by decide +kernel)
theorem fk_13_374 : mm_fok RX13 374 13 55 85 0 false := mm_fo_spec (ti := 132) (tb := tables_1_6) (fun w i h => mm_t6 i h) (by decide +kernel)
theorem fk_13_118 : mm_fok RX13 118 13 56 85 2 true := mm_fo_spec (ti := 133) (tb := tables_1_6) (fun w i h => mm_t6 i h) (by decide +kernel)
theorem fk_13_121 : mm_fok RX13 121 13 57 85 2 true := mm_fo_spec (ti := 134) (tb := tables_1_6) (fun w i h => mm_t6 i h) (by decide +kernel)
theorem fk_13_356 : mm_fok RX13 356 13 58 85 0 false := mm_fo_spec (ti := 135) (tb := tables_1_6) (fun w i h => mm_t6 i h) (by decide +kernel)
theorem fk_13_124 : mm_fok RX13 124 13 59 85 2 true := mm_fo_spec (ti := 136) (tb := tables_1_6) (fun w i h => mm_t6 i h) (by decide +kernel)
theorem fk_13_127 : mm_fok RX13 127 13 60 85 2 true := mm_fo_spec (ti := 137) (tb := tables_1_6) (fun w i h => mm_t6 i h) (by decide +kernel)
theorem fk_13_130 : mm_fok RX13 130 13 61 85 2 true := mm_fo_spec (ti := 138) (tb := tables_1_6) (fun w i h => mm_t6 i h) (by decide +kernel)
theorem fk_13_133 : mm_fok RX13 133 13 62 85 2 true := mm_fo_spec (ti := 139) (tb := tables_1_6) (fun w i h => mm_t6 i h) (by decide +kernel)
theorem fk_13_137 : mm_fok RX13 137 13 63 85 2 true := mm_fo_spec (ti := 140) (tb := tables_1_6) (fun w i h => mm_t6 i h) (by decide +kernel)
theorem fk_13_140 : mm_fok RX13 140 13 64 85 2 true := mm_fo_spec (ti := 141) (tb := tables_1_6) (fun w i h => mm_t6 i h) (by decide +kernel)
theorem fk_13_275 : mm_fok RX13 275 13 65 85 0 false := mm_fo_spec (ti := 142) (tb := tables_1_6) (fun w i h => mm_t6 i h) (by decide +kernel)
theorem fk_13_492 : mm_fok RX13 492 13 66 85 0 false := mm_fo_spec (ti := 143) (tb := tables_1_6) (fun w i h => mm_t6 i h) (by decide +kernel)
theorem fk_13_143 : mm_fok RX13 143 13 67 85 2 true := mm_fo_spec (ti := 144) (tb := tables_1_6) (fun w i h => mm_t6 i h) (by decide +kernel)
theorem fk_13_146 : mm_fok RX13 146 13 68 85 2 true := mm_fo_spec (ti := 145) (tb := tables_1_6) (fun w i h => mm_t6 i h) (by decide +kernel)
theorem fk_13_149 : mm_fok RX13 149 13 69 85 2 true := mm_fo_spec (ti := 146) (tb := tables_1_6) (fun w i h => mm_t6 i h) (by decide +kernel)
theorem fk_13_152 : mm_fok RX13 152 13 70 85 2 true := mm_fo_spec (ti := 147) (tb := tables_1_6) (fun w i h => mm_t6 i h) (by decide +kernel)
theorem fk_13_155 : mm_fok RX13 155 13 71 85 2 true := mm_fo_spec (ti := 148) (tb := tables_1_6) (fun w i h => mm_t6 i h) (by decide +kernel)
theorem fk_13_498 : mm_fok RX13 498 13 72 85 0 false := mm_fo_spec (ti := 149) (tb := tables_1_6) (fun w i h => mm_t6 i h) (by decide +kernel)
theorem fk_13_158 : mm_fok RX13 158 13 73 85 2 true := mm_fo_spec (ti := 150) (tb := tables_1_6) (fun w i h => mm_t6 i h) (by decide +kernel)
theorem fk_13_161 : mm_fok RX13 161 13 74 85 2 true := mm_fo_spec (ti := 151) (tb := tables_1_6) (fun w i h => mm_t6 i h) (by decide +kernel)
theorem fk_13_164 : mm_fok RX13 164 13 75 85 2 true := mm_fo_spec (ti := 152) (tb := tables_1_6) (fun w i h => mm_t6 i h) (by decide +kernel)
theorem fk_13_167 : mm_fok RX13 167 13 76 85 2 true := mm_fo_spec (ti := 153) (tb := tables_1_6) (fun w i h => mm_t6 i h) (by decide +kernel)
theorem fk_13_170 : mm_fok RX13 170 13 77 85 2 true := mm_fo_spec (ti := 154) (tb := tables_1_6) (fun w i h => mm_t6 i h) (by decide +kernel)
theorem fk_13_173 : mm_fok RX13 173 13 78 85 2 true := mm_fo_spec (ti := 155) (tb := tables_1_6) (fun w i h => mm_t6 i h) (by decide +kernel)
theorem fk_13_176 : mm_fok RX13 176 13 79 85 2 true := mm_fo_spec (ti := 156) (tb := tables_1_6) (fun w i h => mm_t6 i h) (by decide +kernel)
theorem fk_13_179 : mm_fok RX13 179 13 80 85 2 true := mm_fo_spec (ti := 157) (tb := tables_1_6) (fun w i h => mm_t6 i h) (by decide +kernel)
theorem fk_13_182 : mm_fok RX13 182 13 81 85 2 true := mm_fo_spec (ti := 158) (tb := tables_1_6) (fun w i h => mm_t6 i h) (by decide +kernel)
theorem fk_13_185 : mm_fok RX13 185 13 82 85 2 true := mm_fo_spec (ti := 159) (tb := tables_1_6) (fun w i h => mm_t6 i h) (by decide +kernel)
theorem fk_13_188 : mm_fok RX13 188 13 83 85 2 true := mm_fo_spec (ti := 160) (tb := tables_1_6) (fun w i h => mm_t6 i h) (by decide +kernel)
theorem fk_13_191 : mm_fok RX13 191 13 84 85 2 true := mm_fo_spec (ti := 161) (tb := tables_1_6) (fun w i h => mm_t6 i h) (by decide +kernel)
