set_option maxRecDepth 20000 in
theorem rx_t {w : Cond} (h : w ∈ tables_1) (g : goodWord w = true) : w ∈ rx_T := List.mem_filter.mpr ⟨List.mem_append_right _ h, g⟩
set_option maxRecDepth 20000 in
theorem rx_d1 {w : Cond} (i : Nat) (h : tables_1_1[i]? = some w) : w ∈ tables_1 := by
  have h := List.mem_of_getElem? h
  unfold tables_1
  exact List.mem_append_left _ h
set_option maxRecDepth 20000 in
theorem rx_c1 {w : Cond} (i : Nat) (h : tables_1_1[i]? = some w) (g : goodWord w = true) : w ∈ rx_T := rx_t (rx_d1 i h) g
set_option maxRecDepth 20000 in
theorem rx_d2 {w : Cond} (i : Nat) (h : tables_1_2[i]? = some w) : w ∈ tables_1 := by
  have h := List.mem_of_getElem? h
  unfold tables_1
  exact List.mem_append_right _ (List.mem_append_left _ h)
set_option maxRecDepth 20000 in
theorem rx_c2 {w : Cond} (i : Nat) (h : tables_1_2[i]? = some w) (g : goodWord w = true) : w ∈ rx_T := rx_t (rx_d2 i h) g
set_option maxRecDepth 20000 in
theorem rx_d3 {w : Cond} (i : Nat) (h : tables_1_3[i]? = some w) : w ∈ tables_1 := by
  have h := List.mem_of_getElem? h
  unfold tables_1
  exact List.mem_append_right _ (List.mem_append_right _ (List.mem_append_left _ h))
set_option maxRecDepth 20000 in
theorem rx_c3 {w : Cond} (i : Nat) (h : tables_1_3[i]? = some w) (g : goodWord w = true) : w ∈ rx_T := rx_t (rx_d3 i h) g
set_option maxRecDepth 20000 in
theorem rx_d4 {w : Cond} (i : Nat) (h : tables_1_4[i]? = some w) : w ∈ tables_1 := by
  have h := List.mem_of_getElem? h
  unfold tables_1
  exact List.mem_append_right _ (List.mem_append_right _ (List.mem_append_right _ (List.mem_append_left _ h)))
set_option maxRecDepth 20000 in
theorem rx_c4 {w : Cond} (i : Nat) (h : tables_1_4[i]? = some w) (g : goodWord w = true) : w ∈ rx_T := rx_t (rx_d4 i h) g
set_option maxRecDepth 20000 in
theorem rx_d5 {w : Cond} (i : Nat) (h : tables_1_5[i]? = some w) : w ∈ tables_1 := by
  have h := List.mem_of_getElem? h
  unfold tables_1
  exact List.mem_append_right _ (List.mem_append_right _ (List.mem_append_right _ (List.mem_append_right _ (List.mem_append_left _ h))))
set_option maxRecDepth 20000 in
theorem rx_c5 {w : Cond} (i : Nat) (h : tables_1_5[i]? = some w) (g : goodWord w = true) : w ∈ rx_T := rx_t (rx_d5 i h) g
set_option maxRecDepth 20000 in
theorem rx_d6 {w : Cond} (i : Nat) (h : tables_1_6[i]? = some w) : w ∈ tables_1 := by
  have h := List.mem_of_getElem? h
  unfold tables_1
  exact List.mem_append_right _ (List.mem_append_right _ (List.mem_append_right _ (List.mem_append_right _ (List.mem_append_right _ (List.mem_append_left _ h)))))
set_option maxRecDepth 20000 in
theorem rx_c6 {w : Cond} (i : Nat) (h : tables_1_6[i]? = some w) (g : goodWord w = true) : w ∈ rx_T := rx_t (rx_d6 i h) g
set_option maxRecDepth 20000 in
theorem rx_d7 {w : Cond} (i : Nat) (h : tables_1_7[i]? = some w) : w ∈ tables_1 := by
  have h := List.mem_of_getElem? h
  unfold tables_1
  exact List.mem_append_right _ (List.mem_append_right _ (List.mem_append_right _ (List.mem_append_right _ (List.mem_append_right _ (List.mem_append_right _ (List.mem_append_left _ h))))))
set_option maxRecDepth 20000 in
theorem rx_c7 {w : Cond} (i : Nat) (h : tables_1_7[i]? = some w) (g : goodWord w = true) : w ∈ rx_T := rx_t (rx_d7 i h) g
set_option maxRecDepth 20000 in
theorem rx_d8 {w : Cond} (i : Nat) (h : tables_1_8[i]? = some w) : w ∈ tables_1 := by
  have h := List.mem_of_getElem? h
  unfold tables_1
  exact List.mem_append_right _ (List.mem_append_right _ (List.mem_append_right _ (List.mem_append_right _ (List.mem_append_right _ (List.mem_append_right _ (List.mem_append_right _ (h)))))))
set_option maxRecDepth 20000 in
theorem rx_c8 {w : Cond} (i : Nat) (h : tables_1_8[i]? = some w) (g : goodWord w = true) : w ∈ rx_T := rx_t (rx_d8 i h) g
set_option maxRecDepth 20000 in
theorem rx_p1 {y : MethodName} {n : Nat} (i : Nat) (h : lw_privs_1[i]? = some (y, n)) : Cond.selects y.cls y y ∈ rx_T := by
  have h := List.mem_of_getElem? h
  refine List.mem_filter.mpr ⟨List.mem_append_left _ (List.mem_map.mpr ⟨(y, n), ?_, rfl⟩), rfl⟩
  unfold lw_privs
  exact List.mem_append_left _ h
set_option maxRecDepth 20000 in
theorem rx_p2 {y : MethodName} {n : Nat} (i : Nat) (h : lw_privs_2[i]? = some (y, n)) : Cond.selects y.cls y y ∈ rx_T := by
  have h := List.mem_of_getElem? h
  refine List.mem_filter.mpr ⟨List.mem_append_left _ (List.mem_map.mpr ⟨(y, n), ?_, rfl⟩), rfl⟩
  unfold lw_privs
  exact List.mem_append_right _ (List.mem_append_left _ h)
set_option maxRecDepth 20000 in
theorem rx_p3 {y : MethodName} {n : Nat} (i : Nat) (h : lw_privs_3[i]? = some (y, n)) : Cond.selects y.cls y y ∈ rx_T := by
  have h := List.mem_of_getElem? h
  refine List.mem_filter.mpr ⟨List.mem_append_left _ (List.mem_map.mpr ⟨(y, n), ?_, rfl⟩), rfl⟩
  unfold lw_privs
  exact List.mem_append_right _ (List.mem_append_right _ (List.mem_append_left _ h))
set_option maxRecDepth 20000 in
theorem rx_p4 {y : MethodName} {n : Nat} (i : Nat) (h : lw_privs_4[i]? = some (y, n)) : Cond.selects y.cls y y ∈ rx_T := by
  have h := List.mem_of_getElem? h
  refine List.mem_filter.mpr ⟨List.mem_append_left _ (List.mem_map.mpr ⟨(y, n), ?_, rfl⟩), rfl⟩
  unfold lw_privs
  exact List.mem_append_right _ (List.mem_append_right _ (List.mem_append_right _ (List.mem_append_left _ h)))
set_option maxRecDepth 20000 in
theorem rx_p5 {y : MethodName} {n : Nat} (i : Nat) (h : lw_privs_5[i]? = some (y, n)) : Cond.selects y.cls y y ∈ rx_T := by
  have h := List.mem_of_getElem? h
  refine List.mem_filter.mpr ⟨List.mem_append_left _ (List.mem_map.mpr ⟨(y, n), ?_, rfl⟩), rfl⟩
  unfold lw_privs
  exact List.mem_append_right _ (List.mem_append_right _ (List.mem_append_right _ (List.mem_append_right _ (List.mem_append_left _ h))))
set_option maxRecDepth 20000 in
theorem rx_p6 {y : MethodName} {n : Nat} (i : Nat) (h : lw_privs_6[i]? = some (y, n)) : Cond.selects y.cls y y ∈ rx_T := by
  have h := List.mem_of_getElem? h
  refine List.mem_filter.mpr ⟨List.mem_append_left _ (List.mem_map.mpr ⟨(y, n), ?_, rfl⟩), rfl⟩
  unfold lw_privs
  exact List.mem_append_right _ (List.mem_append_right _ (List.mem_append_right _ (List.mem_append_right _ (List.mem_append_right _ (List.mem_append_left _ h)))))
set_option maxRecDepth 20000 in
theorem rx_p7 {y : MethodName} {n : Nat} (i : Nat) (h : lw_privs_7[i]? = some (y, n)) : Cond.selects y.cls y y ∈ rx_T := by
  have h := List.mem_of_getElem? h
  refine List.mem_filter.mpr ⟨List.mem_append_left _ (List.mem_map.mpr ⟨(y, n), ?_, rfl⟩), rfl⟩
  unfold lw_privs
  exact List.mem_append_right _ (List.mem_append_right _ (List.mem_append_right _ (List.mem_append_right _ (List.mem_append_right _ (List.mem_append_right _ (h))))))
set_option maxRecDepth 20000 in
theorem lX0_0 : u_lay RX0 TX0 0 ∈ rx_T := rx_c2 82 rfl rfl
set_option maxRecDepth 20000 in
theorem lX0_1 : u_lay RX0 TX0 1 ∈ rx_T := rx_c2 84 rfl rfl
set_option maxRecDepth 20000 in
theorem lX0_2 : u_lay RX0 TX0 2 ∈ rx_T := rx_c2 86 rfl rfl
set_option maxRecDepth 20000 in
theorem lX0_3 : u_lay RX0 TX0 3 ∈ rx_T := rx_c2 88 rfl rfl
set_option maxRecDepth 20000 in
theorem iX0 : ∀ w ∈ u_ws RX0 TX0 4, w ∈ rx_T := by
  show ∀ w ∈ [u_lay RX0 TX0 0, u_lay RX0 TX0 1, u_lay RX0 TX0 2, u_lay RX0 TX0 3], w ∈ rx_T
  exact List.forall_mem_cons.mpr ⟨lX0_0, List.forall_mem_cons.mpr ⟨lX0_1, List.forall_mem_cons.mpr ⟨lX0_2, List.forall_mem_cons.mpr ⟨lX0_3, (fun _ h => absurd h List.not_mem_nil)⟩⟩⟩⟩
set_option maxRecDepth 20000 in
theorem lX1_0 : u_lay RX1 TX1 0 ∈ rx_T := rx_c2 103 rfl rfl
set_option maxRecDepth 20000 in
theorem lX1_1 : u_lay RX1 TX1 1 ∈ rx_T := rx_c2 105 rfl rfl
set_option maxRecDepth 20000 in
theorem lX1_2 : u_lay RX1 TX1 2 ∈ rx_T := rx_c2 107 rfl rfl
set_option maxRecDepth 20000 in
theorem lX1_3 : u_lay RX1 TX1 3 ∈ rx_T := rx_c2 109 rfl rfl
set_option maxRecDepth 20000 in
theorem lX1_4 : u_lay RX1 TX1 4 ∈ rx_T := rx_c2 111 rfl rfl
set_option maxRecDepth 20000 in
theorem iX1 : ∀ w ∈ u_ws RX1 TX1 5, w ∈ rx_T := by
  show ∀ w ∈ [u_lay RX1 TX1 0, u_lay RX1 TX1 1, u_lay RX1 TX1 2, u_lay RX1 TX1 3, u_lay RX1 TX1 4], w ∈ rx_T
  exact List.forall_mem_cons.mpr ⟨lX1_0, List.forall_mem_cons.mpr ⟨lX1_1, List.forall_mem_cons.mpr ⟨lX1_2, List.forall_mem_cons.mpr ⟨lX1_3, List.forall_mem_cons.mpr ⟨lX1_4, (fun _ h => absurd h List.not_mem_nil)⟩⟩⟩⟩⟩
set_option maxRecDepth 20000 in
theorem lX2_0 : u_lay RX2 TX2 0 ∈ rx_T := rx_c1 45 rfl rfl
set_option maxRecDepth 20000 in
theorem lX2_1 : u_lay RX2 TX2 1 ∈ rx_T := rx_c1 47 rfl rfl
set_option maxRecDepth 20000 in
theorem lX2_2 : u_lay RX2 TX2 2 ∈ rx_T := rx_c1 49 rfl rfl
set_option maxRecDepth 20000 in
theorem lX2_3 : u_lay RX2 TX2 3 ∈ rx_T := rx_c1 51 rfl rfl
set_option maxRecDepth 20000 in
theorem lX2_4 : u_lay RX2 TX2 4 ∈ rx_T := rx_c1 53 rfl rfl
set_option maxRecDepth 20000 in
theorem iX2 : ∀ w ∈ u_ws RX2 TX2 5, w ∈ rx_T := by
  show ∀ w ∈ [u_lay RX2 TX2 0, u_lay RX2 TX2 1, u_lay RX2 TX2 2, u_lay RX2 TX2 3, u_lay RX2 TX2 4], w ∈ rx_T
  exact List.forall_mem_cons.mpr ⟨lX2_0, List.forall_mem_cons.mpr ⟨lX2_1, List.forall_mem_cons.mpr ⟨lX2_2, List.forall_mem_cons.mpr ⟨lX2_3, List.forall_mem_cons.mpr ⟨lX2_4, (fun _ h => absurd h List.not_mem_nil)⟩⟩⟩⟩⟩
set_option maxRecDepth 20000 in
theorem lX3_0 : u_lay RX3 TX3 0 ∈ rx_T := rx_c2 8 rfl rfl
set_option maxRecDepth 20000 in
theorem lX3_1 : u_lay RX3 TX3 1 ∈ rx_T := rx_c2 10 rfl rfl
set_option maxRecDepth 20000 in
theorem lX3_2 : u_lay RX3 TX3 2 ∈ rx_T := rx_c2 12 rfl rfl
set_option maxRecDepth 20000 in
theorem lX3_3 : u_lay RX3 TX3 3 ∈ rx_T := rx_c2 14 rfl rfl
set_option maxRecDepth 20000 in
theorem lX3_4 : u_lay RX3 TX3 4 ∈ rx_T := rx_c2 16 rfl rfl
set_option maxRecDepth 20000 in
theorem iX3 : ∀ w ∈ u_ws RX3 TX3 5, w ∈ rx_T := by
  show ∀ w ∈ [u_lay RX3 TX3 0, u_lay RX3 TX3 1, u_lay RX3 TX3 2, u_lay RX3 TX3 3, u_lay RX3 TX3 4], w ∈ rx_T
  exact List.forall_mem_cons.mpr ⟨lX3_0, List.forall_mem_cons.mpr ⟨lX3_1, List.forall_mem_cons.mpr ⟨lX3_2, List.forall_mem_cons.mpr ⟨lX3_3, List.forall_mem_cons.mpr ⟨lX3_4, (fun _ h => absurd h List.not_mem_nil)⟩⟩⟩⟩⟩
set_option maxRecDepth 20000 in
theorem lX4_0 : u_lay RX4 TX4 0 ∈ rx_T := rx_c1 213 rfl rfl
set_option maxRecDepth 20000 in
theorem lX4_1 : u_lay RX4 TX4 1 ∈ rx_T := rx_c1 215 rfl rfl
set_option maxRecDepth 20000 in
theorem lX4_2 : u_lay RX4 TX4 2 ∈ rx_T := rx_c1 217 rfl rfl
set_option maxRecDepth 20000 in
theorem lX4_3 : u_lay RX4 TX4 3 ∈ rx_T := rx_c1 219 rfl rfl
set_option maxRecDepth 20000 in
theorem lX4_4 : u_lay RX4 TX4 4 ∈ rx_T := rx_c1 221 rfl rfl
set_option maxRecDepth 20000 in
theorem lX4_5 : u_lay RX4 TX4 5 ∈ rx_T := rx_c1 223 rfl rfl
set_option maxRecDepth 20000 in
theorem lX4_6 : u_lay RX4 TX4 6 ∈ rx_T := rx_c1 225 rfl rfl
set_option maxRecDepth 20000 in
theorem lX4_7 : u_lay RX4 TX4 7 ∈ rx_T := rx_c1 227 rfl rfl
set_option maxRecDepth 20000 in
theorem lX4_8 : u_lay RX4 TX4 8 ∈ rx_T := rx_c1 229 rfl rfl
set_option maxRecDepth 20000 in
theorem lX4_9 : u_lay RX4 TX4 9 ∈ rx_T := rx_c1 231 rfl rfl
set_option maxRecDepth 20000 in
theorem iX4 : ∀ w ∈ u_ws RX4 TX4 10, w ∈ rx_T := by
  show ∀ w ∈ [u_lay RX4 TX4 0, u_lay RX4 TX4 1, u_lay RX4 TX4 2, u_lay RX4 TX4 3, u_lay RX4 TX4 4, u_lay RX4 TX4 5, u_lay RX4 TX4 6, u_lay RX4 TX4 7, u_lay RX4 TX4 8, u_lay RX4 TX4 9], w ∈ rx_T
  exact List.forall_mem_cons.mpr ⟨lX4_0, List.forall_mem_cons.mpr ⟨lX4_1, List.forall_mem_cons.mpr ⟨lX4_2, List.forall_mem_cons.mpr ⟨lX4_3, List.forall_mem_cons.mpr ⟨lX4_4, List.forall_mem_cons.mpr ⟨lX4_5, List.forall_mem_cons.mpr ⟨lX4_6, List.forall_mem_cons.mpr ⟨lX4_7, List.forall_mem_cons.mpr ⟨lX4_8, List.forall_mem_cons.mpr ⟨lX4_9, (fun _ h => absurd h List.not_mem_nil)⟩⟩⟩⟩⟩⟩⟩⟩⟩⟩
set_option maxRecDepth 20000 in
theorem lX5_0 : u_lay RX5 TX5 0 ∈ rx_T := rx_c2 46 rfl rfl
set_option maxRecDepth 20000 in
theorem iX5 : ∀ w ∈ u_ws RX5 TX5 1, w ∈ rx_T := by
  show ∀ w ∈ [u_lay RX5 TX5 0], w ∈ rx_T
  exact List.forall_mem_cons.mpr ⟨lX5_0, (fun _ h => absurd h List.not_mem_nil)⟩
set_option maxRecDepth 20000 in
theorem lX6_0 : u_lay RX6 TX6 0 ∈ rx_T := rx_c2 57 rfl rfl
set_option maxRecDepth 20000 in
theorem lX6_1 : u_lay RX6 TX6 1 ∈ rx_T := rx_c2 59 rfl rfl
set_option maxRecDepth 20000 in
theorem lX6_2 : u_lay RX6 TX6 2 ∈ rx_T := rx_c2 61 rfl rfl
set_option maxRecDepth 20000 in
theorem lX6_3 : u_lay RX6 TX6 3 ∈ rx_T := rx_c2 63 rfl rfl
set_option maxRecDepth 20000 in
theorem lX6_4 : u_lay RX6 TX6 4 ∈ rx_T := rx_c2 65 rfl rfl
set_option maxRecDepth 20000 in
theorem lX6_5 : u_lay RX6 TX6 5 ∈ rx_T := rx_c2 67 rfl rfl
set_option maxRecDepth 20000 in
theorem lX6_6 : u_lay RX6 TX6 6 ∈ rx_T := rx_c2 69 rfl rfl
set_option maxRecDepth 20000 in
theorem iX6 : ∀ w ∈ u_ws RX6 TX6 7, w ∈ rx_T := by
  show ∀ w ∈ [u_lay RX6 TX6 0, u_lay RX6 TX6 1, u_lay RX6 TX6 2, u_lay RX6 TX6 3, u_lay RX6 TX6 4, u_lay RX6 TX6 5, u_lay RX6 TX6 6], w ∈ rx_T
  exact List.forall_mem_cons.mpr ⟨lX6_0, List.forall_mem_cons.mpr ⟨lX6_1, List.forall_mem_cons.mpr ⟨lX6_2, List.forall_mem_cons.mpr ⟨lX6_3, List.forall_mem_cons.mpr ⟨lX6_4, List.forall_mem_cons.mpr ⟨lX6_5, List.forall_mem_cons.mpr ⟨lX6_6, (fun _ h => absurd h List.not_mem_nil)⟩⟩⟩⟩⟩⟩⟩
set_option maxRecDepth 20000 in
theorem lX7_0 : u_lay RX7 TX7 0 ∈ rx_T := rx_c2 28 rfl rfl
set_option maxRecDepth 20000 in
theorem lX7_1 : u_lay RX7 TX7 1 ∈ rx_T := rx_c2 30 rfl rfl
set_option maxRecDepth 20000 in
theorem iX7 : ∀ w ∈ u_ws RX7 TX7 2, w ∈ rx_T := by
  show ∀ w ∈ [u_lay RX7 TX7 0, u_lay RX7 TX7 1], w ∈ rx_T
  exact List.forall_mem_cons.mpr ⟨lX7_0, List.forall_mem_cons.mpr ⟨lX7_1, (fun _ h => absurd h List.not_mem_nil)⟩⟩
set_option maxRecDepth 20000 in
theorem lX8_0 : u_lay RX8 TX8 0 ∈ rx_T := rx_c1 94 rfl rfl
set_option maxRecDepth 20000 in
theorem lX8_1 : u_lay RX8 TX8 1 ∈ rx_T := rx_c1 96 rfl rfl
set_option maxRecDepth 20000 in
theorem lX8_2 : u_lay RX8 TX8 2 ∈ rx_T := rx_c1 98 rfl rfl
set_option maxRecDepth 20000 in
theorem lX8_3 : u_lay RX8 TX8 3 ∈ rx_T := rx_c1 100 rfl rfl
set_option maxRecDepth 20000 in
theorem lX8_4 : u_lay RX8 TX8 4 ∈ rx_T := rx_c1 102 rfl rfl
set_option maxRecDepth 20000 in
theorem lX8_5 : u_lay RX8 TX8 5 ∈ rx_T := rx_c1 104 rfl rfl
set_option maxRecDepth 20000 in
theorem lX8_6 : u_lay RX8 TX8 6 ∈ rx_T := rx_c1 106 rfl rfl
set_option maxRecDepth 20000 in
theorem lX8_7 : u_lay RX8 TX8 7 ∈ rx_T := rx_c1 108 rfl rfl
set_option maxRecDepth 20000 in
theorem lX8_8 : u_lay RX8 TX8 8 ∈ rx_T := rx_c1 110 rfl rfl
set_option maxRecDepth 20000 in
theorem lX8_9 : u_lay RX8 TX8 9 ∈ rx_T := rx_c1 112 rfl rfl
set_option maxRecDepth 20000 in
theorem lX8_10 : u_lay RX8 TX8 10 ∈ rx_T := rx_c1 114 rfl rfl
set_option maxRecDepth 20000 in
theorem iX8 : ∀ w ∈ u_ws RX8 TX8 11, w ∈ rx_T := by
  show ∀ w ∈ [u_lay RX8 TX8 0, u_lay RX8 TX8 1, u_lay RX8 TX8 2, u_lay RX8 TX8 3, u_lay RX8 TX8 4, u_lay RX8 TX8 5, u_lay RX8 TX8 6, u_lay RX8 TX8 7, u_lay RX8 TX8 8, u_lay RX8 TX8 9, u_lay RX8 TX8 10], w ∈ rx_T
  exact List.forall_mem_cons.mpr ⟨lX8_0, List.forall_mem_cons.mpr ⟨lX8_1, List.forall_mem_cons.mpr ⟨lX8_2, List.forall_mem_cons.mpr ⟨lX8_3, List.forall_mem_cons.mpr ⟨lX8_4, List.forall_mem_cons.mpr ⟨lX8_5, List.forall_mem_cons.mpr ⟨lX8_6, List.forall_mem_cons.mpr ⟨lX8_7, List.forall_mem_cons.mpr ⟨lX8_8, List.forall_mem_cons.mpr ⟨lX8_9, List.forall_mem_cons.mpr ⟨lX8_10, (fun _ h => absurd h List.not_mem_nil)⟩⟩⟩⟩⟩⟩⟩⟩⟩⟩⟩
set_option maxRecDepth 20000 in
theorem lX9_0 : u_lay RX9 TX9 0 ∈ rx_T := rx_c1 187 rfl rfl
set_option maxRecDepth 20000 in
theorem lX9_1 : u_lay RX9 TX9 1 ∈ rx_T := rx_c1 189 rfl rfl
set_option maxRecDepth 20000 in
theorem lX9_2 : u_lay RX9 TX9 2 ∈ rx_T := rx_c1 191 rfl rfl
set_option maxRecDepth 20000 in
theorem lX9_3 : u_lay RX9 TX9 3 ∈ rx_T := rx_c1 193 rfl rfl
set_option maxRecDepth 20000 in
theorem lX9_4 : u_lay RX9 TX9 4 ∈ rx_T := rx_c1 195 rfl rfl
set_option maxRecDepth 20000 in
theorem iX9 : ∀ w ∈ u_ws RX9 TX9 5, w ∈ rx_T := by
  show ∀ w ∈ [u_lay RX9 TX9 0, u_lay RX9 TX9 1, u_lay RX9 TX9 2, u_lay RX9 TX9 3, u_lay RX9 TX9 4], w ∈ rx_T
  exact List.forall_mem_cons.mpr ⟨lX9_0, List.forall_mem_cons.mpr ⟨lX9_1, List.forall_mem_cons.mpr ⟨lX9_2, List.forall_mem_cons.mpr ⟨lX9_3, List.forall_mem_cons.mpr ⟨lX9_4, (fun _ h => absurd h List.not_mem_nil)⟩⟩⟩⟩⟩
set_option maxRecDepth 20000 in
theorem lX10_0 : u_lay RX10 TX10 0 ∈ rx_T := rx_c2 148 rfl rfl
set_option maxRecDepth 20000 in
theorem lX10_1 : u_lay RX10 TX10 1 ∈ rx_T := rx_c2 150 rfl rfl
set_option maxRecDepth 20000 in
theorem lX10_2 : u_lay RX10 TX10 2 ∈ rx_T := rx_c2 152 rfl rfl
set_option maxRecDepth 20000 in
theorem lX10_3 : u_lay RX10 TX10 3 ∈ rx_T := rx_c2 154 rfl rfl
set_option maxRecDepth 20000 in
theorem lX10_4 : u_lay RX10 TX10 4 ∈ rx_T := rx_c2 156 rfl rfl
set_option maxRecDepth 20000 in
theorem lX10_5 : u_lay RX10 TX10 5 ∈ rx_T := rx_c2 158 rfl rfl
set_option maxRecDepth 20000 in
theorem lX10_6 : u_lay RX10 TX10 6 ∈ rx_T := rx_c2 160 rfl rfl
set_option maxRecDepth 20000 in
theorem lX10_7 : u_lay RX10 TX10 7 ∈ rx_T := rx_c2 162 rfl rfl
set_option maxRecDepth 20000 in
theorem lX10_8 : u_lay RX10 TX10 8 ∈ rx_T := rx_c2 164 rfl rfl
set_option maxRecDepth 20000 in
theorem lX10_9 : u_lay RX10 TX10 9 ∈ rx_T := rx_c2 166 rfl rfl
set_option maxRecDepth 20000 in
theorem lX10_10 : u_lay RX10 TX10 10 ∈ rx_T := rx_c2 168 rfl rfl
set_option maxRecDepth 20000 in
theorem iX10 : ∀ w ∈ u_ws RX10 TX10 11, w ∈ rx_T := by
  show ∀ w ∈ [u_lay RX10 TX10 0, u_lay RX10 TX10 1, u_lay RX10 TX10 2, u_lay RX10 TX10 3, u_lay RX10 TX10 4, u_lay RX10 TX10 5, u_lay RX10 TX10 6, u_lay RX10 TX10 7, u_lay RX10 TX10 8, u_lay RX10 TX10 9, u_lay RX10 TX10 10], w ∈ rx_T
  exact List.forall_mem_cons.mpr ⟨lX10_0, List.forall_mem_cons.mpr ⟨lX10_1, List.forall_mem_cons.mpr ⟨lX10_2, List.forall_mem_cons.mpr ⟨lX10_3, List.forall_mem_cons.mpr ⟨lX10_4, List.forall_mem_cons.mpr ⟨lX10_5, List.forall_mem_cons.mpr ⟨lX10_6, List.forall_mem_cons.mpr ⟨lX10_7, List.forall_mem_cons.mpr ⟨lX10_8, List.forall_mem_cons.mpr ⟨lX10_9, List.forall_mem_cons.mpr ⟨lX10_10, (fun _ h => absurd h List.not_mem_nil)⟩⟩⟩⟩⟩⟩⟩⟩⟩⟩⟩
set_option maxRecDepth 20000 in
theorem lX11_0 : u_lay RX11 TX11 0 ∈ rx_T := rx_c5 209 rfl rfl
set_option maxRecDepth 20000 in
theorem lX11_1 : u_lay RX11 TX11 1 ∈ rx_T := rx_c5 211 rfl rfl
set_option maxRecDepth 20000 in
theorem lX11_2 : u_lay RX11 TX11 2 ∈ rx_T := rx_c5 213 rfl rfl
set_option maxRecDepth 20000 in
theorem lX11_3 : u_lay RX11 TX11 3 ∈ rx_T := rx_c5 215 rfl rfl
set_option maxRecDepth 20000 in
theorem lX11_4 : u_lay RX11 TX11 4 ∈ rx_T := rx_c5 217 rfl rfl
set_option maxRecDepth 20000 in
theorem lX11_5 : u_lay RX11 TX11 5 ∈ rx_T := rx_c5 219 rfl rfl
set_option maxRecDepth 20000 in
theorem lX11_6 : u_lay RX11 TX11 6 ∈ rx_T := rx_c5 221 rfl rfl
set_option maxRecDepth 20000 in
theorem lX11_7 : u_lay RX11 TX11 7 ∈ rx_T := rx_c5 223 rfl rfl
set_option maxRecDepth 20000 in
theorem lX11_8 : u_lay RX11 TX11 8 ∈ rx_T := rx_c5 225 rfl rfl
set_option maxRecDepth 20000 in
theorem lX11_9 : u_lay RX11 TX11 9 ∈ rx_T := rx_c5 227 rfl rfl
set_option maxRecDepth 20000 in
theorem lX11_10 : u_lay RX11 TX11 10 ∈ rx_T := rx_c5 229 rfl rfl
set_option maxRecDepth 20000 in
theorem lX11_11 : u_lay RX11 TX11 11 ∈ rx_T := rx_c5 231 rfl rfl
set_option maxRecDepth 20000 in
theorem lX11_12 : u_lay RX11 TX11 12 ∈ rx_T := rx_c5 233 rfl rfl
set_option maxRecDepth 20000 in
theorem lX11_13 : u_lay RX11 TX11 13 ∈ rx_T := rx_c5 235 rfl rfl
set_option maxRecDepth 20000 in
theorem lX11_14 : u_lay RX11 TX11 14 ∈ rx_T := rx_c5 237 rfl rfl
set_option maxRecDepth 20000 in
theorem lX11_15 : u_lay RX11 TX11 15 ∈ rx_T := rx_c5 239 rfl rfl
set_option maxRecDepth 20000 in
theorem lX11_16 : u_lay RX11 TX11 16 ∈ rx_T := rx_c6 1 rfl rfl
set_option maxRecDepth 20000 in
theorem lX11_17 : u_lay RX11 TX11 17 ∈ rx_T := rx_c6 3 rfl rfl
set_option maxRecDepth 20000 in
theorem lX11_18 : u_lay RX11 TX11 18 ∈ rx_T := rx_c6 5 rfl rfl
set_option maxRecDepth 20000 in
theorem lX11_19 : u_lay RX11 TX11 19 ∈ rx_T := rx_c6 7 rfl rfl
set_option maxRecDepth 20000 in
theorem lX11_20 : u_lay RX11 TX11 20 ∈ rx_T := rx_c6 9 rfl rfl
set_option maxRecDepth 20000 in
theorem lX11_21 : u_lay RX11 TX11 21 ∈ rx_T := rx_c6 11 rfl rfl
set_option maxRecDepth 20000 in
theorem lX11_22 : u_lay RX11 TX11 22 ∈ rx_T := rx_c6 13 rfl rfl
set_option maxRecDepth 20000 in
theorem lX11_23 : u_lay RX11 TX11 23 ∈ rx_T := rx_c6 15 rfl rfl
set_option maxRecDepth 20000 in
theorem lX11_24 : u_lay RX11 TX11 24 ∈ rx_T := rx_c6 17 rfl rfl
set_option maxRecDepth 20000 in
theorem lX11_25 : u_lay RX11 TX11 25 ∈ rx_T := rx_c6 19 rfl rfl
set_option maxRecDepth 20000 in
theorem lX11_26 : u_lay RX11 TX11 26 ∈ rx_T := rx_c6 21 rfl rfl
set_option maxRecDepth 20000 in
theorem lX11_27 : u_lay RX11 TX11 27 ∈ rx_T := rx_c6 23 rfl rfl
set_option maxRecDepth 20000 in
theorem lX11_28 : u_lay RX11 TX11 28 ∈ rx_T := rx_c6 25 rfl rfl
set_option maxRecDepth 20000 in
theorem lX11_29 : u_lay RX11 TX11 29 ∈ rx_T := rx_c6 27 rfl rfl
set_option maxRecDepth 20000 in
theorem lX11_30 : u_lay RX11 TX11 30 ∈ rx_T := rx_c6 29 rfl rfl
set_option maxRecDepth 20000 in
theorem lX11_31 : u_lay RX11 TX11 31 ∈ rx_T := rx_c6 31 rfl rfl
set_option maxRecDepth 20000 in
theorem lX11_32 : u_lay RX11 TX11 32 ∈ rx_T := rx_c6 33 rfl rfl
set_option maxRecDepth 20000 in
theorem lX11_33 : u_lay RX11 TX11 33 ∈ rx_T := rx_c6 35 rfl rfl
set_option maxRecDepth 20000 in
theorem lX11_34 : u_lay RX11 TX11 34 ∈ rx_T := rx_c6 37 rfl rfl
set_option maxRecDepth 20000 in
theorem lX11_35 : u_lay RX11 TX11 35 ∈ rx_T := rx_c6 39 rfl rfl
set_option maxRecDepth 20000 in
theorem lX11_36 : u_lay RX11 TX11 36 ∈ rx_T := rx_c6 41 rfl rfl
set_option maxRecDepth 20000 in
theorem lX11_37 : u_lay RX11 TX11 37 ∈ rx_T := rx_c6 43 rfl rfl
set_option maxRecDepth 20000 in
theorem lX11_38 : u_lay RX11 TX11 38 ∈ rx_T := rx_c6 45 rfl rfl
set_option maxRecDepth 20000 in
theorem lX11_39 : u_lay RX11 TX11 39 ∈ rx_T := rx_c6 47 rfl rfl
set_option maxRecDepth 20000 in
theorem lX11_40 : u_lay RX11 TX11 40 ∈ rx_T := rx_c6 49 rfl rfl
set_option maxRecDepth 20000 in
theorem lX11_41 : u_lay RX11 TX11 41 ∈ rx_T := rx_c6 51 rfl rfl
set_option maxRecDepth 20000 in
theorem lX11_42 : u_lay RX11 TX11 42 ∈ rx_T := rx_c6 53 rfl rfl
set_option maxRecDepth 20000 in
theorem lX11_43 : u_lay RX11 TX11 43 ∈ rx_T := rx_c6 55 rfl rfl
set_option maxRecDepth 20000 in
theorem lX11_44 : u_lay RX11 TX11 44 ∈ rx_T := rx_c6 57 rfl rfl
set_option maxRecDepth 20000 in
theorem lX11_45 : u_lay RX11 TX11 45 ∈ rx_T := rx_c6 59 rfl rfl
set_option maxRecDepth 20000 in
theorem lX11_46 : u_lay RX11 TX11 46 ∈ rx_T := rx_c6 61 rfl rfl
set_option maxRecDepth 20000 in
theorem lX11_47 : u_lay RX11 TX11 47 ∈ rx_T := rx_c6 63 rfl rfl
set_option maxRecDepth 20000 in
theorem lX11_48 : u_lay RX11 TX11 48 ∈ rx_T := rx_c6 65 rfl rfl
set_option maxRecDepth 20000 in
theorem lX11_49 : u_lay RX11 TX11 49 ∈ rx_T := rx_c6 67 rfl rfl
set_option maxRecDepth 20000 in
theorem lX11_50 : u_lay RX11 TX11 50 ∈ rx_T := rx_c6 69 rfl rfl
set_option maxRecDepth 20000 in
theorem lX11_51 : u_lay RX11 TX11 51 ∈ rx_T := rx_c6 71 rfl rfl
set_option maxRecDepth 20000 in
theorem lX11_52 : u_lay RX11 TX11 52 ∈ rx_T := rx_c6 73 rfl rfl
set_option maxRecDepth 20000 in
theorem lX11_53 : u_lay RX11 TX11 53 ∈ rx_T := rx_c6 75 rfl rfl
set_option maxRecDepth 20000 in
theorem lX11_54 : u_lay RX11 TX11 54 ∈ rx_T := rx_c6 77 rfl rfl
set_option maxRecDepth 20000 in
theorem lX11_55 : u_lay RX11 TX11 55 ∈ rx_T := rx_c6 79 rfl rfl
set_option maxRecDepth 20000 in
theorem lX11_56 : u_lay RX11 TX11 56 ∈ rx_T := rx_c6 81 rfl rfl
set_option maxRecDepth 20000 in
theorem lX11_57 : u_lay RX11 TX11 57 ∈ rx_T := rx_c6 83 rfl rfl
set_option maxRecDepth 20000 in
theorem lX11_58 : u_lay RX11 TX11 58 ∈ rx_T := rx_c6 85 rfl rfl
set_option maxRecDepth 20000 in
theorem lX11_59 : u_lay RX11 TX11 59 ∈ rx_T := rx_c6 87 rfl rfl
set_option maxRecDepth 20000 in
theorem lX11_60 : u_lay RX11 TX11 60 ∈ rx_T := rx_c6 89 rfl rfl
set_option maxRecDepth 20000 in
theorem lX11_61 : u_lay RX11 TX11 61 ∈ rx_T := rx_c6 91 rfl rfl
set_option maxRecDepth 20000 in
theorem lX11_62 : u_lay RX11 TX11 62 ∈ rx_T := rx_c6 93 rfl rfl
set_option maxRecDepth 20000 in
theorem lX11_63 : u_lay RX11 TX11 63 ∈ rx_T := rx_c6 95 rfl rfl
set_option maxRecDepth 20000 in
theorem lX11_64 : u_lay RX11 TX11 64 ∈ rx_T := rx_c6 97 rfl rfl
set_option maxRecDepth 20000 in
theorem lX11_65 : u_lay RX11 TX11 65 ∈ rx_T := rx_c6 99 rfl rfl
set_option maxRecDepth 20000 in
theorem lX11_66 : u_lay RX11 TX11 66 ∈ rx_T := rx_c6 101 rfl rfl
set_option maxRecDepth 20000 in
theorem lX11_67 : u_lay RX11 TX11 67 ∈ rx_T := rx_c6 103 rfl rfl
set_option maxRecDepth 20000 in
theorem iX11 : ∀ w ∈ u_ws RX11 TX11 68, w ∈ rx_T := by
  show ∀ w ∈ [u_lay RX11 TX11 0, u_lay RX11 TX11 1, u_lay RX11 TX11 2, u_lay RX11 TX11 3, u_lay RX11 TX11 4, u_lay RX11 TX11 5, u_lay RX11 TX11 6, u_lay RX11 TX11 7, u_lay RX11 TX11 8, u_lay RX11 TX11 9, u_lay RX11 TX11 10, u_lay RX11 TX11 11, u_lay RX11 TX11 12, u_lay RX11 TX11 13, u_lay RX11 TX11 14, u_lay RX11 TX11 15, u_lay RX11 TX11 16, u_lay RX11 TX11 17, u_lay RX11 TX11 18, u_lay RX11 TX11 19, u_lay RX11 TX11 20, u_lay RX11 TX11 21, u_lay RX11 TX11 22, u_lay RX11 TX11 23, u_lay RX11 TX11 24, u_lay RX11 TX11 25, u_lay RX11 TX11 26, u_lay RX11 TX11 27, u_lay RX11 TX11 28, u_lay RX11 TX11 29, u_lay RX11 TX11 30, u_lay RX11 TX11 31, u_lay RX11 TX11 32, u_lay RX11 TX11 33, u_lay RX11 TX11 34, u_lay RX11 TX11 35, u_lay RX11 TX11 36, u_lay RX11 TX11 37, u_lay RX11 TX11 38, u_lay RX11 TX11 39, u_lay RX11 TX11 40, u_lay RX11 TX11 41, u_lay RX11 TX11 42, u_lay RX11 TX11 43, u_lay RX11 TX11 44, u_lay RX11 TX11 45, u_lay RX11 TX11 46, u_lay RX11 TX11 47, u_lay RX11 TX11 48, u_lay RX11 TX11 49, u_lay RX11 TX11 50, u_lay RX11 TX11 51, u_lay RX11 TX11 52, u_lay RX11 TX11 53, u_lay RX11 TX11 54, u_lay RX11 TX11 55, u_lay RX11 TX11 56, u_lay RX11 TX11 57, u_lay RX11 TX11 58, u_lay RX11 TX11 59, u_lay RX11 TX11 60, u_lay RX11 TX11 61, u_lay RX11 TX11 62, u_lay RX11 TX11 63, u_lay RX11 TX11 64, u_lay RX11 TX11 65, u_lay RX11 TX11 66, u_lay RX11 TX11 67], w ∈ rx_T
  exact List.forall_mem_cons.mpr ⟨lX11_0, List.forall_mem_cons.mpr ⟨lX11_1, List.forall_mem_cons.mpr ⟨lX11_2, List.forall_mem_cons.mpr ⟨lX11_3, List.forall_mem_cons.mpr ⟨lX11_4, List.forall_mem_cons.mpr ⟨lX11_5, List.forall_mem_cons.mpr ⟨lX11_6, List.forall_mem_cons.mpr ⟨lX11_7, List.forall_mem_cons.mpr ⟨lX11_8, List.forall_mem_cons.mpr ⟨lX11_9, List.forall_mem_cons.mpr ⟨lX11_10, List.forall_mem_cons.mpr ⟨lX11_11, List.forall_mem_cons.mpr ⟨lX11_12, List.forall_mem_cons.mpr ⟨lX11_13, List.forall_mem_cons.mpr ⟨lX11_14, List.forall_mem_cons.mpr ⟨lX11_15, List.forall_mem_cons.mpr ⟨lX11_16, List.forall_mem_cons.mpr ⟨lX11_17, List.forall_mem_cons.mpr ⟨lX11_18, List.forall_mem_cons.mpr ⟨lX11_19, List.forall_mem_cons.mpr ⟨lX11_20, List.forall_mem_cons.mpr ⟨lX11_21, List.forall_mem_cons.mpr ⟨lX11_22, List.forall_mem_cons.mpr ⟨lX11_23, List.forall_mem_cons.mpr ⟨lX11_24, List.forall_mem_cons.mpr ⟨lX11_25, List.forall_mem_cons.mpr ⟨lX11_26, List.forall_mem_cons.mpr ⟨lX11_27, List.forall_mem_cons.mpr ⟨lX11_28, List.forall_mem_cons.mpr ⟨lX11_29, List.forall_mem_cons.mpr ⟨lX11_30, List.forall_mem_cons.mpr ⟨lX11_31, List.forall_mem_cons.mpr ⟨lX11_32, List.forall_mem_cons.mpr ⟨lX11_33, List.forall_mem_cons.mpr ⟨lX11_34, List.forall_mem_cons.mpr ⟨lX11_35, List.forall_mem_cons.mpr ⟨lX11_36, List.forall_mem_cons.mpr ⟨lX11_37, List.forall_mem_cons.mpr ⟨lX11_38, List.forall_mem_cons.mpr ⟨lX11_39, List.forall_mem_cons.mpr ⟨lX11_40, List.forall_mem_cons.mpr ⟨lX11_41, List.forall_mem_cons.mpr ⟨lX11_42, List.forall_mem_cons.mpr ⟨lX11_43, List.forall_mem_cons.mpr ⟨lX11_44, List.forall_mem_cons.mpr ⟨lX11_45, List.forall_mem_cons.mpr ⟨lX11_46, List.forall_mem_cons.mpr ⟨lX11_47, List.forall_mem_cons.mpr ⟨lX11_48, List.forall_mem_cons.mpr ⟨lX11_49, List.forall_mem_cons.mpr ⟨lX11_50, List.forall_mem_cons.mpr ⟨lX11_51, List.forall_mem_cons.mpr ⟨lX11_52, List.forall_mem_cons.mpr ⟨lX11_53, List.forall_mem_cons.mpr ⟨lX11_54, List.forall_mem_cons.mpr ⟨lX11_55, List.forall_mem_cons.mpr ⟨lX11_56, List.forall_mem_cons.mpr ⟨lX11_57, List.forall_mem_cons.mpr ⟨lX11_58, List.forall_mem_cons.mpr ⟨lX11_59, List.forall_mem_cons.mpr ⟨lX11_60, List.forall_mem_cons.mpr ⟨lX11_61, List.forall_mem_cons.mpr ⟨lX11_62, List.forall_mem_cons.mpr ⟨lX11_63, List.forall_mem_cons.mpr ⟨lX11_64, List.forall_mem_cons.mpr ⟨lX11_65, List.forall_mem_cons.mpr ⟨lX11_66, List.forall_mem_cons.mpr ⟨lX11_67, (fun _ h => absurd h List.not_mem_nil)⟩⟩⟩⟩⟩⟩⟩⟩⟩⟩⟩⟩⟩⟩⟩⟩⟩⟩⟩⟩⟩⟩⟩⟩⟩⟩⟩⟩⟩⟩⟩⟩⟩⟩⟩⟩⟩⟩⟩⟩⟩⟩⟩⟩⟩⟩⟩⟩⟩⟩⟩⟩⟩⟩⟩⟩⟩⟩⟩⟩⟩⟩⟩⟩⟩⟩⟩⟩
set_option maxRecDepth 20000 in
theorem fl_2_9 : rx_F RX2 9 2 0 := ⟨_, _, _, rfl, by decide, iX2, rfl, Or.inl (rx_c1 40 rfl rfl)⟩
set_option maxRecDepth 20000 in
theorem fl_2_15 : rx_F RX2 15 2 1 := ⟨_, _, _, rfl, by decide, iX2, rfl, Or.inl (rx_c1 41 rfl rfl)⟩
set_option maxRecDepth 20000 in
theorem fl_2_18 : rx_F RX2 18 2 2 := ⟨_, _, _, rfl, by decide, iX2, rfl, Or.inl (rx_c1 42 rfl rfl)⟩
set_option maxRecDepth 20000 in
theorem fl_2_21 : rx_F RX2 21 2 3 := ⟨_, _, _, rfl, by decide, iX2, rfl, Or.inl (rx_c1 43 rfl rfl)⟩
set_option maxRecDepth 20000 in
theorem fl_2_24 : rx_F RX2 24 2 4 := ⟨_, _, _, rfl, by decide, iX2, rfl, Or.inl (rx_c1 44 rfl rfl)⟩
set_option maxRecDepth 20000 in
theorem fl_7_15 : rx_F RX7 15 8 0 := ⟨_, _, _, rfl, by decide, iX8, rfl, Or.inr ⟨"SpouseTalk", rx_d1 58 rfl⟩⟩
set_option maxRecDepth 20000 in
theorem fl_8_12 : rx_F RX8 12 8 0 := ⟨_, _, _, rfl, by decide, iX8, rfl, Or.inl (rx_c1 59 rfl rfl)⟩
set_option maxRecDepth 20000 in
theorem fl_4_151 : rx_F RX4 151 8 0 := ⟨_, _, _, rfl, by decide, iX8, rfl, Or.inr ⟨"SpouseTalk", rx_d1 60 rfl⟩⟩
set_option maxRecDepth 20000 in
theorem fl_8_18 : rx_F RX8 18 8 1 := ⟨_, _, _, rfl, by decide, iX8, rfl, Or.inl (rx_c1 61 rfl rfl)⟩
set_option maxRecDepth 20000 in
theorem fl_8_22 : rx_F RX8 22 8 2 := ⟨_, _, _, rfl, by decide, iX8, rfl, Or.inl (rx_c1 62 rfl rfl)⟩
set_option maxRecDepth 20000 in
theorem fl_10_110 : rx_F RX10 110 8 2 := ⟨_, _, _, rfl, by decide, iX8, rfl, Or.inr ⟨"SpouseTalk", rx_d1 63 rfl⟩⟩
set_option maxRecDepth 20000 in
theorem fl_4_142 : rx_F RX4 142 8 2 := ⟨_, _, _, rfl, by decide, iX8, rfl, Or.inr ⟨"SpouseTalk", rx_d1 64 rfl⟩⟩
set_option maxRecDepth 20000 in
theorem fl_8_25 : rx_F RX8 25 8 3 := ⟨_, _, _, rfl, by decide, iX8, rfl, Or.inl (rx_c1 65 rfl rfl)⟩
set_option maxRecDepth 20000 in
theorem fl_10_120 : rx_F RX10 120 8 3 := ⟨_, _, _, rfl, by decide, iX8, rfl, Or.inr ⟨"SpouseTalk", rx_d1 66 rfl⟩⟩
set_option maxRecDepth 20000 in
theorem fl_7_84 : rx_F RX7 84 8 3 := ⟨_, _, _, rfl, by decide, iX8, rfl, Or.inr ⟨"SpouseTalk", rx_d1 67 rfl⟩⟩
set_option maxRecDepth 20000 in
theorem fl_8_28 : rx_F RX8 28 8 4 := ⟨_, _, _, rfl, by decide, iX8, rfl, Or.inl (rx_c1 68 rfl rfl)⟩
set_option maxRecDepth 20000 in
theorem fl_7_53 : rx_F RX7 53 8 4 := ⟨_, _, _, rfl, by decide, iX8, rfl, Or.inr ⟨"SpouseTalk", rx_d1 69 rfl⟩⟩
set_option maxRecDepth 20000 in
theorem fl_10_127 : rx_F RX10 127 8 4 := ⟨_, _, _, rfl, by decide, iX8, rfl, Or.inr ⟨"SpouseTalk", rx_d1 70 rfl⟩⟩
set_option maxRecDepth 20000 in
theorem fl_8_31 : rx_F RX8 31 8 5 := ⟨_, _, _, rfl, by decide, iX8, rfl, Or.inl (rx_c1 71 rfl rfl)⟩
set_option maxRecDepth 20000 in
theorem fl_8_37 : rx_F RX8 37 8 6 := ⟨_, _, _, rfl, by decide, iX8, rfl, Or.inl (rx_c1 72 rfl rfl)⟩
set_option maxRecDepth 20000 in
theorem fl_4_107 : rx_F RX4 107 8 6 := ⟨_, _, _, rfl, by decide, iX8, rfl, Or.inr ⟨"SpouseTalk", rx_d1 73 rfl⟩⟩
set_option maxRecDepth 20000 in
theorem fl_10_141 : rx_F RX10 141 8 6 := ⟨_, _, _, rfl, by decide, iX8, rfl, Or.inr ⟨"SpouseTalk", rx_d1 74 rfl⟩⟩
set_option maxRecDepth 20000 in
theorem fl_8_41 : rx_F RX8 41 8 7 := ⟨_, _, _, rfl, by decide, iX8, rfl, Or.inl (rx_c1 75 rfl rfl)⟩
set_option maxRecDepth 20000 in
theorem fl_10_138 : rx_F RX10 138 8 7 := ⟨_, _, _, rfl, by decide, iX8, rfl, Or.inr ⟨"SpouseTalk", rx_d1 76 rfl⟩⟩
set_option maxRecDepth 20000 in
theorem fl_6_98 : rx_F RX6 98 8 7 := ⟨_, _, _, rfl, by decide, iX8, rfl, Or.inr ⟨"SpouseTalk", rx_d1 77 rfl⟩⟩
set_option maxRecDepth 20000 in
theorem fl_4_130 : rx_F RX4 130 8 7 := ⟨_, _, _, rfl, by decide, iX8, rfl, Or.inr ⟨"SpouseTalk", rx_d1 78 rfl⟩⟩
set_option maxRecDepth 20000 in
theorem fl_7_87 : rx_F RX7 87 8 7 := ⟨_, _, _, rfl, by decide, iX8, rfl, Or.inr ⟨"SpouseTalk", rx_d1 79 rfl⟩⟩
set_option maxRecDepth 20000 in
theorem fl_8_44 : rx_F RX8 44 8 8 := ⟨_, _, _, rfl, by decide, iX8, rfl, Or.inl (rx_c1 80 rfl rfl)⟩
set_option maxRecDepth 20000 in
theorem fl_6_51 : rx_F RX6 51 8 8 := ⟨_, _, _, rfl, by decide, iX8, rfl, Or.inr ⟨"SpouseTalk", rx_d1 81 rfl⟩⟩
set_option maxRecDepth 20000 in
theorem fl_0_44 : rx_F RX0 44 8 8 := ⟨_, _, _, rfl, by decide, iX8, rfl, Or.inr ⟨"SpouseTalk", rx_d1 82 rfl⟩⟩
set_option maxRecDepth 20000 in
theorem fl_1_30 : rx_F RX1 30 8 8 := ⟨_, _, _, rfl, by decide, iX8, rfl, Or.inr ⟨"SpouseTalk", rx_d1 83 rfl⟩⟩
set_option maxRecDepth 20000 in
theorem fl_4_119 : rx_F RX4 119 8 8 := ⟨_, _, _, rfl, by decide, iX8, rfl, Or.inr ⟨"SpouseTalk", rx_d1 84 rfl⟩⟩
set_option maxRecDepth 20000 in
theorem fl_10_144 : rx_F RX10 144 8 8 := ⟨_, _, _, rfl, by decide, iX8, rfl, Or.inr ⟨"SpouseTalk", rx_d1 85 rfl⟩⟩
set_option maxRecDepth 20000 in
theorem fl_7_141 : rx_F RX7 141 8 8 := ⟨_, _, _, rfl, by decide, iX8, rfl, Or.inr ⟨"SpouseTalk", rx_d1 86 rfl⟩⟩
set_option maxRecDepth 20000 in
theorem fl_8_47 : rx_F RX8 47 8 9 := ⟨_, _, _, rfl, by decide, iX8, rfl, Or.inl (rx_c1 87 rfl rfl)⟩
set_option maxRecDepth 20000 in
theorem fl_4_145 : rx_F RX4 145 8 9 := ⟨_, _, _, rfl, by decide, iX8, rfl, Or.inr ⟨"SpouseTalk", rx_d1 88 rfl⟩⟩
set_option maxRecDepth 20000 in
theorem fl_7_135 : rx_F RX7 135 8 9 := ⟨_, _, _, rfl, by decide, iX8, rfl, Or.inr ⟨"SpouseTalk", rx_d1 89 rfl⟩⟩
set_option maxRecDepth 20000 in
theorem fl_8_50 : rx_F RX8 50 8 10 := ⟨_, _, _, rfl, by decide, iX8, rfl, Or.inl (rx_c1 90 rfl rfl)⟩
set_option maxRecDepth 20000 in
theorem fl_0_32 : rx_F RX0 32 8 10 := ⟨_, _, _, rfl, by decide, iX8, rfl, Or.inr ⟨"SpouseTalk", rx_d1 91 rfl⟩⟩
set_option maxRecDepth 20000 in
theorem fl_4_148 : rx_F RX4 148 8 10 := ⟨_, _, _, rfl, by decide, iX8, rfl, Or.inr ⟨"SpouseTalk", rx_d1 92 rfl⟩⟩
set_option maxRecDepth 20000 in
theorem fl_10_167 : rx_F RX10 167 8 10 := ⟨_, _, _, rfl, by decide, iX8, rfl, Or.inr ⟨"SpouseTalk", rx_d1 93 rfl⟩⟩
set_option maxRecDepth 20000 in
theorem fl_9_9 : rx_F RX9 9 9 0 := ⟨_, _, _, rfl, by decide, iX9, rfl, Or.inl (rx_c1 182 rfl rfl)⟩
set_option maxRecDepth 20000 in
theorem fl_9_15 : rx_F RX9 15 9 1 := ⟨_, _, _, rfl, by decide, iX9, rfl, Or.inl (rx_c1 183 rfl rfl)⟩
set_option maxRecDepth 20000 in
theorem fl_9_19 : rx_F RX9 19 9 2 := ⟨_, _, _, rfl, by decide, iX9, rfl, Or.inl (rx_c1 184 rfl rfl)⟩
set_option maxRecDepth 20000 in
theorem fl_9_22 : rx_F RX9 22 9 3 := ⟨_, _, _, rfl, by decide, iX9, rfl, Or.inl (rx_c1 185 rfl rfl)⟩
set_option maxRecDepth 20000 in
theorem fl_9_49 : rx_F RX9 49 9 4 := ⟨_, _, _, rfl, by decide, iX9, rfl, Or.inl (rx_c1 186 rfl rfl)⟩
set_option maxRecDepth 20000 in
theorem fl_4_12 : rx_F RX4 12 4 0 := ⟨_, _, _, rfl, by decide, iX4, rfl, Or.inl (rx_c1 201 rfl rfl)⟩
set_option maxRecDepth 20000 in
theorem fl_4_21 : rx_F RX4 21 4 1 := ⟨_, _, _, rfl, by decide, iX4, rfl, Or.inl (rx_c1 202 rfl rfl)⟩
set_option maxRecDepth 20000 in
theorem fl_10_93 : rx_F RX10 93 4 1 := ⟨_, _, _, rfl, by decide, iX4, rfl, Or.inr ⟨"SpouseTalk", rx_d1 203 rfl⟩⟩
set_option maxRecDepth 20000 in
theorem fl_4_25 : rx_F RX4 25 4 2 := ⟨_, _, _, rfl, by decide, iX4, rfl, Or.inl (rx_c1 204 rfl rfl)⟩
set_option maxRecDepth 20000 in
theorem fl_4_29 : rx_F RX4 29 4 3 := ⟨_, _, _, rfl, by decide, iX4, rfl, Or.inl (rx_c1 205 rfl rfl)⟩
set_option maxRecDepth 20000 in
theorem fl_4_40 : rx_F RX4 40 4 4 := ⟨_, _, _, rfl, by decide, iX4, rfl, Or.inl (rx_c1 206 rfl rfl)⟩
set_option maxRecDepth 20000 in
theorem fl_4_44 : rx_F RX4 44 4 5 := ⟨_, _, _, rfl, by decide, iX4, rfl, Or.inl (rx_c1 207 rfl rfl)⟩
set_option maxRecDepth 20000 in
theorem fl_4_47 : rx_F RX4 47 4 6 := ⟨_, _, _, rfl, by decide, iX4, rfl, Or.inl (rx_c1 208 rfl rfl)⟩
set_option maxRecDepth 20000 in
theorem fl_4_70 : rx_F RX4 70 4 7 := ⟨_, _, _, rfl, by decide, iX4, rfl, Or.inl (rx_c1 209 rfl rfl)⟩
set_option maxRecDepth 20000 in
theorem fl_10_92 : rx_F RX10 92 4 7 := ⟨_, _, _, rfl, by decide, iX4, rfl, Or.inr ⟨"SpouseTalk", rx_d1 210 rfl⟩⟩
set_option maxRecDepth 20000 in
theorem fl_4_50 : rx_F RX4 50 4 8 := ⟨_, _, _, rfl, by decide, iX4, rfl, Or.inl (rx_c1 211 rfl rfl)⟩
set_option maxRecDepth 20000 in
theorem fl_4_53 : rx_F RX4 53 4 9 := ⟨_, _, _, rfl, by decide, iX4, rfl, Or.inl (rx_c1 212 rfl rfl)⟩
set_option maxRecDepth 20000 in
theorem fl_3_11 : rx_F RX3 11 3 0 := ⟨_, _, _, rfl, by decide, iX3, rfl, Or.inl (rx_c2 2 rfl rfl)⟩
set_option maxRecDepth 20000 in
theorem fl_3_16 : rx_F RX3 16 3 1 := ⟨_, _, _, rfl, by decide, iX3, rfl, Or.inl (rx_c2 3 rfl rfl)⟩
set_option maxRecDepth 20000 in
theorem fl_3_19 : rx_F RX3 19 3 2 := ⟨_, _, _, rfl, by decide, iX3, rfl, Or.inl (rx_c2 4 rfl rfl)⟩
set_option maxRecDepth 20000 in
theorem fl_3_23 : rx_F RX3 23 3 3 := ⟨_, _, _, rfl, by decide, iX3, rfl, Or.inl (rx_c2 5 rfl rfl)⟩
set_option maxRecDepth 20000 in
theorem fl_3_33 : rx_F RX3 33 3 4 := ⟨_, _, _, rfl, by decide, iX3, rfl, Or.inl (rx_c2 6 rfl rfl)⟩
set_option maxRecDepth 20000 in
theorem fl_10_151 : rx_F RX10 151 3 4 := ⟨_, _, _, rfl, by decide, iX3, rfl, Or.inr ⟨"SpouseTalk", rx_d2 7 rfl⟩⟩
set_option maxRecDepth 20000 in
theorem fl_7_9 : rx_F RX7 9 7 0 := ⟨_, _, _, rfl, by decide, iX7, rfl, Or.inl (rx_c2 26 rfl rfl)⟩
set_option maxRecDepth 20000 in
theorem fl_7_21 : rx_F RX7 21 7 1 := ⟨_, _, _, rfl, by decide, iX7, rfl, Or.inl (rx_c2 27 rfl rfl)⟩
set_option maxRecDepth 20000 in
theorem fl_5_9 : rx_F RX5 9 5 0 := ⟨_, _, _, rfl, by decide, iX5, rfl, Or.inl (rx_c2 45 rfl rfl)⟩
set_option maxRecDepth 20000 in
theorem fl_6_32 : rx_F RX6 32 6 0 := ⟨_, _, _, rfl, by decide, iX6, rfl, Or.inl (rx_c2 49 rfl rfl)⟩
set_option maxRecDepth 20000 in
theorem fl_6_36 : rx_F RX6 36 6 1 := ⟨_, _, _, rfl, by decide, iX6, rfl, Or.inl (rx_c2 50 rfl rfl)⟩
set_option maxRecDepth 20000 in
theorem fl_6_12 : rx_F RX6 12 6 2 := ⟨_, _, _, rfl, by decide, iX6, rfl, Or.inl (rx_c2 51 rfl rfl)⟩
set_option maxRecDepth 20000 in
theorem fl_10_216 : rx_F RX10 216 6 2 := ⟨_, _, _, rfl, by decide, iX6, rfl, Or.inr ⟨"SpouseTalk", rx_d2 52 rfl⟩⟩
set_option maxRecDepth 20000 in
theorem fl_6_18 : rx_F RX6 18 6 3 := ⟨_, _, _, rfl, by decide, iX6, rfl, Or.inl (rx_c2 53 rfl rfl)⟩
set_option maxRecDepth 20000 in
theorem fl_6_22 : rx_F RX6 22 6 4 := ⟨_, _, _, rfl, by decide, iX6, rfl, Or.inl (rx_c2 54 rfl rfl)⟩
set_option maxRecDepth 20000 in
theorem fl_6_26 : rx_F RX6 26 6 5 := ⟨_, _, _, rfl, by decide, iX6, rfl, Or.inl (rx_c2 55 rfl rfl)⟩
set_option maxRecDepth 20000 in
theorem fl_6_29 : rx_F RX6 29 6 6 := ⟨_, _, _, rfl, by decide, iX6, rfl, Or.inl (rx_c2 56 rfl rfl)⟩
set_option maxRecDepth 20000 in
theorem fl_0_18 : rx_F RX0 18 0 0 := ⟨_, _, _, rfl, by decide, iX0, rfl, Or.inl (rx_c2 78 rfl rfl)⟩
set_option maxRecDepth 20000 in
theorem fl_0_22 : rx_F RX0 22 0 1 := ⟨_, _, _, rfl, by decide, iX0, rfl, Or.inl (rx_c2 79 rfl rfl)⟩
set_option maxRecDepth 20000 in
theorem fl_0_9 : rx_F RX0 9 0 2 := ⟨_, _, _, rfl, by decide, iX0, rfl, Or.inl (rx_c2 80 rfl rfl)⟩
set_option maxRecDepth 20000 in
theorem fl_0_15 : rx_F RX0 15 0 3 := ⟨_, _, _, rfl, by decide, iX0, rfl, Or.inl (rx_c2 81 rfl rfl)⟩
set_option maxRecDepth 20000 in
theorem fl_1_18 : rx_F RX1 18 1 0 := ⟨_, _, _, rfl, by decide, iX1, rfl, Or.inl (rx_c2 97 rfl rfl)⟩
set_option maxRecDepth 20000 in
theorem fl_1_22 : rx_F RX1 22 1 1 := ⟨_, _, _, rfl, by decide, iX1, rfl, Or.inl (rx_c2 98 rfl rfl)⟩
set_option maxRecDepth 20000 in
theorem fl_1_9 : rx_F RX1 9 1 2 := ⟨_, _, _, rfl, by decide, iX1, rfl, Or.inl (rx_c2 99 rfl rfl)⟩
set_option maxRecDepth 20000 in
theorem fl_1_15 : rx_F RX1 15 1 3 := ⟨_, _, _, rfl, by decide, iX1, rfl, Or.inl (rx_c2 100 rfl rfl)⟩
set_option maxRecDepth 20000 in
theorem fl_1_26 : rx_F RX1 26 1 4 := ⟨_, _, _, rfl, by decide, iX1, rfl, Or.inl (rx_c2 101 rfl rfl)⟩
set_option maxRecDepth 20000 in
theorem fl_10_154 : rx_F RX10 154 1 4 := ⟨_, _, _, rfl, by decide, iX1, rfl, Or.inr ⟨"SpouseTalk", rx_d2 102 rfl⟩⟩
set_option maxRecDepth 20000 in
theorem fl_10_9 : rx_F RX10 9 10 0 := ⟨_, _, _, rfl, by decide, iX10, rfl, Or.inl (rx_c2 137 rfl rfl)⟩
set_option maxRecDepth 20000 in
theorem fl_10_81 : rx_F RX10 81 10 1 := ⟨_, _, _, rfl, by decide, iX10, rfl, Or.inl (rx_c2 138 rfl rfl)⟩
set_option maxRecDepth 20000 in
theorem fl_10_13 : rx_F RX10 13 10 2 := ⟨_, _, _, rfl, by decide, iX10, rfl, Or.inl (rx_c2 139 rfl rfl)⟩
set_option maxRecDepth 20000 in
theorem fl_10_20 : rx_F RX10 20 10 3 := ⟨_, _, _, rfl, by decide, iX10, rfl, Or.inl (rx_c2 140 rfl rfl)⟩
set_option maxRecDepth 20000 in
theorem fl_10_27 : rx_F RX10 27 10 4 := ⟨_, _, _, rfl, by decide, iX10, rfl, Or.inl (rx_c2 141 rfl rfl)⟩
set_option maxRecDepth 20000 in
theorem fl_10_31 : rx_F RX10 31 10 5 := ⟨_, _, _, rfl, by decide, iX10, rfl, Or.inl (rx_c2 142 rfl rfl)⟩
set_option maxRecDepth 20000 in
theorem fl_10_38 : rx_F RX10 38 10 6 := ⟨_, _, _, rfl, by decide, iX10, rfl, Or.inl (rx_c2 143 rfl rfl)⟩
set_option maxRecDepth 20000 in
theorem fl_10_47 : rx_F RX10 47 10 7 := ⟨_, _, _, rfl, by decide, iX10, rfl, Or.inl (rx_c2 144 rfl rfl)⟩
set_option maxRecDepth 20000 in
theorem fl_10_56 : rx_F RX10 56 10 8 := ⟨_, _, _, rfl, by decide, iX10, rfl, Or.inl (rx_c2 145 rfl rfl)⟩
set_option maxRecDepth 20000 in
theorem fl_10_63 : rx_F RX10 63 10 9 := ⟨_, _, _, rfl, by decide, iX10, rfl, Or.inl (rx_c2 146 rfl rfl)⟩
set_option maxRecDepth 20000 in
theorem fl_10_70 : rx_F RX10 70 10 10 := ⟨_, _, _, rfl, by decide, iX10, rfl, Or.inl (rx_c2 147 rfl rfl)⟩
set_option maxRecDepth 20000 in
theorem fl_11_13 : rx_F RX11 13 11 1 := ⟨_, _, _, rfl, by decide, iX11, rfl, Or.inl (rx_c5 142 rfl rfl)⟩
set_option maxRecDepth 20000 in
theorem fl_11_166 : rx_F RX11 166 11 2 := ⟨_, _, _, rfl, by decide, iX11, rfl, Or.inl (rx_c5 143 rfl rfl)⟩
set_option maxRecDepth 20000 in
theorem fl_11_17 : rx_F RX11 17 11 3 := ⟨_, _, _, rfl, by decide, iX11, rfl, Or.inl (rx_c5 144 rfl rfl)⟩
set_option maxRecDepth 20000 in
theorem fl_11_172 : rx_F RX11 172 11 4 := ⟨_, _, _, rfl, by decide, iX11, rfl, Or.inl (rx_c5 145 rfl rfl)⟩
set_option maxRecDepth 20000 in
theorem fl_11_20 : rx_F RX11 20 11 5 := ⟨_, _, _, rfl, by decide, iX11, rfl, Or.inl (rx_c5 146 rfl rfl)⟩
set_option maxRecDepth 20000 in
theorem fl_11_24 : rx_F RX11 24 11 6 := ⟨_, _, _, rfl, by decide, iX11, rfl, Or.inl (rx_c5 147 rfl rfl)⟩
set_option maxRecDepth 20000 in
theorem fl_11_27 : rx_F RX11 27 11 7 := ⟨_, _, _, rfl, by decide, iX11, rfl, Or.inl (rx_c5 148 rfl rfl)⟩
set_option maxRecDepth 20000 in
theorem fl_11_30 : rx_F RX11 30 11 8 := ⟨_, _, _, rfl, by decide, iX11, rfl, Or.inl (rx_c5 149 rfl rfl)⟩
set_option maxRecDepth 20000 in
theorem fl_11_34 : rx_F RX11 34 11 9 := ⟨_, _, _, rfl, by decide, iX11, rfl, Or.inl (rx_c5 150 rfl rfl)⟩
set_option maxRecDepth 20000 in
theorem fl_11_181 : rx_F RX11 181 11 10 := ⟨_, _, _, rfl, by decide, iX11, rfl, Or.inl (rx_c5 151 rfl rfl)⟩
set_option maxRecDepth 20000 in
theorem fl_11_206 : rx_F RX11 206 11 11 := ⟨_, _, _, rfl, by decide, iX11, rfl, Or.inl (rx_c5 152 rfl rfl)⟩
set_option maxRecDepth 20000 in
theorem fl_11_230 : rx_F RX11 230 11 12 := ⟨_, _, _, rfl, by decide, iX11, rfl, Or.inl (rx_c5 153 rfl rfl)⟩
set_option maxRecDepth 20000 in
theorem fl_11_203 : rx_F RX11 203 11 13 := ⟨_, _, _, rfl, by decide, iX11, rfl, Or.inl (rx_c5 154 rfl rfl)⟩
set_option maxRecDepth 20000 in
theorem fl_11_209 : rx_F RX11 209 11 14 := ⟨_, _, _, rfl, by decide, iX11, rfl, Or.inl (rx_c5 155 rfl rfl)⟩
set_option maxRecDepth 20000 in
theorem fl_11_212 : rx_F RX11 212 11 15 := ⟨_, _, _, rfl, by decide, iX11, rfl, Or.inl (rx_c5 156 rfl rfl)⟩
set_option maxRecDepth 20000 in
theorem fl_11_215 : rx_F RX11 215 11 16 := ⟨_, _, _, rfl, by decide, iX11, rfl, Or.inl (rx_c5 157 rfl rfl)⟩
set_option maxRecDepth 20000 in
theorem fl_11_37 : rx_F RX11 37 11 17 := ⟨_, _, _, rfl, by decide, iX11, rfl, Or.inl (rx_c5 158 rfl rfl)⟩
set_option maxRecDepth 20000 in
theorem fl_11_233 : rx_F RX11 233 11 18 := ⟨_, _, _, rfl, by decide, iX11, rfl, Or.inl (rx_c5 159 rfl rfl)⟩
set_option maxRecDepth 20000 in
theorem fl_11_236 : rx_F RX11 236 11 19 := ⟨_, _, _, rfl, by decide, iX11, rfl, Or.inl (rx_c5 160 rfl rfl)⟩
set_option maxRecDepth 20000 in
theorem fl_11_239 : rx_F RX11 239 11 20 := ⟨_, _, _, rfl, by decide, iX11, rfl, Or.inl (rx_c5 161 rfl rfl)⟩
set_option maxRecDepth 20000 in
theorem fl_11_40 : rx_F RX11 40 11 21 := ⟨_, _, _, rfl, by decide, iX11, rfl, Or.inl (rx_c5 162 rfl rfl)⟩
set_option maxRecDepth 20000 in
theorem fl_11_43 : rx_F RX11 43 11 22 := ⟨_, _, _, rfl, by decide, iX11, rfl, Or.inl (rx_c5 163 rfl rfl)⟩
set_option maxRecDepth 20000 in
theorem fl_11_46 : rx_F RX11 46 11 23 := ⟨_, _, _, rfl, by decide, iX11, rfl, Or.inl (rx_c5 164 rfl rfl)⟩
set_option maxRecDepth 20000 in
theorem fl_11_49 : rx_F RX11 49 11 24 := ⟨_, _, _, rfl, by decide, iX11, rfl, Or.inl (rx_c5 165 rfl rfl)⟩
set_option maxRecDepth 20000 in
theorem fl_11_52 : rx_F RX11 52 11 25 := ⟨_, _, _, rfl, by decide, iX11, rfl, Or.inl (rx_c5 166 rfl rfl)⟩
set_option maxRecDepth 20000 in
theorem fl_11_55 : rx_F RX11 55 11 26 := ⟨_, _, _, rfl, by decide, iX11, rfl, Or.inl (rx_c5 167 rfl rfl)⟩
set_option maxRecDepth 20000 in
theorem fl_11_58 : rx_F RX11 58 11 27 := ⟨_, _, _, rfl, by decide, iX11, rfl, Or.inl (rx_c5 168 rfl rfl)⟩
set_option maxRecDepth 20000 in
theorem fl_11_61 : rx_F RX11 61 11 28 := ⟨_, _, _, rfl, by decide, iX11, rfl, Or.inl (rx_c5 169 rfl rfl)⟩
set_option maxRecDepth 20000 in
theorem fl_11_64 : rx_F RX11 64 11 29 := ⟨_, _, _, rfl, by decide, iX11, rfl, Or.inl (rx_c5 170 rfl rfl)⟩
set_option maxRecDepth 20000 in
theorem fl_11_67 : rx_F RX11 67 11 30 := ⟨_, _, _, rfl, by decide, iX11, rfl, Or.inl (rx_c5 171 rfl rfl)⟩
set_option maxRecDepth 20000 in
theorem fl_11_70 : rx_F RX11 70 11 31 := ⟨_, _, _, rfl, by decide, iX11, rfl, Or.inl (rx_c5 172 rfl rfl)⟩
set_option maxRecDepth 20000 in
theorem fl_11_73 : rx_F RX11 73 11 32 := ⟨_, _, _, rfl, by decide, iX11, rfl, Or.inl (rx_c5 173 rfl rfl)⟩
set_option maxRecDepth 20000 in
theorem fl_11_76 : rx_F RX11 76 11 33 := ⟨_, _, _, rfl, by decide, iX11, rfl, Or.inl (rx_c5 174 rfl rfl)⟩
set_option maxRecDepth 20000 in
theorem fl_11_79 : rx_F RX11 79 11 34 := ⟨_, _, _, rfl, by decide, iX11, rfl, Or.inl (rx_c5 175 rfl rfl)⟩
set_option maxRecDepth 20000 in
theorem fl_11_242 : rx_F RX11 242 11 35 := ⟨_, _, _, rfl, by decide, iX11, rfl, Or.inl (rx_c5 176 rfl rfl)⟩
set_option maxRecDepth 20000 in
theorem fl_11_82 : rx_F RX11 82 11 36 := ⟨_, _, _, rfl, by decide, iX11, rfl, Or.inl (rx_c5 177 rfl rfl)⟩
set_option maxRecDepth 20000 in
theorem fl_11_86 : rx_F RX11 86 11 37 := ⟨_, _, _, rfl, by decide, iX11, rfl, Or.inl (rx_c5 178 rfl rfl)⟩
set_option maxRecDepth 20000 in
theorem fl_11_89 : rx_F RX11 89 11 38 := ⟨_, _, _, rfl, by decide, iX11, rfl, Or.inl (rx_c5 179 rfl rfl)⟩
set_option maxRecDepth 20000 in
theorem fl_11_92 : rx_F RX11 92 11 39 := ⟨_, _, _, rfl, by decide, iX11, rfl, Or.inl (rx_c5 180 rfl rfl)⟩
set_option maxRecDepth 20000 in
theorem fl_11_95 : rx_F RX11 95 11 40 := ⟨_, _, _, rfl, by decide, iX11, rfl, Or.inl (rx_c5 181 rfl rfl)⟩
set_option maxRecDepth 20000 in
theorem fl_11_245 : rx_F RX11 245 11 41 := ⟨_, _, _, rfl, by decide, iX11, rfl, Or.inl (rx_c5 182 rfl rfl)⟩
set_option maxRecDepth 20000 in
theorem fl_11_98 : rx_F RX11 98 11 42 := ⟨_, _, _, rfl, by decide, iX11, rfl, Or.inl (rx_c5 183 rfl rfl)⟩
set_option maxRecDepth 20000 in
theorem fl_11_101 : rx_F RX11 101 11 43 := ⟨_, _, _, rfl, by decide, iX11, rfl, Or.inl (rx_c5 184 rfl rfl)⟩
set_option maxRecDepth 20000 in
theorem fl_11_104 : rx_F RX11 104 11 44 := ⟨_, _, _, rfl, by decide, iX11, rfl, Or.inl (rx_c5 185 rfl rfl)⟩
set_option maxRecDepth 20000 in
theorem fl_11_299 : rx_F RX11 299 11 45 := ⟨_, _, _, rfl, by decide, iX11, rfl, Or.inl (rx_c5 186 rfl rfl)⟩
set_option maxRecDepth 20000 in
theorem fl_11_107 : rx_F RX11 107 11 46 := ⟨_, _, _, rfl, by decide, iX11, rfl, Or.inl (rx_c5 187 rfl rfl)⟩
set_option maxRecDepth 20000 in
theorem fl_11_110 : rx_F RX11 110 11 47 := ⟨_, _, _, rfl, by decide, iX11, rfl, Or.inl (rx_c5 188 rfl rfl)⟩
set_option maxRecDepth 20000 in
theorem fl_11_312 : rx_F RX11 312 11 48 := ⟨_, _, _, rfl, by decide, iX11, rfl, Or.inl (rx_c5 189 rfl rfl)⟩
set_option maxRecDepth 20000 in
theorem fl_11_113 : rx_F RX11 113 11 49 := ⟨_, _, _, rfl, by decide, iX11, rfl, Or.inl (rx_c5 190 rfl rfl)⟩
set_option maxRecDepth 20000 in
theorem fl_11_116 : rx_F RX11 116 11 50 := ⟨_, _, _, rfl, by decide, iX11, rfl, Or.inl (rx_c5 191 rfl rfl)⟩
set_option maxRecDepth 20000 in
theorem fl_11_320 : rx_F RX11 320 11 51 := ⟨_, _, _, rfl, by decide, iX11, rfl, Or.inl (rx_c5 192 rfl rfl)⟩
set_option maxRecDepth 20000 in
theorem fl_11_251 : rx_F RX11 251 11 52 := ⟨_, _, _, rfl, by decide, iX11, rfl, Or.inl (rx_c5 193 rfl rfl)⟩
set_option maxRecDepth 20000 in
theorem fl_11_119 : rx_F RX11 119 11 53 := ⟨_, _, _, rfl, by decide, iX11, rfl, Or.inl (rx_c5 194 rfl rfl)⟩
set_option maxRecDepth 20000 in
theorem fl_11_122 : rx_F RX11 122 11 54 := ⟨_, _, _, rfl, by decide, iX11, rfl, Or.inl (rx_c5 195 rfl rfl)⟩
set_option maxRecDepth 20000 in
theorem fl_11_125 : rx_F RX11 125 11 55 := ⟨_, _, _, rfl, by decide, iX11, rfl, Or.inl (rx_c5 196 rfl rfl)⟩
set_option maxRecDepth 20000 in
theorem fl_11_439 : rx_F RX11 439 11 56 := ⟨_, _, _, rfl, by decide, iX11, rfl, Or.inl (rx_c5 197 rfl rfl)⟩
set_option maxRecDepth 20000 in
theorem fl_11_433 : rx_F RX11 433 11 57 := ⟨_, _, _, rfl, by decide, iX11, rfl, Or.inl (rx_c5 198 rfl rfl)⟩
set_option maxRecDepth 20000 in
theorem fl_11_128 : rx_F RX11 128 11 58 := ⟨_, _, _, rfl, by decide, iX11, rfl, Or.inl (rx_c5 199 rfl rfl)⟩
set_option maxRecDepth 20000 in
theorem fl_11_427 : rx_F RX11 427 11 59 := ⟨_, _, _, rfl, by decide, iX11, rfl, Or.inl (rx_c5 200 rfl rfl)⟩
set_option maxRecDepth 20000 in
theorem fl_11_131 : rx_F RX11 131 11 60 := ⟨_, _, _, rfl, by decide, iX11, rfl, Or.inl (rx_c5 201 rfl rfl)⟩
set_option maxRecDepth 20000 in
theorem fl_11_134 : rx_F RX11 134 11 61 := ⟨_, _, _, rfl, by decide, iX11, rfl, Or.inl (rx_c5 202 rfl rfl)⟩
set_option maxRecDepth 20000 in
theorem fl_11_254 : rx_F RX11 254 11 62 := ⟨_, _, _, rfl, by decide, iX11, rfl, Or.inl (rx_c5 203 rfl rfl)⟩
set_option maxRecDepth 20000 in
theorem fl_11_137 : rx_F RX11 137 11 63 := ⟨_, _, _, rfl, by decide, iX11, rfl, Or.inl (rx_c5 204 rfl rfl)⟩
set_option maxRecDepth 20000 in
theorem fl_11_140 : rx_F RX11 140 11 64 := ⟨_, _, _, rfl, by decide, iX11, rfl, Or.inl (rx_c5 205 rfl rfl)⟩
set_option maxRecDepth 20000 in
theorem fl_11_143 : rx_F RX11 143 11 65 := ⟨_, _, _, rfl, by decide, iX11, rfl, Or.inl (rx_c5 206 rfl rfl)⟩
set_option maxRecDepth 20000 in
theorem fl_11_146 : rx_F RX11 146 11 66 := ⟨_, _, _, rfl, by decide, iX11, rfl, Or.inl (rx_c5 207 rfl rfl)⟩
set_option maxRecDepth 20000 in
theorem fl_11_149 : rx_F RX11 149 11 67 := ⟨_, _, _, rfl, by decide, iX11, rfl, Or.inl (rx_c5 208 rfl rfl)⟩
set_option maxRecDepth 20000 in
theorem pp_1_4 : rx_P 1 4 .int := ⟨_, _, _, tyX1, rfl, tyX1_ok, nmX1, rfl, rfl⟩
set_option maxRecDepth 20000 in
theorem pp_2_4 : rx_P 2 4 .int := ⟨_, _, _, tyX2, rfl, tyX2_ok, nmX2, rfl, rfl⟩
set_option maxRecDepth 20000 in
theorem pp_3_3 : rx_P 3 3 .int := ⟨_, _, _, tyX3, rfl, tyX3_ok, nmX3, rfl, rfl⟩
set_option maxRecDepth 20000 in
theorem pp_3_4 : rx_P 3 4 .int := ⟨_, _, _, tyX3, rfl, tyX3_ok, nmX3, rfl, rfl⟩
set_option maxRecDepth 20000 in
theorem pp_4_4 : rx_P 4 4 .int := ⟨_, _, _, tyX4, rfl, tyX4_ok, nmX4, rfl, rfl⟩
set_option maxRecDepth 20000 in
theorem pp_4_5 : rx_P 4 5 .int := ⟨_, _, _, tyX4, rfl, tyX4_ok, nmX4, rfl, rfl⟩
set_option maxRecDepth 20000 in
theorem pp_4_6 : rx_P 4 6 .int := ⟨_, _, _, tyX4, rfl, tyX4_ok, nmX4, rfl, rfl⟩
set_option maxRecDepth 20000 in
theorem pp_4_7 : rx_P 4 7 .int := ⟨_, _, _, tyX4, rfl, tyX4_ok, nmX4, rfl, rfl⟩
set_option maxRecDepth 20000 in
theorem pp_4_8 : rx_P 4 8 .int := ⟨_, _, _, tyX4, rfl, tyX4_ok, nmX4, rfl, rfl⟩
set_option maxRecDepth 20000 in
theorem pp_4_9 : rx_P 4 9 .int := ⟨_, _, _, tyX4, rfl, tyX4_ok, nmX4, rfl, rfl⟩
set_option maxRecDepth 20000 in
theorem pp_8_6 : rx_P 8 6 .int := ⟨_, _, _, tyX8, rfl, tyX8_ok, nmX8, rfl, rfl⟩
set_option maxRecDepth 20000 in
theorem pp_8_7 : rx_P 8 7 .int := ⟨_, _, _, tyX8, rfl, tyX8_ok, nmX8, rfl, rfl⟩
set_option maxRecDepth 20000 in
theorem pp_8_8 : rx_P 8 8 .int := ⟨_, _, _, tyX8, rfl, tyX8_ok, nmX8, rfl, rfl⟩
set_option maxRecDepth 20000 in
theorem pp_8_9 : rx_P 8 9 .int := ⟨_, _, _, tyX8, rfl, tyX8_ok, nmX8, rfl, rfl⟩
set_option maxRecDepth 20000 in
theorem pp_8_10 : rx_P 8 10 .int := ⟨_, _, _, tyX8, rfl, tyX8_ok, nmX8, rfl, rfl⟩
set_option maxRecDepth 20000 in
theorem pp_9_4 : rx_P 9 4 .int := ⟨_, _, _, tyX9, rfl, tyX9_ok, nmX9, rfl, rfl⟩
set_option maxRecDepth 20000 in
theorem pp_10_1 : rx_P 10 1 .int := ⟨_, _, _, tyX10, rfl, tyX10_ok, nmX10, rfl, rfl⟩
set_option maxRecDepth 20000 in
theorem pp_10_2 : rx_P 10 2 .int := ⟨_, _, _, tyX10, rfl, tyX10_ok, nmX10, rfl, rfl⟩
set_option maxRecDepth 20000 in
theorem pp_11_0 : rx_P 11 0 .int := ⟨_, _, _, tyX11, rfl, tyX11_ok, nmX11, rfl, rfl⟩
set_option maxRecDepth 20000 in
theorem pp_11_2 : rx_P 11 2 .int := ⟨_, _, _, tyX11, rfl, tyX11_ok, nmX11, rfl, rfl⟩
set_option maxRecDepth 20000 in
theorem pp_11_4 : rx_P 11 4 .int := ⟨_, _, _, tyX11, rfl, tyX11_ok, nmX11, rfl, rfl⟩
set_option maxRecDepth 20000 in
theorem pp_11_10 : rx_P 11 10 .int := ⟨_, _, _, tyX11, rfl, tyX11_ok, nmX11, rfl, rfl⟩
set_option maxRecDepth 20000 in
theorem pp_11_11 : rx_P 11 11 .int := ⟨_, _, _, tyX11, rfl, tyX11_ok, nmX11, rfl, rfl⟩
set_option maxRecDepth 20000 in
theorem pp_11_12 : rx_P 11 12 .int := ⟨_, _, _, tyX11, rfl, tyX11_ok, nmX11, rfl, rfl⟩
set_option maxRecDepth 20000 in
theorem pp_11_13 : rx_P 11 13 .int := ⟨_, _, _, tyX11, rfl, tyX11_ok, nmX11, rfl, rfl⟩
set_option maxRecDepth 20000 in
theorem pp_11_14 : rx_P 11 14 .int := ⟨_, _, _, tyX11, rfl, tyX11_ok, nmX11, rfl, rfl⟩
set_option maxRecDepth 20000 in
theorem pp_11_15 : rx_P 11 15 .int := ⟨_, _, _, tyX11, rfl, tyX11_ok, nmX11, rfl, rfl⟩
set_option maxRecDepth 20000 in
theorem pp_11_16 : rx_P 11 16 .int := ⟨_, _, _, tyX11, rfl, tyX11_ok, nmX11, rfl, rfl⟩
set_option maxRecDepth 20000 in
theorem pp_11_17 : rx_P 11 17 .int := ⟨_, _, _, tyX11, rfl, tyX11_ok, nmX11, rfl, rfl⟩
set_option maxRecDepth 20000 in
theorem pp_11_18 : rx_P 11 18 .int := ⟨_, _, _, tyX11, rfl, tyX11_ok, nmX11, rfl, rfl⟩
set_option maxRecDepth 20000 in
theorem pp_11_19 : rx_P 11 19 .int := ⟨_, _, _, tyX11, rfl, tyX11_ok, nmX11, rfl, rfl⟩
set_option maxRecDepth 20000 in
theorem pp_11_20 : rx_P 11 20 .int := ⟨_, _, _, tyX11, rfl, tyX11_ok, nmX11, rfl, rfl⟩
set_option maxRecDepth 20000 in
theorem pp_11_35 : rx_P 11 35 .int := ⟨_, _, _, tyX11, rfl, tyX11_ok, nmX11, rfl, rfl⟩
set_option maxRecDepth 20000 in
theorem pp_11_41 : rx_P 11 41 .int := ⟨_, _, _, tyX11, rfl, tyX11_ok, nmX11, rfl, rfl⟩
set_option maxRecDepth 20000 in
theorem pp_11_45 : rx_P 11 45 .int := ⟨_, _, _, tyX11, rfl, tyX11_ok, nmX11, rfl, rfl⟩
set_option maxRecDepth 20000 in
theorem pp_11_48 : rx_P 11 48 .boolean := ⟨_, _, _, tyX11, rfl, tyX11_ok, nmX11, rfl, rfl⟩
set_option maxRecDepth 20000 in
theorem pp_11_51 : rx_P 11 51 .int := ⟨_, _, _, tyX11, rfl, tyX11_ok, nmX11, rfl, rfl⟩
set_option maxRecDepth 20000 in
theorem pp_11_52 : rx_P 11 52 .int := ⟨_, _, _, tyX11, rfl, tyX11_ok, nmX11, rfl, rfl⟩
set_option maxRecDepth 20000 in
theorem pp_11_56 : rx_P 11 56 .int := ⟨_, _, _, tyX11, rfl, tyX11_ok, nmX11, rfl, rfl⟩
set_option maxRecDepth 20000 in
theorem pp_11_57 : rx_P 11 57 .int := ⟨_, _, _, tyX11, rfl, tyX11_ok, nmX11, rfl, rfl⟩
set_option maxRecDepth 20000 in
theorem pp_11_59 : rx_P 11 59 .int := ⟨_, _, _, tyX11, rfl, tyX11_ok, nmX11, rfl, rfl⟩
set_option maxRecDepth 20000 in
theorem pp_11_62 : rx_P 11 62 .int := ⟨_, _, _, tyX11, rfl, tyX11_ok, nmX11, rfl, rfl⟩
set_option maxRecDepth 20000 in
theorem mm_X0_init : rx_m mX0_init 2 := ⟨by decide +kernel, rx_c2 76 rfl rfl, rx_c1 14 rfl rfl, by decide +kernel, by decide⟩
set_option maxRecDepth 20000 in
theorem mm_X0_behind : rx_m mX0_behind 2 := ⟨by decide +kernel, rx_c5 32 rfl rfl, rx_c1 14 rfl rfl, by decide +kernel, by decide⟩
set_option maxRecDepth 20000 in
theorem mv_X0_behind : Cond.instanceMethod yX0_behind ∈ rx_T ∧ Cond.selects yX0_behind.cls yX0_behind yX0_behind ∈ rx_T := ⟨rx_c5 30 rfl rfl, rx_c5 31 rfl rfl⟩
set_option maxRecDepth 20000 in
theorem mm_X0_weeksToPart : rx_m mX0_weeksToPart 4 := ⟨by decide +kernel, rx_c5 46 rfl rfl, rx_c1 14 rfl rfl, by decide +kernel, by decide⟩
set_option maxRecDepth 20000 in
theorem mv_X0_weeksToPart : Cond.instanceMethod yX0_weeksToPart ∈ rx_T ∧ Cond.selects yX0_weeksToPart.cls yX0_weeksToPart yX0_weeksToPart ∈ rx_T := ⟨rx_c5 44 rfl rfl, rx_c5 45 rfl rfl⟩
set_option maxRecDepth 20000 in
theorem mm_X0_tryOaths : rx_m mX0_tryOaths 3 := ⟨by decide +kernel, rx_c5 54 rfl rfl, rx_c1 14 rfl rfl, by decide +kernel, by decide⟩
set_option maxRecDepth 20000 in
theorem mv_X0_tryOaths : Cond.instanceMethod yX0_tryOaths ∈ rx_T ∧ Cond.selects yX0_tryOaths.cls yX0_tryOaths yX0_tryOaths ∈ rx_T := ⟨rx_c5 52 rfl rfl, rx_c5 53 rfl rfl⟩
set_option maxRecDepth 20000 in
theorem mm_X0_restingOaths : rx_m mX0_restingOaths 1 := ⟨by decide +kernel, rx_c5 58 rfl rfl, rx_c1 14 rfl rfl, by decide +kernel, by decide⟩
set_option maxRecDepth 20000 in
theorem mv_X0_restingOaths : Cond.instanceMethod yX0_restingOaths ∈ rx_T ∧ Cond.selects yX0_restingOaths.cls yX0_restingOaths yX0_restingOaths ∈ rx_T := ⟨rx_c5 56 rfl rfl, rx_c5 57 rfl rfl⟩
set_option maxRecDepth 20000 in
theorem mm_X0_isResting : rx_m mX0_isResting 1 := ⟨by decide +kernel, rx_c5 62 rfl rfl, rx_c1 14 rfl rfl, by decide +kernel, by decide⟩
set_option maxRecDepth 20000 in
theorem mv_X0_isResting : Cond.instanceMethod yX0_isResting ∈ rx_T ∧ Cond.selects yX0_isResting.cls yX0_isResting yX0_isResting ∈ rx_T := ⟨rx_c5 61 rfl rfl, rx_p3 (n := 4) 12 rfl⟩
set_option maxRecDepth 20000 in
theorem mm_X1_init : rx_m mX1_init 2 := ⟨by decide +kernel, rx_c2 95 rfl rfl, rx_c1 15 rfl rfl, by decide +kernel, by decide⟩
set_option maxRecDepth 20000 in
theorem mm_X1_clear : rx_m mX1_clear 0 := ⟨by decide +kernel, rx_c3 174 rfl rfl, rx_c1 15 rfl rfl, by decide +kernel, by decide⟩
set_option maxRecDepth 20000 in
theorem mv_X1_clear : Cond.instanceMethod yX1_clear ∈ rx_T ∧ Cond.selects yX1_clear.cls yX1_clear yX1_clear ∈ rx_T := ⟨rx_c3 172 rfl rfl, rx_c3 173 rfl rfl⟩
set_option maxRecDepth 20000 in
theorem mm_X1_add : rx_m mX1_add 2 := ⟨by decide +kernel, rx_c5 75 rfl rfl, rx_c1 15 rfl rfl, by decide +kernel, by decide⟩
set_option maxRecDepth 20000 in
theorem mv_X1_add : Cond.instanceMethod yX1_add ∈ rx_T ∧ Cond.selects yX1_add.cls yX1_add yX1_add ∈ rx_T := ⟨rx_c5 73 rfl rfl, rx_c5 74 rfl rfl⟩
set_option maxRecDepth 20000 in
theorem mm_X1_isKnown : rx_m mX1_isKnown 1 := ⟨by decide +kernel, rx_c5 87 rfl rfl, rx_c1 15 rfl rfl, by decide +kernel, by decide⟩
set_option maxRecDepth 20000 in
theorem mv_X1_isKnown : Cond.instanceMethod yX1_isKnown ∈ rx_T ∧ Cond.selects yX1_isKnown.cls yX1_isKnown yX1_isKnown ∈ rx_T := ⟨rx_c5 85 rfl rfl, rx_c5 86 rfl rfl⟩
set_option maxRecDepth 20000 in
theorem mm_X1_candidates : rx_m mX1_candidates 2 := ⟨by decide +kernel, rx_c5 91 rfl rfl, rx_c1 15 rfl rfl, by decide +kernel, by decide⟩
set_option maxRecDepth 20000 in
theorem mv_X1_candidates : Cond.instanceMethod yX1_candidates ∈ rx_T ∧ Cond.selects yX1_candidates.cls yX1_candidates yX1_candidates ∈ rx_T := ⟨rx_c5 89 rfl rfl, rx_c5 90 rfl rfl⟩
set_option maxRecDepth 20000 in
theorem mm_X1_mayHave : rx_m mX1_mayHave 3 := ⟨by decide +kernel, rx_c5 95 rfl rfl, rx_c1 15 rfl rfl, by decide +kernel, by decide⟩
set_option maxRecDepth 20000 in
theorem mv_X1_mayHave : Cond.instanceMethod yX1_mayHave ∈ rx_T ∧ Cond.selects yX1_mayHave.cls yX1_mayHave yX1_mayHave ∈ rx_T := ⟨rx_c5 94 rfl rfl, rx_p3 (n := 5) 13 rfl⟩
set_option maxRecDepth 20000 in
theorem mm_X1_bestWord : rx_m mX1_bestWord 2 := ⟨by decide +kernel, rx_c5 105 rfl rfl, rx_c1 15 rfl rfl, by decide +kernel, by decide⟩
set_option maxRecDepth 20000 in
theorem mv_X1_bestWord : Cond.instanceMethod yX1_bestWord ∈ rx_T ∧ Cond.selects yX1_bestWord.cls yX1_bestWord yX1_bestWord ∈ rx_T := ⟨rx_c5 103 rfl rfl, rx_c5 104 rfl rfl⟩
set_option maxRecDepth 20000 in
theorem mm_X1_mostLeft : rx_m mX1_mostLeft 3 := ⟨by decide +kernel, rx_c5 111 rfl rfl, rx_c1 15 rfl rfl, by decide +kernel, by decide⟩
set_option maxRecDepth 20000 in
theorem mv_X1_mostLeft : Cond.instanceMethod yX1_mostLeft ∈ rx_T ∧ Cond.selects yX1_mostLeft.cls yX1_mostLeft yX1_mostLeft ∈ rx_T := ⟨rx_c5 110 rfl rfl, rx_p3 (n := 5) 14 rfl⟩
set_option maxRecDepth 20000 in
theorem mm_X1_leftBy : rx_m mX1_leftBy 4 := ⟨by decide +kernel, rx_c5 115 rfl rfl, rx_c1 15 rfl rfl, by decide +kernel, by decide⟩
set_option maxRecDepth 20000 in
theorem mv_X1_leftBy : Cond.instanceMethod yX1_leftBy ∈ rx_T ∧ Cond.selects yX1_leftBy.cls yX1_leftBy yX1_leftBy ∈ rx_T := ⟨rx_c5 114 rfl rfl, rx_p3 (n := 5) 15 rfl⟩
set_option maxRecDepth 20000 in
theorem mm_X2_init : rx_m mX2_init 0 := ⟨by decide +kernel, rx_c1 38 rfl rfl, rx_c1 3 rfl rfl, by decide +kernel, by decide⟩
set_option maxRecDepth 20000 in
theorem mm_X2_clear : rx_m mX2_clear 0 := ⟨by decide +kernel, rx_c2 121 rfl rfl, rx_c1 3 rfl rfl, by decide +kernel, by decide⟩
set_option maxRecDepth 20000 in
theorem mv_X2_clear : Cond.instanceMethod yX2_clear ∈ rx_T ∧ Cond.selects yX2_clear.cls yX2_clear yX2_clear ∈ rx_T := ⟨rx_c2 119 rfl rfl, rx_c2 120 rfl rfl⟩
set_option maxRecDepth 20000 in
theorem mm_X2_usual : rx_m mX2_usual 1 := ⟨by decide +kernel, rx_c2 128 rfl rfl, rx_c1 3 rfl rfl, by decide +kernel, by decide⟩
set_option maxRecDepth 20000 in
theorem ms_X2_usual : Cond.static yX2_usual ∈ rx_T := rx_c2 127 rfl rfl
set_option maxRecDepth 20000 in
theorem mm_X2_copy : rx_m mX2_copy 1 := ⟨by decide +kernel, rx_c3 158 rfl rfl, rx_c1 3 rfl rfl, by decide +kernel, by decide⟩
set_option maxRecDepth 20000 in
theorem mv_X2_copy : Cond.instanceMethod yX2_copy ∈ rx_T ∧ Cond.selects yX2_copy.cls yX2_copy yX2_copy ∈ rx_T := ⟨rx_c3 156 rfl rfl, rx_c3 157 rfl rfl⟩
set_option maxRecDepth 20000 in
theorem mm_X2_begin : rx_m mX2_begin 1 := ⟨by decide +kernel, rx_c2 125 rfl rfl, rx_c1 3 rfl rfl, by decide +kernel, by decide⟩
set_option maxRecDepth 20000 in
theorem mv_X2_begin : Cond.instanceMethod yX2_begin ∈ rx_T ∧ Cond.selects yX2_begin.cls yX2_begin yX2_begin ∈ rx_T := ⟨rx_c2 123 rfl rfl, rx_c2 124 rfl rfl⟩
set_option maxRecDepth 20000 in
theorem mm_X2_add : rx_m mX2_add 1 := ⟨by decide +kernel, rx_c2 132 rfl rfl, rx_c1 3 rfl rfl, by decide +kernel, by decide⟩
set_option maxRecDepth 20000 in
theorem mv_X2_add : Cond.instanceMethod yX2_add ∈ rx_T ∧ Cond.selects yX2_add.cls yX2_add yX2_add ∈ rx_T := ⟨rx_c2 130 rfl rfl, rx_c2 131 rfl rfl⟩
set_option maxRecDepth 20000 in
theorem mm_X2_jumpHere : rx_m mX2_jumpHere 1 := ⟨by decide +kernel, rx_c3 85 rfl rfl, rx_c1 3 rfl rfl, by decide +kernel, by decide⟩
set_option maxRecDepth 20000 in
theorem mv_X2_jumpHere : Cond.instanceMethod yX2_jumpHere ∈ rx_T ∧ Cond.selects yX2_jumpHere.cls yX2_jumpHere yX2_jumpHere ∈ rx_T := ⟨rx_c3 83 rfl rfl, rx_c3 84 rfl rfl⟩
set_option maxRecDepth 20000 in
theorem mm_X2_askIn : rx_m mX2_askIn 1 := ⟨by decide +kernel, rx_c3 191 rfl rfl, rx_c1 3 rfl rfl, by decide +kernel, by decide⟩
set_option maxRecDepth 20000 in
theorem mv_X2_askIn : Cond.instanceMethod yX2_askIn ∈ rx_T ∧ Cond.selects yX2_askIn.cls yX2_askIn yX2_askIn ∈ rx_T := ⟨rx_c3 189 rfl rfl, rx_c3 190 rfl rfl⟩
set_option maxRecDepth 20000 in
theorem mm_X2_let : rx_m mX2_let 2 := ⟨by decide +kernel, rx_c3 195 rfl rfl, rx_c1 3 rfl rfl, by decide +kernel, by decide⟩
set_option maxRecDepth 20000 in
theorem mv_X2_let : Cond.instanceMethod yX2_let ∈ rx_T ∧ Cond.selects yX2_let.cls yX2_let yX2_let ∈ rx_T := ⟨rx_c3 193 rfl rfl, rx_c3 194 rfl rfl⟩
set_option maxRecDepth 20000 in
theorem mm_X2_answer : rx_m mX2_answer 1 := ⟨by decide +kernel, rx_c3 199 rfl rfl, rx_c1 3 rfl rfl, by decide +kernel, by decide⟩
set_option maxRecDepth 20000 in
theorem mv_X2_answer : Cond.instanceMethod yX2_answer ∈ rx_T ∧ Cond.selects yX2_answer.cls yX2_answer yX2_answer ∈ rx_T := ⟨rx_c3 197 rfl rfl, rx_c3 198 rfl rfl⟩
set_option maxRecDepth 20000 in
theorem mm_X3_init : rx_m mX3_init 0 := ⟨by decide +kernel, rx_c1 238 rfl rfl, rx_c1 10 rfl rfl, by decide +kernel, by decide⟩
set_option maxRecDepth 20000 in
theorem mm_X3_remember : rx_m mX3_remember 1 := ⟨by decide +kernel, rx_c4 23 rfl rfl, rx_c1 10 rfl rfl, by decide +kernel, by decide⟩
set_option maxRecDepth 20000 in
theorem mv_X3_remember : Cond.instanceMethod yX3_remember ∈ rx_T ∧ Cond.selects yX3_remember.cls yX3_remember yX3_remember ∈ rx_T := ⟨rx_c4 21 rfl rfl, rx_c4 22 rfl rfl⟩
set_option maxRecDepth 20000 in
theorem mm_X3_takeBack : rx_m mX3_takeBack 1 := ⟨by decide +kernel, rx_c4 111 rfl rfl, rx_c1 10 rfl rfl, by decide +kernel, by decide⟩
set_option maxRecDepth 20000 in
theorem mv_X3_takeBack : Cond.instanceMethod yX3_takeBack ∈ rx_T ∧ Cond.selects yX3_takeBack.cls yX3_takeBack yX3_takeBack ∈ rx_T := ⟨rx_c4 109 rfl rfl, rx_c4 110 rfl rfl⟩
set_option maxRecDepth 20000 in
theorem mm_X3_forgetDone : rx_m mX3_forgetDone 0 := ⟨by decide +kernel, rx_c3 166 rfl rfl, rx_c1 10 rfl rfl, by decide +kernel, by decide⟩
set_option maxRecDepth 20000 in
theorem mv_X3_forgetDone : Cond.instanceMethod yX3_forgetDone ∈ rx_T ∧ Cond.selects yX3_forgetDone.cls yX3_forgetDone yX3_forgetDone ∈ rx_T := ⟨rx_c3 164 rfl rfl, rx_c3 165 rfl rfl⟩
set_option maxRecDepth 20000 in
theorem mm_X3_isSlot : rx_m mX3_isSlot 1 := ⟨by decide +kernel, rx_c4 122 rfl rfl, rx_c1 10 rfl rfl, by decide +kernel, by decide⟩
set_option maxRecDepth 20000 in
theorem ms_X3_isSlot : Cond.static yX3_isSlot ∈ rx_T := rx_c4 121 rfl rfl
set_option maxRecDepth 20000 in
theorem mm_X3_keep : rx_m mX3_keep 2 := ⟨by decide +kernel, rx_c4 119 rfl rfl, rx_c1 10 rfl rfl, by decide +kernel, by decide⟩
set_option maxRecDepth 20000 in
theorem mv_X3_keep : Cond.instanceMethod yX3_keep ∈ rx_T ∧ Cond.selects yX3_keep.cls yX3_keep yX3_keep ∈ rx_T := ⟨rx_c4 117 rfl rfl, rx_c4 118 rfl rfl⟩
set_option maxRecDepth 20000 in
theorem mm_X3_bringBack : rx_m mX3_bringBack 2 := ⟨by decide +kernel, rx_c4 130 rfl rfl, rx_c1 10 rfl rfl, by decide +kernel, by decide⟩
set_option maxRecDepth 20000 in
theorem mv_X3_bringBack : Cond.instanceMethod yX3_bringBack ∈ rx_T ∧ Cond.selects yX3_bringBack.cls yX3_bringBack yX3_bringBack ∈ rx_T := ⟨rx_c4 128 rfl rfl, rx_c4 129 rfl rfl⟩
set_option maxRecDepth 20000 in
theorem mm_X3_emptySlots : rx_m mX3_emptySlots 0 := ⟨by decide +kernel, rx_c3 170 rfl rfl, rx_c1 10 rfl rfl, by decide +kernel, by decide⟩
set_option maxRecDepth 20000 in
theorem mv_X3_emptySlots : Cond.instanceMethod yX3_emptySlots ∈ rx_T ∧ Cond.selects yX3_emptySlots.cls yX3_emptySlots yX3_emptySlots ∈ rx_T := ⟨rx_c3 168 rfl rfl, rx_c3 169 rfl rfl⟩
set_option maxRecDepth 20000 in
theorem mm_X3_heldCount : rx_m mX3_heldCount 0 := ⟨by decide +kernel, rx_c4 11 rfl rfl, rx_c1 10 rfl rfl, by decide +kernel, by decide⟩
set_option maxRecDepth 20000 in
theorem mv_X3_heldCount : Cond.instanceMethod yX3_heldCount ∈ rx_T ∧ Cond.selects yX3_heldCount.cls yX3_heldCount yX3_heldCount ∈ rx_T := ⟨rx_c4 9 rfl rfl, rx_c4 10 rfl rfl⟩
set_option maxRecDepth 20000 in
theorem mm_X4_init : rx_m mX4_init 0 := ⟨by decide +kernel, rx_c1 121 rfl rfl, rx_c1 4 rfl rfl, by decide +kernel, by decide⟩
set_option maxRecDepth 20000 in
theorem mm_X4_readTape : rx_m mX4_readTape 2 := ⟨by decide +kernel, rx_c2 190 rfl rfl, rx_c1 4 rfl rfl, by decide +kernel, by decide⟩
set_option maxRecDepth 20000 in
theorem mv_X4_readTape : Cond.instanceMethod yX4_readTape ∈ rx_T ∧ Cond.selects yX4_readTape.cls yX4_readTape yX4_readTape ∈ rx_T := ⟨rx_c2 188 rfl rfl, rx_c2 189 rfl rfl⟩
set_option maxRecDepth 20000 in
theorem mm_X4_refuse : rx_m mX4_refuse 1 := ⟨by decide +kernel, rx_c3 60 rfl rfl, rx_c1 4 rfl rfl, by decide +kernel, by decide⟩
set_option maxRecDepth 20000 in
theorem mv_X4_refuse : Cond.instanceMethod yX4_refuse ∈ rx_T ∧ Cond.selects yX4_refuse.cls yX4_refuse yX4_refuse ∈ rx_T := ⟨rx_c3 59 rfl rfl, rx_p1 (n := 10) 6 rfl⟩
set_option maxRecDepth 20000 in
theorem mm_X4_blame : rx_m mX4_blame 1 := ⟨by decide +kernel, rx_c3 105 rfl rfl, rx_c1 4 rfl rfl, by decide +kernel, by decide⟩
set_option maxRecDepth 20000 in
theorem mv_X4_blame : Cond.instanceMethod yX4_blame ∈ rx_T ∧ Cond.selects yX4_blame.cls yX4_blame yX4_blame ∈ rx_T := ⟨rx_c3 104 rfl rfl, rx_p1 (n := 10) 15 rfl⟩
set_option maxRecDepth 20000 in
theorem mm_X4_take : rx_m mX4_take 1 := ⟨by decide +kernel, rx_c3 55 rfl rfl, rx_c1 4 rfl rfl, by decide +kernel, by decide⟩
set_option maxRecDepth 20000 in
theorem mv_X4_take : Cond.instanceMethod yX4_take ∈ rx_T ∧ Cond.selects yX4_take.cls yX4_take yX4_take ∈ rx_T := ⟨rx_c3 54 rfl rfl, rx_p1 (n := 10) 5 rfl⟩
set_option maxRecDepth 20000 in
theorem mm_X4_takeNumber : rx_m mX4_takeNumber 1 := ⟨by decide +kernel, rx_c3 113 rfl rfl, rx_c1 4 rfl rfl, by decide +kernel, by decide⟩
set_option maxRecDepth 20000 in
theorem mv_X4_takeNumber : Cond.instanceMethod yX4_takeNumber ∈ rx_T ∧ Cond.selects yX4_takeNumber.cls yX4_takeNumber yX4_takeNumber ∈ rx_T := ⟨rx_c3 112 rfl rfl, rx_p2 (n := 10) 0 rfl⟩
set_option maxRecDepth 20000 in
theorem mm_X4_taken : rx_m mX4_taken 0 := ⟨by decide +kernel, rx_c3 76 rfl rfl, rx_c1 4 rfl rfl, by decide +kernel, by decide⟩
set_option maxRecDepth 20000 in
theorem mv_X4_taken : Cond.instanceMethod yX4_taken ∈ rx_T ∧ Cond.selects yX4_taken.cls yX4_taken yX4_taken ∈ rx_T := ⟨rx_c3 75 rfl rfl, rx_p1 (n := 10) 10 rfl⟩
set_option maxRecDepth 20000 in
theorem mm_X4_readFact : rx_m mX4_readFact 1 := ⟨by decide +kernel, rx_c3 89 rfl rfl, rx_c1 4 rfl rfl, by decide +kernel, by decide⟩
set_option maxRecDepth 20000 in
theorem mv_X4_readFact : Cond.instanceMethod yX4_readFact ∈ rx_T ∧ Cond.selects yX4_readFact.cls yX4_readFact yX4_readFact ∈ rx_T := ⟨rx_c3 88 rfl rfl, rx_p1 (n := 10) 11 rfl⟩
set_option maxRecDepth 20000 in
theorem mm_X4_readSpouse : rx_m mX4_readSpouse 0 := ⟨by decide +kernel, rx_c3 93 rfl rfl, rx_c1 4 rfl rfl, by decide +kernel, by decide⟩
set_option maxRecDepth 20000 in
theorem mv_X4_readSpouse : Cond.instanceMethod yX4_readSpouse ∈ rx_T ∧ Cond.selects yX4_readSpouse.cls yX4_readSpouse yX4_readSpouse ∈ rx_T := ⟨rx_c3 92 rfl rfl, rx_p1 (n := 10) 12 rfl⟩
set_option maxRecDepth 20000 in
theorem mm_X4_readThird : rx_m mX4_readThird 0 := ⟨by decide +kernel, rx_c3 138 rfl rfl, rx_c1 4 rfl rfl, by decide +kernel, by decide⟩
set_option maxRecDepth 20000 in
theorem mv_X4_readThird : Cond.instanceMethod yX4_readThird ∈ rx_T ∧ Cond.selects yX4_readThird.cls yX4_readThird yX4_readThird ∈ rx_T := ⟨rx_c3 137 rfl rfl, rx_p2 (n := 10) 3 rfl⟩
set_option maxRecDepth 20000 in
theorem mm_X4_takeNewName : rx_m mX4_takeNewName 1 := ⟨by decide +kernel, rx_c3 97 rfl rfl, rx_c1 4 rfl rfl, by decide +kernel, by decide⟩
set_option maxRecDepth 20000 in
theorem mv_X4_takeNewName : Cond.instanceMethod yX4_takeNewName ∈ rx_T ∧ Cond.selects yX4_takeNewName.cls yX4_takeNewName yX4_takeNewName ∈ rx_T := ⟨rx_c3 96 rfl rfl, rx_p1 (n := 10) 13 rfl⟩
set_option maxRecDepth 20000 in
theorem mm_X4_findName : rx_m mX4_findName 1 := ⟨by decide +kernel, rx_c3 101 rfl rfl, rx_c1 4 rfl rfl, by decide +kernel, by decide⟩
set_option maxRecDepth 20000 in
theorem mv_X4_findName : Cond.instanceMethod yX4_findName ∈ rx_T ∧ Cond.selects yX4_findName.cls yX4_findName yX4_findName ∈ rx_T := ⟨rx_c3 100 rfl rfl, rx_p1 (n := 10) 14 rfl⟩
set_option maxRecDepth 20000 in
theorem mm_X4_readCouple : rx_m mX4_readCouple 0 := ⟨by decide +kernel, rx_c3 121 rfl rfl, rx_c1 4 rfl rfl, by decide +kernel, by decide⟩
set_option maxRecDepth 20000 in
theorem mv_X4_readCouple : Cond.instanceMethod yX4_readCouple ∈ rx_T ∧ Cond.selects yX4_readCouple.cls yX4_readCouple yX4_readCouple ∈ rx_T := ⟨rx_c3 120 rfl rfl, rx_p2 (n := 10) 1 rfl⟩
set_option maxRecDepth 20000 in
theorem mm_X4_namedSpouse : rx_m mX4_namedSpouse 0 := ⟨by decide +kernel, rx_c3 125 rfl rfl, rx_c1 4 rfl rfl, by decide +kernel, by decide⟩
set_option maxRecDepth 20000 in
theorem mv_X4_namedSpouse : Cond.instanceMethod yX4_namedSpouse ∈ rx_T ∧ Cond.selects yX4_namedSpouse.cls yX4_namedSpouse yX4_namedSpouse ∈ rx_T := ⟨rx_c3 124 rfl rfl, rx_p2 (n := 10) 2 rfl⟩
set_option maxRecDepth 20000 in
theorem mm_X4_readFine : rx_m mX4_readFine 0 := ⟨by decide +kernel, rx_c3 146 rfl rfl, rx_c1 4 rfl rfl, by decide +kernel, by decide⟩
set_option maxRecDepth 20000 in
theorem mv_X4_readFine : Cond.instanceMethod yX4_readFine ∈ rx_T ∧ Cond.selects yX4_readFine.cls yX4_readFine yX4_readFine ∈ rx_T := ⟨rx_c3 145 rfl rfl, rx_p2 (n := 10) 4 rfl⟩
set_option maxRecDepth 20000 in
theorem mm_X4_readSeed : rx_m mX4_readSeed 0 := ⟨by decide +kernel, rx_c3 150 rfl rfl, rx_c1 4 rfl rfl, by decide +kernel, by decide⟩
set_option maxRecDepth 20000 in
theorem mv_X4_readSeed : Cond.instanceMethod yX4_readSeed ∈ rx_T ∧ Cond.selects yX4_readSeed.cls yX4_readSeed yX4_readSeed ∈ rx_T := ⟨rx_c3 149 rfl rfl, rx_p2 (n := 10) 5 rfl⟩
set_option maxRecDepth 20000 in
theorem mm_X4_readLaw : rx_m mX4_readLaw 1 := ⟨by decide +kernel, rx_c3 51 rfl rfl, rx_c1 4 rfl rfl, by decide +kernel, by decide⟩
set_option maxRecDepth 20000 in
theorem mv_X4_readLaw : Cond.instanceMethod yX4_readLaw ∈ rx_T ∧ Cond.selects yX4_readLaw.cls yX4_readLaw yX4_readLaw ∈ rx_T := ⟨rx_c3 50 rfl rfl, rx_p1 (n := 10) 4 rfl⟩
set_option maxRecDepth 20000 in
theorem mm_X4_readSum : rx_m mX4_readSum 1 := ⟨by decide +kernel, rx_c3 64 rfl rfl, rx_c1 4 rfl rfl, by decide +kernel, by decide⟩
set_option maxRecDepth 20000 in
theorem mv_X4_readSum : Cond.instanceMethod yX4_readSum ∈ rx_T ∧ Cond.selects yX4_readSum.cls yX4_readSum yX4_readSum ∈ rx_T := ⟨rx_c3 63 rfl rfl, rx_p1 (n := 10) 7 rfl⟩
set_option maxRecDepth 20000 in
theorem mm_X4_readProduct : rx_m mX4_readProduct 1 := ⟨by decide +kernel, rx_c3 68 rfl rfl, rx_c1 4 rfl rfl, by decide +kernel, by decide⟩
set_option maxRecDepth 20000 in
theorem mv_X4_readProduct : Cond.instanceMethod yX4_readProduct ∈ rx_T ∧ Cond.selects yX4_readProduct.cls yX4_readProduct yX4_readProduct ∈ rx_T := ⟨rx_c3 67 rfl rfl, rx_p1 (n := 10) 8 rfl⟩
set_option maxRecDepth 20000 in
theorem mm_X4_readUnit : rx_m mX4_readUnit 1 := ⟨by decide +kernel, rx_c3 72 rfl rfl, rx_c1 4 rfl rfl, by decide +kernel, by decide⟩
set_option maxRecDepth 20000 in
theorem mv_X4_readUnit : Cond.instanceMethod yX4_readUnit ∈ rx_T ∧ Cond.selects yX4_readUnit.cls yX4_readUnit yX4_readUnit ∈ rx_T := ⟨rx_c3 71 rfl rfl, rx_p1 (n := 10) 9 rfl⟩
set_option maxRecDepth 20000 in
theorem mm_X5_init : rx_m mX5_init 0 := ⟨by decide +kernel, rx_c2 43 rfl rfl, rx_c1 13 rfl rfl, by decide +kernel, by decide⟩
set_option maxRecDepth 20000 in
theorem mm_X5_isRow : rx_m mX5_isRow 1 := ⟨by decide +kernel, rx_c4 151 rfl rfl, rx_c1 13 rfl rfl, by decide +kernel, by decide⟩
set_option maxRecDepth 20000 in
theorem ms_X5_isRow : Cond.static yX5_isRow ∈ rx_T := rx_c4 150 rfl rfl
set_option maxRecDepth 20000 in
theorem mm_X5_size : rx_m mX5_size 1 := ⟨by decide +kernel, rx_c4 67 rfl rfl, rx_c1 13 rfl rfl, by decide +kernel, by decide⟩
set_option maxRecDepth 20000 in
theorem ms_X5_size : Cond.static yX5_size ∈ rx_T := rx_c4 66 rfl rfl
set_option maxRecDepth 20000 in
theorem mm_X5_wordAt : rx_m mX5_wordAt 3 := ⟨by decide +kernel, rx_c4 70 rfl rfl, rx_c1 13 rfl rfl, by decide +kernel, by decide⟩
set_option maxRecDepth 20000 in
theorem ms_X5_wordAt : Cond.static yX5_wordAt ∈ rx_T := rx_c4 69 rfl rfl
set_option maxRecDepth 20000 in
theorem mm_X5_with : rx_m mX5_with 2 := ⟨by decide +kernel, rx_c3 210 rfl rfl, rx_c1 13 rfl rfl, by decide +kernel, by decide⟩
set_option maxRecDepth 20000 in
theorem ms_X5_with : Cond.static yX5_with ∈ rx_T := rx_c3 209 rfl rfl
set_option maxRecDepth 20000 in
theorem mm_X5_changes : rx_m mX5_changes 2 := ⟨by decide +kernel, rx_c4 200 rfl rfl, rx_c1 13 rfl rfl, by decide +kernel, by decide⟩
set_option maxRecDepth 20000 in
theorem mv_X5_changes : Cond.instanceMethod yX5_changes ∈ rx_T ∧ Cond.selects yX5_changes.cls yX5_changes yX5_changes ∈ rx_T := ⟨rx_c4 198 rfl rfl, rx_c4 199 rfl rfl⟩
set_option maxRecDepth 20000 in
theorem mm_X5_goDown : rx_m mX5_goDown 4 := ⟨by decide +kernel, rx_c4 205 rfl rfl, rx_c1 13 rfl rfl, by decide +kernel, by decide⟩
set_option maxRecDepth 20000 in
theorem mv_X5_goDown : Cond.instanceMethod yX5_goDown ∈ rx_T ∧ Cond.selects yX5_goDown.cls yX5_goDown yX5_goDown ∈ rx_T := ⟨rx_c4 204 rfl rfl, rx_p3 (n := 1) 7 rfl⟩
set_option maxRecDepth 20000 in
theorem mm_X6_init : rx_m mX6_init 2 := ⟨by decide +kernel, rx_c2 37 rfl rfl, rx_c1 12 rfl rfl, by decide +kernel, by decide⟩
set_option maxRecDepth 20000 in
theorem mm_X6_lostByTwo : rx_m mX6_lostByTwo 4 := ⟨by decide +kernel, rx_c4 195 rfl rfl, rx_c1 12 rfl rfl, by decide +kernel, by decide⟩
set_option maxRecDepth 20000 in
theorem mv_X6_lostByTwo : Cond.instanceMethod yX6_lostByTwo ∈ rx_T ∧ Cond.selects yX6_lostByTwo.cls yX6_lostByTwo yX6_lostByTwo ∈ rx_T := ⟨rx_c4 193 rfl rfl, rx_c4 194 rfl rfl⟩
set_option maxRecDepth 20000 in
theorem mm_X6_bestPair : rx_m mX6_bestPair 2 := ⟨by decide +kernel, rx_c4 214 rfl rfl, rx_c1 12 rfl rfl, by decide +kernel, by decide⟩
set_option maxRecDepth 20000 in
theorem mv_X6_bestPair : Cond.instanceMethod yX6_bestPair ∈ rx_T ∧ Cond.selects yX6_bestPair.cls yX6_bestPair yX6_bestPair ∈ rx_T := ⟨rx_c4 212 rfl rfl, rx_c4 213 rfl rfl⟩
set_option maxRecDepth 20000 in
theorem mm_X6_bestThird : rx_m mX6_bestThird 2 := ⟨by decide +kernel, rx_c4 224 rfl rfl, rx_c1 12 rfl rfl, by decide +kernel, by decide⟩
set_option maxRecDepth 20000 in
theorem mv_X6_bestThird : Cond.instanceMethod yX6_bestThird ∈ rx_T ∧ Cond.selects yX6_bestThird.cls yX6_bestThird yX6_bestThird ∈ rx_T := ⟨rx_c4 222 rfl rfl, rx_c4 223 rfl rfl⟩
set_option maxRecDepth 20000 in
theorem mm_X6_rowPutAs : rx_m mX6_rowPutAs 3 := ⟨by decide +kernel, rx_c4 168 rfl rfl, rx_c1 12 rfl rfl, by decide +kernel, by decide⟩
set_option maxRecDepth 20000 in
theorem mv_X6_rowPutAs : Cond.instanceMethod yX6_rowPutAs ∈ rx_T ∧ Cond.selects yX6_rowPutAs.cls yX6_rowPutAs yX6_rowPutAs ∈ rx_T := ⟨rx_c4 166 rfl rfl, rx_c4 167 rfl rfl⟩
set_option maxRecDepth 20000 in
theorem mm_X6_markEnds : rx_m mX6_markEnds 2 := ⟨by decide +kernel, rx_c4 173 rfl rfl, rx_c1 12 rfl rfl, by decide +kernel, by decide⟩
set_option maxRecDepth 20000 in
theorem mv_X6_markEnds : Cond.instanceMethod yX6_markEnds ∈ rx_T ∧ Cond.selects yX6_markEnds.cls yX6_markEnds yX6_markEnds ∈ rx_T := ⟨rx_c4 172 rfl rfl, rx_p3 (n := 7) 4 rfl⟩
set_option maxRecDepth 20000 in
theorem mm_X6_endAt : rx_m mX6_endAt 2 := ⟨by decide +kernel, rx_c4 177 rfl rfl, rx_c1 12 rfl rfl, by decide +kernel, by decide⟩
set_option maxRecDepth 20000 in
theorem ms_X6_endAt : Cond.static yX6_endAt ∈ rx_T := rx_c4 176 rfl rfl
set_option maxRecDepth 20000 in
theorem mm_X6_fittingWord : rx_m mX6_fittingWord 3 := ⟨by decide +kernel, rx_c4 181 rfl rfl, rx_c1 12 rfl rfl, by decide +kernel, by decide⟩
set_option maxRecDepth 20000 in
theorem mv_X6_fittingWord : Cond.instanceMethod yX6_fittingWord ∈ rx_T ∧ Cond.selects yX6_fittingWord.cls yX6_fittingWord yX6_fittingWord ∈ rx_T := ⟨rx_c4 180 rfl rfl, rx_p3 (n := 7) 5 rfl⟩
set_option maxRecDepth 20000 in
theorem mm_X6_leastRow : rx_m mX6_leastRow 2 := ⟨by decide +kernel, rx_c4 186 rfl rfl, rx_c1 12 rfl rfl, by decide +kernel, by decide⟩
set_option maxRecDepth 20000 in
theorem mv_X6_leastRow : Cond.instanceMethod yX6_leastRow ∈ rx_T ∧ Cond.selects yX6_leastRow.cls yX6_leastRow yX6_leastRow ∈ rx_T := ⟨rx_c4 185 rfl rfl, rx_p3 (n := 7) 6 rfl⟩
set_option maxRecDepth 20000 in
theorem mm_X6_bestHire : rx_m mX6_bestHire 2 := ⟨by decide +kernel, rx_c5 6 rfl rfl, rx_c1 12 rfl rfl, by decide +kernel, by decide⟩
set_option maxRecDepth 20000 in
theorem mv_X6_bestHire : Cond.instanceMethod yX6_bestHire ∈ rx_T ∧ Cond.selects yX6_bestHire.cls yX6_bestHire yX6_bestHire ∈ rx_T := ⟨rx_c5 4 rfl rfl, rx_c5 5 rfl rfl⟩
set_option maxRecDepth 20000 in
theorem mm_X6_fillLosses : rx_m mX6_fillLosses 1 := ⟨by decide +kernel, rx_c5 10 rfl rfl, rx_c1 12 rfl rfl, by decide +kernel, by decide⟩
set_option maxRecDepth 20000 in
theorem mv_X6_fillLosses : Cond.instanceMethod yX6_fillLosses ∈ rx_T ∧ Cond.selects yX6_fillLosses.cls yX6_fillLosses yX6_fillLosses ∈ rx_T := ⟨rx_c5 9 rfl rfl, rx_p3 (n := 7) 8 rfl⟩
set_option maxRecDepth 20000 in
theorem mm_X6_choose : rx_m mX6_choose 2 := ⟨by decide +kernel, rx_c5 20 rfl rfl, rx_c1 12 rfl rfl, by decide +kernel, by decide⟩
set_option maxRecDepth 20000 in
theorem mv_X6_choose : Cond.instanceMethod yX6_choose ∈ rx_T ∧ Cond.selects yX6_choose.cls yX6_choose yX6_choose ∈ rx_T := ⟨rx_c5 19 rfl rfl, rx_p3 (n := 7) 10 rfl⟩
set_option maxRecDepth 20000 in
theorem mm_X6_lossOf : rx_m mX6_lossOf 2 := ⟨by decide +kernel, rx_c5 16 rfl rfl, rx_c1 12 rfl rfl, by decide +kernel, by decide⟩
set_option maxRecDepth 20000 in
theorem mv_X6_lossOf : Cond.instanceMethod yX6_lossOf ∈ rx_T ∧ Cond.selects yX6_lossOf.cls yX6_lossOf yX6_lossOf ∈ rx_T := ⟨rx_c5 15 rfl rfl, rx_p3 (n := 7) 9 rfl⟩
set_option maxRecDepth 20000 in
theorem mm_X6_thirdFor : rx_m mX6_thirdFor 4 := ⟨by decide +kernel, rx_c5 24 rfl rfl, rx_c1 12 rfl rfl, by decide +kernel, by decide⟩
set_option maxRecDepth 20000 in
theorem mv_X6_thirdFor : Cond.instanceMethod yX6_thirdFor ∈ rx_T ∧ Cond.selects yX6_thirdFor.cls yX6_thirdFor yX6_thirdFor ∈ rx_T := ⟨rx_c5 23 rfl rfl, rx_p3 (n := 7) 11 rfl⟩
set_option maxRecDepth 20000 in
theorem mm_X7_init : rx_m mX7_init 1 := ⟨by decide +kernel, rx_c2 24 rfl rfl, rx_c1 11 rfl rfl, by decide +kernel, by decide⟩
set_option maxRecDepth 20000 in
theorem mm_X7_rowOf : rx_m mX7_rowOf 2 := ⟨by decide +kernel, rx_c3 187 rfl rfl, rx_c1 11 rfl rfl, by decide +kernel, by decide⟩
set_option maxRecDepth 20000 in
theorem mv_X7_rowOf : Cond.instanceMethod yX7_rowOf ∈ rx_T ∧ Cond.selects yX7_rowOf.cls yX7_rowOf yX7_rowOf ∈ rx_T := ⟨rx_c3 185 rfl rfl, rx_c3 186 rfl rfl⟩
set_option maxRecDepth 20000 in
theorem mm_X7_restOf : rx_m mX7_restOf 2 := ⟨by decide +kernel, rx_c3 207 rfl rfl, rx_c1 11 rfl rfl, by decide +kernel, by decide⟩
set_option maxRecDepth 20000 in
theorem ms_X7_restOf : Cond.static yX7_restOf ∈ rx_T := rx_c3 206 rfl rfl
set_option maxRecDepth 20000 in
theorem mm_X7_askAboutThird : rx_m mX7_askAboutThird 2 := ⟨by decide +kernel, rx_c3 239 rfl rfl, rx_c1 11 rfl rfl, by decide +kernel, by decide⟩
set_option maxRecDepth 20000 in
theorem mv_X7_askAboutThird : Cond.instanceMethod yX7_askAboutThird ∈ rx_T ∧ Cond.selects yX7_askAboutThird.cls yX7_askAboutThird yX7_askAboutThird ∈ rx_T := ⟨rx_c3 238 rfl rfl, rx_p2 (n := 2) 7 rfl⟩
set_option maxRecDepth 20000 in
theorem mm_X7_isDaring : rx_m mX7_isDaring 2 := ⟨by decide +kernel, rx_c3 235 rfl rfl, rx_c1 11 rfl rfl, by decide +kernel, by decide⟩
set_option maxRecDepth 20000 in
theorem mv_X7_isDaring : Cond.instanceMethod yX7_isDaring ∈ rx_T ∧ Cond.selects yX7_isDaring.cls yX7_isDaring yX7_isDaring ∈ rx_T := ⟨rx_c3 233 rfl rfl, rx_c3 234 rfl rfl⟩
set_option maxRecDepth 20000 in
theorem mm_X7_dropsOf : rx_m mX7_dropsOf 2 := ⟨by decide +kernel, rx_c4 55 rfl rfl, rx_c1 11 rfl rfl, by decide +kernel, by decide⟩
set_option maxRecDepth 20000 in
theorem mv_X7_dropsOf : Cond.instanceMethod yX7_dropsOf ∈ rx_T ∧ Cond.selects yX7_dropsOf.cls yX7_dropsOf yX7_dropsOf ∈ rx_T := ⟨rx_c4 54 rfl rfl, rx_p2 (n := 2) 12 rfl⟩
set_option maxRecDepth 20000 in
theorem mm_X7_askToBend : rx_m mX7_askToBend 2 := ⟨by decide +kernel, rx_c4 64 rfl rfl, rx_c1 11 rfl rfl, by decide +kernel, by decide⟩
set_option maxRecDepth 20000 in
theorem mv_X7_askToBend : Cond.instanceMethod yX7_askToBend ∈ rx_T ∧ Cond.selects yX7_askToBend.cls yX7_askToBend yX7_askToBend ∈ rx_T := ⟨rx_c4 63 rfl rfl, rx_p2 (n := 2) 14 rfl⟩
set_option maxRecDepth 20000 in
theorem mm_X7_bentWord : rx_m mX7_bentWord 2 := ⟨by decide +kernel, rx_c4 74 rfl rfl, rx_c1 11 rfl rfl, by decide +kernel, by decide⟩
set_option maxRecDepth 20000 in
theorem mv_X7_bentWord : Cond.instanceMethod yX7_bentWord ∈ rx_T ∧ Cond.selects yX7_bentWord.cls yX7_bentWord yX7_bentWord ∈ rx_T := ⟨rx_c4 73 rfl rfl, rx_p2 (n := 2) 15 rfl⟩
set_option maxRecDepth 20000 in
theorem mm_X7_putWord : rx_m mX7_putWord 4 := ⟨by decide +kernel, rx_c4 144 rfl rfl, rx_c1 11 rfl rfl, by decide +kernel, by decide⟩
set_option maxRecDepth 20000 in
theorem mv_X7_putWord : Cond.instanceMethod yX7_putWord ∈ rx_T ∧ Cond.selects yX7_putWord.cls yX7_putWord yX7_putWord ∈ rx_T := ⟨rx_c4 142 rfl rfl, rx_c4 143 rfl rfl⟩
set_option maxRecDepth 20000 in
theorem mm_X7_putRow : rx_m mX7_putRow 3 := ⟨by decide +kernel, rx_c4 156 rfl rfl, rx_c1 11 rfl rfl, by decide +kernel, by decide⟩
set_option maxRecDepth 20000 in
theorem mv_X7_putRow : Cond.instanceMethod yX7_putRow ∈ rx_T ∧ Cond.selects yX7_putRow.cls yX7_putRow yX7_putRow ∈ rx_T := ⟨rx_c4 154 rfl rfl, rx_c4 155 rfl rfl⟩
set_option maxRecDepth 20000 in
theorem mm_X7_carriedRow : rx_m mX7_carriedRow 6 := ⟨by decide +kernel, rx_c4 59 rfl rfl, rx_c1 11 rfl rfl, by decide +kernel, by decide⟩
set_option maxRecDepth 20000 in
theorem mv_X7_carriedRow : Cond.instanceMethod yX7_carriedRow ∈ rx_T ∧ Cond.selects yX7_carriedRow.cls yX7_carriedRow yX7_carriedRow ∈ rx_T := ⟨rx_c4 58 rfl rfl, rx_p2 (n := 2) 13 rfl⟩
set_option maxRecDepth 20000 in
theorem mm_X7_lotOfHundred : rx_m mX7_lotOfHundred 2 := ⟨by decide +kernel, rx_c4 77 rfl rfl, rx_c1 11 rfl rfl, by decide +kernel, by decide⟩
set_option maxRecDepth 20000 in
theorem ms_X7_lotOfHundred : Cond.static yX7_lotOfHundred ∈ rx_T := rx_c4 76 rfl rfl
set_option maxRecDepth 20000 in
theorem mm_X7_mix : rx_m mX7_mix 2 := ⟨by decide +kernel, rx_c4 80 rfl rfl, rx_c1 11 rfl rfl, by decide +kernel, by decide⟩
set_option maxRecDepth 20000 in
theorem ms_X7_mix : Cond.static yX7_mix ∈ rx_T := rx_c4 79 rfl rfl
set_option maxRecDepth 20000 in
theorem mm_X7_moodBehind : rx_m mX7_moodBehind 3 := ⟨by decide +kernel, rx_c4 89 rfl rfl, rx_c1 11 rfl rfl, by decide +kernel, by decide⟩
set_option maxRecDepth 20000 in
theorem mv_X7_moodBehind : Cond.instanceMethod yX7_moodBehind ∈ rx_T ∧ Cond.selects yX7_moodBehind.cls yX7_moodBehind yX7_moodBehind ∈ rx_T := ⟨rx_c4 87 rfl rfl, rx_c4 88 rfl rfl⟩
set_option maxRecDepth 20000 in
theorem mm_X7_speakerOf : rx_m mX7_speakerOf 2 := ⟨by decide +kernel, rx_c4 46 rfl rfl, rx_c1 11 rfl rfl, by decide +kernel, by decide⟩
set_option maxRecDepth 20000 in
theorem mv_X7_speakerOf : Cond.instanceMethod yX7_speakerOf ∈ rx_T ∧ Cond.selects yX7_speakerOf.cls yX7_speakerOf yX7_speakerOf ∈ rx_T := ⟨rx_c4 44 rfl rfl, rx_c4 45 rfl rfl⟩
set_option maxRecDepth 20000 in
theorem mm_X7_hearerOf : rx_m mX7_hearerOf 2 := ⟨by decide +kernel, rx_c4 50 rfl rfl, rx_c1 11 rfl rfl, by decide +kernel, by decide⟩
set_option maxRecDepth 20000 in
theorem mv_X7_hearerOf : Cond.instanceMethod yX7_hearerOf ∈ rx_T ∧ Cond.selects yX7_hearerOf.cls yX7_hearerOf yX7_hearerOf ∈ rx_T := ⟨rx_c4 49 rfl rfl, rx_p2 (n := 2) 11 rfl⟩
set_option maxRecDepth 20000 in
theorem mm_X7_goThroughWeek : rx_m mX7_goThroughWeek 2 := ⟨by decide +kernel, rx_c4 37 rfl rfl, rx_c1 11 rfl rfl, by decide +kernel, by decide⟩
set_option maxRecDepth 20000 in
theorem mv_X7_goThroughWeek : Cond.instanceMethod yX7_goThroughWeek ∈ rx_T ∧ Cond.selects yX7_goThroughWeek.cls yX7_goThroughWeek yX7_goThroughWeek ∈ rx_T := ⟨rx_c4 35 rfl rfl, rx_c4 36 rfl rfl⟩
set_option maxRecDepth 20000 in
theorem mm_X7_speak : rx_m mX7_speak 4 := ⟨by decide +kernel, rx_c4 42 rfl rfl, rx_c1 11 rfl rfl, by decide +kernel, by decide⟩
set_option maxRecDepth 20000 in
theorem mv_X7_speak : Cond.instanceMethod yX7_speak ∈ rx_T ∧ Cond.selects yX7_speak.cls yX7_speak yX7_speak ∈ rx_T := ⟨rx_c4 41 rfl rfl, rx_p2 (n := 2) 10 rfl⟩
set_option maxRecDepth 20000 in
theorem mm_X7_newLove : rx_m mX7_newLove 4 := ⟨by decide +kernel, rx_c4 85 rfl rfl, rx_c1 11 rfl rfl, by decide +kernel, by decide⟩
set_option maxRecDepth 20000 in
theorem mv_X7_newLove : Cond.instanceMethod yX7_newLove ∈ rx_T ∧ Cond.selects yX7_newLove.cls yX7_newLove yX7_newLove ∈ rx_T := ⟨rx_c4 84 rfl rfl, rx_p3 (n := 2) 0 rfl⟩
set_option maxRecDepth 20000 in
theorem mm_X7_keepSilent : rx_m mX7_keepSilent 2 := ⟨by decide +kernel, rx_c4 94 rfl rfl, rx_c1 11 rfl rfl, by decide +kernel, by decide⟩
set_option maxRecDepth 20000 in
theorem mv_X7_keepSilent : Cond.instanceMethod yX7_keepSilent ∈ rx_T ∧ Cond.selects yX7_keepSilent.cls yX7_keepSilent yX7_keepSilent ∈ rx_T := ⟨rx_c4 93 rfl rfl, rx_p3 (n := 2) 1 rfl⟩
set_option maxRecDepth 20000 in
theorem mm_X7_partIfSad : rx_m mX7_partIfSad 2 := ⟨by decide +kernel, rx_c4 99 rfl rfl, rx_c1 11 rfl rfl, by decide +kernel, by decide⟩
set_option maxRecDepth 20000 in
theorem mv_X7_partIfSad : Cond.instanceMethod yX7_partIfSad ∈ rx_T ∧ Cond.selects yX7_partIfSad.cls yX7_partIfSad yX7_partIfSad ∈ rx_T := ⟨rx_c4 98 rfl rfl, rx_p3 (n := 2) 2 rfl⟩
set_option maxRecDepth 20000 in
theorem mm_X7_restThirds : rx_m mX7_restThirds 1 := ⟨by decide +kernel, rx_c4 103 rfl rfl, rx_c1 11 rfl rfl, by decide +kernel, by decide⟩
set_option maxRecDepth 20000 in
theorem mv_X7_restThirds : Cond.instanceMethod yX7_restThirds ∈ rx_T ∧ Cond.selects yX7_restThirds.cls yX7_restThirds yX7_restThirds ∈ rx_T := ⟨rx_c4 102 rfl rfl, rx_p3 (n := 2) 3 rfl⟩
set_option maxRecDepth 20000 in
theorem mm_X8_init : rx_m mX8_init 0 := ⟨by decide +kernel, rx_c1 32 rfl rfl, rx_c1 2 rfl rfl, by decide +kernel, by decide⟩
set_option maxRecDepth 20000 in
theorem mm_X8_clear : rx_m mX8_clear 0 := ⟨by decide +kernel, rx_c2 117 rfl rfl, rx_c1 2 rfl rfl, by decide +kernel, by decide⟩
set_option maxRecDepth 20000 in
theorem mv_X8_clear : Cond.instanceMethod yX8_clear ∈ rx_T ∧ Cond.selects yX8_clear.cls yX8_clear yX8_clear ∈ rx_T := ⟨rx_c2 115 rfl rfl, rx_c2 116 rfl rfl⟩
set_option maxRecDepth 20000 in
theorem mm_X8_copy : rx_m mX8_copy 1 := ⟨by decide +kernel, rx_c3 154 rfl rfl, rx_c1 2 rfl rfl, by decide +kernel, by decide⟩
set_option maxRecDepth 20000 in
theorem mv_X8_copy : Cond.instanceMethod yX8_copy ∈ rx_T ∧ Cond.selects yX8_copy.cls yX8_copy yX8_copy ∈ rx_T := ⟨rx_c3 152 rfl rfl, rx_c3 153 rfl rfl⟩
set_option maxRecDepth 20000 in
theorem mm_X8_addSpouse : rx_m mX8_addSpouse 1 := ⟨by decide +kernel, rx_c3 117 rfl rfl, rx_c1 2 rfl rfl, by decide +kernel, by decide⟩
set_option maxRecDepth 20000 in
theorem mv_X8_addSpouse : Cond.instanceMethod yX8_addSpouse ∈ rx_T ∧ Cond.selects yX8_addSpouse.cls yX8_addSpouse yX8_addSpouse ∈ rx_T := ⟨rx_c3 115 rfl rfl, rx_c3 116 rfl rfl⟩
set_option maxRecDepth 20000 in
theorem mm_X8_addCouple : rx_m mX8_addCouple 2 := ⟨by decide +kernel, rx_c3 133 rfl rfl, rx_c1 2 rfl rfl, by decide +kernel, by decide⟩
set_option maxRecDepth 20000 in
theorem mv_X8_addCouple : Cond.instanceMethod yX8_addCouple ∈ rx_T ∧ Cond.selects yX8_addCouple.cls yX8_addCouple yX8_addCouple ∈ rx_T := ⟨rx_c3 131 rfl rfl, rx_c3 132 rfl rfl⟩
set_option maxRecDepth 20000 in
theorem mm_X8_addThird : rx_m mX8_addThird 2 := ⟨by decide +kernel, rx_c3 142 rfl rfl, rx_c1 2 rfl rfl, by decide +kernel, by decide⟩
set_option maxRecDepth 20000 in
theorem mv_X8_addThird : Cond.instanceMethod yX8_addThird ∈ rx_T ∧ Cond.selects yX8_addThird.cls yX8_addThird yX8_addThird ∈ rx_T := ⟨rx_c3 140 rfl rfl, rx_c3 141 rfl rfl⟩
set_option maxRecDepth 20000 in
theorem mm_X8_hasSpouse : rx_m mX8_hasSpouse 1 := ⟨by decide +kernel, rx_c3 129 rfl rfl, rx_c1 2 rfl rfl, by decide +kernel, by decide⟩
set_option maxRecDepth 20000 in
theorem mv_X8_hasSpouse : Cond.instanceMethod yX8_hasSpouse ∈ rx_T ∧ Cond.selects yX8_hasSpouse.cls yX8_hasSpouse yX8_hasSpouse ∈ rx_T := ⟨rx_c3 127 rfl rfl, rx_c3 128 rfl rfl⟩
set_option maxRecDepth 20000 in
theorem mm_X8_hasCouple : rx_m mX8_hasCouple 1 := ⟨by decide +kernel, rx_c3 218 rfl rfl, rx_c1 2 rfl rfl, by decide +kernel, by decide⟩
set_option maxRecDepth 20000 in
theorem mv_X8_hasCouple : Cond.instanceMethod yX8_hasCouple ∈ rx_T ∧ Cond.selects yX8_hasCouple.cls yX8_hasCouple yX8_hasCouple ∈ rx_T := ⟨rx_c3 216 rfl rfl, rx_c3 217 rfl rfl⟩
set_option maxRecDepth 20000 in
theorem mm_X8_hasThird : rx_m mX8_hasThird 1 := ⟨by decide +kernel, rx_c3 226 rfl rfl, rx_c1 2 rfl rfl, by decide +kernel, by decide⟩
set_option maxRecDepth 20000 in
theorem mv_X8_hasThird : Cond.instanceMethod yX8_hasThird ∈ rx_T ∧ Cond.selects yX8_hasThird.cls yX8_hasThird yX8_hasThird ∈ rx_T := ⟨rx_c3 224 rfl rfl, rx_c3 225 rfl rfl⟩
set_option maxRecDepth 20000 in
theorem mm_X8_begin : rx_m mX8_begin 1 := ⟨by decide +kernel, rx_c2 136 rfl rfl, rx_c1 2 rfl rfl, by decide +kernel, by decide⟩
set_option maxRecDepth 20000 in
theorem mv_X8_begin : Cond.instanceMethod yX8_begin ∈ rx_T ∧ Cond.selects yX8_begin.cls yX8_begin yX8_begin ∈ rx_T := ⟨rx_c2 134 rfl rfl, rx_c2 135 rfl rfl⟩
set_option maxRecDepth 20000 in
theorem mm_X9_init : rx_m mX9_init 0 := ⟨by decide +kernel, rx_c1 127 rfl rfl, rx_c1 5 rfl rfl, by decide +kernel, by decide⟩
set_option maxRecDepth 20000 in
theorem mm_X9_withLetter : rx_m mX9_withLetter 2 := ⟨by decide +kernel, rx_c1 180 rfl rfl, rx_c1 5 rfl rfl, by decide +kernel, by decide⟩
set_option maxRecDepth 20000 in
theorem ms_X9_withLetter : Cond.static yX9_withLetter ∈ rx_T := rx_c1 179 rfl rfl
set_option maxRecDepth 20000 in
theorem mm_X9_cut : rx_m mX9_cut 2 := ⟨by decide +kernel, rx_c2 194 rfl rfl, rx_c1 5 rfl rfl, by decide +kernel, by decide⟩
set_option maxRecDepth 20000 in
theorem mv_X9_cut : Cond.instanceMethod yX9_cut ∈ rx_T ∧ Cond.selects yX9_cut.cls yX9_cut yX9_cut ∈ rx_T := ⟨rx_c2 192 rfl rfl, rx_c2 193 rfl rfl⟩
set_option maxRecDepth 20000 in
theorem mm_X9_kindAt : rx_m mX9_kindAt 1 := ⟨by decide +kernel, rx_c3 47 rfl rfl, rx_c1 5 rfl rfl, by decide +kernel, by decide⟩
set_option maxRecDepth 20000 in
theorem mv_X9_kindAt : Cond.instanceMethod yX9_kindAt ∈ rx_T ∧ Cond.selects yX9_kindAt.cls yX9_kindAt yX9_kindAt ∈ rx_T := ⟨rx_c3 45 rfl rfl, rx_c3 46 rfl rfl⟩
set_option maxRecDepth 20000 in
theorem mm_X9_placeOf : rx_m mX9_placeOf 1 := ⟨by decide +kernel, rx_c3 109 rfl rfl, rx_c1 5 rfl rfl, by decide +kernel, by decide⟩
set_option maxRecDepth 20000 in
theorem mv_X9_placeOf : Cond.instanceMethod yX9_placeOf ∈ rx_T ∧ Cond.selects yX9_placeOf.cls yX9_placeOf yX9_placeOf ∈ rx_T := ⟨rx_c3 107 rfl rfl, rx_c3 108 rfl rfl⟩
set_option maxRecDepth 20000 in
theorem mm_X9_valueAt : rx_m mX9_valueAt 1 := ⟨by decide +kernel, rx_c3 80 rfl rfl, rx_c1 5 rfl rfl, by decide +kernel, by decide⟩
set_option maxRecDepth 20000 in
theorem mv_X9_valueAt : Cond.instanceMethod yX9_valueAt ∈ rx_T ∧ Cond.selects yX9_valueAt.cls yX9_valueAt yX9_valueAt ∈ rx_T := ⟨rx_c3 78 rfl rfl, rx_c3 79 rfl rfl⟩
set_option maxRecDepth 20000 in
theorem mm_X9_blanksEnd : rx_m mX9_blanksEnd 3 := ⟨by decide +kernel, rx_c2 200 rfl rfl, rx_c1 5 rfl rfl, by decide +kernel, by decide⟩
set_option maxRecDepth 20000 in
theorem ms_X9_blanksEnd : Cond.static yX9_blanksEnd ∈ rx_T := rx_c2 199 rfl rfl
set_option maxRecDepth 20000 in
theorem mm_X9_tokenEnd : rx_m mX9_tokenEnd 3 := ⟨by decide +kernel, rx_c2 206 rfl rfl, rx_c1 5 rfl rfl, by decide +kernel, by decide⟩
set_option maxRecDepth 20000 in
theorem ms_X9_tokenEnd : Cond.static yX9_tokenEnd ∈ rx_T := rx_c2 205 rfl rfl
set_option maxRecDepth 20000 in
theorem mm_X9_kindOf : rx_m mX9_kindOf 3 := ⟨by decide +kernel, rx_c2 216 rfl rfl, rx_c1 5 rfl rfl, by decide +kernel, by decide⟩
set_option maxRecDepth 20000 in
theorem mv_X9_kindOf : Cond.instanceMethod yX9_kindOf ∈ rx_T ∧ Cond.selects yX9_kindOf.cls yX9_kindOf yX9_kindOf ∈ rx_T := ⟨rx_c2 215 rfl rfl, rx_p1 (n := 5) 1 rfl⟩
set_option maxRecDepth 20000 in
theorem mm_X9_wordKind : rx_m mX9_wordKind 3 := ⟨by decide +kernel, rx_c2 220 rfl rfl, rx_c1 5 rfl rfl, by decide +kernel, by decide⟩
set_option maxRecDepth 20000 in
theorem mv_X9_wordKind : Cond.instanceMethod yX9_wordKind ∈ rx_T ∧ Cond.selects yX9_wordKind.cls yX9_wordKind yX9_wordKind ∈ rx_T := ⟨rx_c2 219 rfl rfl, rx_p1 (n := 5) 2 rfl⟩
set_option maxRecDepth 20000 in
theorem mm_X9_numberKind : rx_m mX9_numberKind 3 := ⟨by decide +kernel, rx_c2 224 rfl rfl, rx_c1 5 rfl rfl, by decide +kernel, by decide⟩
set_option maxRecDepth 20000 in
theorem mv_X9_numberKind : Cond.instanceMethod yX9_numberKind ∈ rx_T ∧ Cond.selects yX9_numberKind.cls yX9_numberKind yX9_numberKind ∈ rx_T := ⟨rx_c2 223 rfl rfl, rx_p1 (n := 5) 3 rfl⟩
set_option maxRecDepth 20000 in
theorem mm_X9_isBlank : rx_m mX9_isBlank 1 := ⟨by decide +kernel, rx_c2 203 rfl rfl, rx_c1 5 rfl rfl, by decide +kernel, by decide⟩
set_option maxRecDepth 20000 in
theorem ms_X9_isBlank : Cond.static yX9_isBlank ∈ rx_T := rx_c2 202 rfl rfl
set_option maxRecDepth 20000 in
theorem mm_X9_isLetter : rx_m mX9_isLetter 1 := ⟨by decide +kernel, rx_c2 209 rfl rfl, rx_c1 5 rfl rfl, by decide +kernel, by decide⟩
set_option maxRecDepth 20000 in
theorem ms_X9_isLetter : Cond.static yX9_isLetter ∈ rx_T := rx_c2 208 rfl rfl
set_option maxRecDepth 20000 in
theorem mm_X9_isDigit : rx_m mX9_isDigit 1 := ⟨by decide +kernel, rx_c2 212 rfl rfl, rx_c1 5 rfl rfl, by decide +kernel, by decide⟩
set_option maxRecDepth 20000 in
theorem ms_X9_isDigit : Cond.static yX9_isDigit ∈ rx_T := rx_c2 211 rfl rfl
set_option maxRecDepth 20000 in
theorem mm_X10_init : rx_m mX10_init 0 := ⟨by decide +kernel, rx_c1 24 rfl rfl, rx_c1 1 rfl rfl, by decide +kernel, by decide⟩
set_option maxRecDepth 20000 in
theorem mm_X10_feed : rx_m mX10_feed 5 := ⟨by decide +kernel, rx_c2 174 rfl rfl, rx_c1 1 rfl rfl, by decide +kernel, by decide⟩
set_option maxRecDepth 20000 in
theorem mv_X10_feed : Cond.instanceMethod yX10_feed ∈ rx_T ∧ Cond.selects yX10_feed.cls yX10_feed yX10_feed ∈ rx_T := ⟨rx_c2 172 rfl rfl, rx_c2 173 rfl rfl⟩
set_option maxRecDepth 20000 in
theorem mm_X10_addBytes : rx_m mX10_addBytes 1 := ⟨by decide +kernel, rx_c2 178 rfl rfl, rx_c1 1 rfl rfl, by decide +kernel, by decide⟩
set_option maxRecDepth 20000 in
theorem mv_X10_addBytes : Cond.instanceMethod yX10_addBytes ∈ rx_T ∧ Cond.selects yX10_addBytes.cls yX10_addBytes yX10_addBytes ∈ rx_T := ⟨rx_c2 177 rfl rfl, rx_p1 (n := 11) 0 rfl⟩
set_option maxRecDepth 20000 in
theorem mm_X10_back : rx_m mX10_back 1 := ⟨by decide +kernel, rx_c2 182 rfl rfl, rx_c1 1 rfl rfl, by decide +kernel, by decide⟩
set_option maxRecDepth 20000 in
theorem mv_X10_back : Cond.instanceMethod yX10_back ∈ rx_T ∧ Cond.selects yX10_back.cls yX10_back yX10_back ∈ rx_T := ⟨rx_c2 180 rfl rfl, rx_c2 181 rfl rfl⟩
set_option maxRecDepth 20000 in
theorem mm_X10_read : rx_m mX10_read 0 := ⟨by decide +kernel, rx_c2 186 rfl rfl, rx_c1 1 rfl rfl, by decide +kernel, by decide⟩
set_option maxRecDepth 20000 in
theorem mv_X10_read : Cond.instanceMethod yX10_read ∈ rx_T ∧ Cond.selects yX10_read.cls yX10_read yX10_read ∈ rx_T := ⟨rx_c2 184 rfl rfl, rx_c2 185 rfl rfl⟩
set_option maxRecDepth 20000 in
theorem mm_X10_place : rx_m mX10_place 0 := ⟨by decide +kernel, rx_c3 178 rfl rfl, rx_c1 1 rfl rfl, by decide +kernel, by decide⟩
set_option maxRecDepth 20000 in
theorem mv_X10_place : Cond.instanceMethod yX10_place ∈ rx_T ∧ Cond.selects yX10_place.cls yX10_place yX10_place ∈ rx_T := ⟨rx_c3 176 rfl rfl, rx_c3 177 rfl rfl⟩
set_option maxRecDepth 20000 in
theorem mm_X10_spouse : rx_m mX10_spouse 2 := ⟨by decide +kernel, rx_c3 182 rfl rfl, rx_c1 1 rfl rfl, by decide +kernel, by decide⟩
set_option maxRecDepth 20000 in
theorem mv_X10_spouse : Cond.instanceMethod yX10_spouse ∈ rx_T ∧ Cond.selects yX10_spouse.cls yX10_spouse yX10_spouse ∈ rx_T := ⟨rx_c3 180 rfl rfl, rx_c3 181 rfl rfl⟩
set_option maxRecDepth 20000 in
theorem mm_X10_couple : rx_m mX10_couple 2 := ⟨by decide +kernel, rx_c3 214 rfl rfl, rx_c1 1 rfl rfl, by decide +kernel, by decide⟩
set_option maxRecDepth 20000 in
theorem mv_X10_couple : Cond.instanceMethod yX10_couple ∈ rx_T ∧ Cond.selects yX10_couple.cls yX10_couple yX10_couple ∈ rx_T := ⟨rx_c3 212 rfl rfl, rx_c3 213 rfl rfl⟩
set_option maxRecDepth 20000 in
theorem mm_X10_third : rx_m mX10_third 2 := ⟨by decide +kernel, rx_c3 222 rfl rfl, rx_c1 1 rfl rfl, by decide +kernel, by decide⟩
set_option maxRecDepth 20000 in
theorem mv_X10_third : Cond.instanceMethod yX10_third ∈ rx_T ∧ Cond.selects yX10_third.cls yX10_third yX10_third ∈ rx_T := ⟨rx_c3 220 rfl rfl, rx_c3 221 rfl rfl⟩
set_option maxRecDepth 20000 in
theorem mm_X10_couplesOf : rx_m mX10_couplesOf 1 := ⟨by decide +kernel, rx_c3 231 rfl rfl, rx_c1 1 rfl rfl, by decide +kernel, by decide⟩
set_option maxRecDepth 20000 in
theorem mv_X10_couplesOf : Cond.instanceMethod yX10_couplesOf ∈ rx_T ∧ Cond.selects yX10_couplesOf.cls yX10_couplesOf yX10_couplesOf ∈ rx_T := ⟨rx_c3 230 rfl rfl, rx_p2 (n := 11) 6 rfl⟩
set_option maxRecDepth 20000 in
theorem mm_X10_count : rx_m mX10_count 1 := ⟨by decide +kernel, rx_c4 3 rfl rfl, rx_c1 1 rfl rfl, by decide +kernel, by decide⟩
set_option maxRecDepth 20000 in
theorem mv_X10_count : Cond.instanceMethod yX10_count ∈ rx_T ∧ Cond.selects yX10_count.cls yX10_count yX10_count ∈ rx_T := ⟨rx_c4 1 rfl rfl, rx_c4 2 rfl rfl⟩
set_option maxRecDepth 20000 in
theorem mm_X10_bitsOf : rx_m mX10_bitsOf 2 := ⟨by decide +kernel, rx_c4 7 rfl rfl, rx_c1 1 rfl rfl, by decide +kernel, by decide⟩
set_option maxRecDepth 20000 in
theorem mv_X10_bitsOf : Cond.instanceMethod yX10_bitsOf ∈ rx_T ∧ Cond.selects yX10_bitsOf.cls yX10_bitsOf yX10_bitsOf ∈ rx_T := ⟨rx_c4 6 rfl rfl, rx_p2 (n := 11) 8 rfl⟩
set_option maxRecDepth 20000 in
theorem mm_X10_allMoods : rx_m mX10_allMoods 0 := ⟨by decide +kernel, rx_c4 15 rfl rfl, rx_c1 1 rfl rfl, by decide +kernel, by decide⟩
set_option maxRecDepth 20000 in
theorem mv_X10_allMoods : Cond.instanceMethod yX10_allMoods ∈ rx_T ∧ Cond.selects yX10_allMoods.cls yX10_allMoods yX10_allMoods ∈ rx_T := ⟨rx_c4 14 rfl rfl, rx_p2 (n := 11) 9 rfl⟩
set_option maxRecDepth 20000 in
theorem mm_X10_hire : rx_m mX10_hire 2 := ⟨by decide +kernel, rx_c4 19 rfl rfl, rx_c1 1 rfl rfl, by decide +kernel, by decide⟩
set_option maxRecDepth 20000 in
theorem mv_X10_hire : Cond.instanceMethod yX10_hire ∈ rx_T ∧ Cond.selects yX10_hire.cls yX10_hire yX10_hire ∈ rx_T := ⟨rx_c4 17 rfl rfl, rx_c4 18 rfl rfl⟩
set_option maxRecDepth 20000 in
theorem mm_X10_swear : rx_m mX10_swear 2 := ⟨by decide +kernel, rx_c4 29 rfl rfl, rx_c1 1 rfl rfl, by decide +kernel, by decide⟩
set_option maxRecDepth 20000 in
theorem mv_X10_swear : Cond.instanceMethod yX10_swear ∈ rx_T ∧ Cond.selects yX10_swear.cls yX10_swear yX10_swear ∈ rx_T := ⟨rx_c4 27 rfl rfl, rx_c4 28 rfl rfl⟩
set_option maxRecDepth 20000 in
theorem mm_X10_weeks : rx_m mX10_weeks 1 := ⟨by decide +kernel, rx_c4 33 rfl rfl, rx_c1 1 rfl rfl, by decide +kernel, by decide⟩
set_option maxRecDepth 20000 in
theorem mv_X10_weeks : Cond.instanceMethod yX10_weeks ∈ rx_T ∧ Cond.selects yX10_weeks.cls yX10_weeks yX10_weeks ∈ rx_T := ⟨rx_c4 31 rfl rfl, rx_c4 32 rfl rfl⟩
set_option maxRecDepth 20000 in
theorem mm_X10_undo : rx_m mX10_undo 0 := ⟨by decide +kernel, rx_c4 107 rfl rfl, rx_c1 1 rfl rfl, by decide +kernel, by decide⟩
set_option maxRecDepth 20000 in
theorem mv_X10_undo : Cond.instanceMethod yX10_undo ∈ rx_T ∧ Cond.selects yX10_undo.cls yX10_undo yX10_undo ∈ rx_T := ⟨rx_c4 105 rfl rfl, rx_c4 106 rfl rfl⟩
set_option maxRecDepth 20000 in
theorem mm_X10_hold : rx_m mX10_hold 1 := ⟨by decide +kernel, rx_c4 115 rfl rfl, rx_c1 1 rfl rfl, by decide +kernel, by decide⟩
set_option maxRecDepth 20000 in
theorem mv_X10_hold : Cond.instanceMethod yX10_hold ∈ rx_T ∧ Cond.selects yX10_hold.cls yX10_hold yX10_hold ∈ rx_T := ⟨rx_c4 113 rfl rfl, rx_c4 114 rfl rfl⟩
set_option maxRecDepth 20000 in
theorem mm_X10_restore : rx_m mX10_restore 1 := ⟨by decide +kernel, rx_c4 126 rfl rfl, rx_c1 1 rfl rfl, by decide +kernel, by decide⟩
set_option maxRecDepth 20000 in
theorem mv_X10_restore : Cond.instanceMethod yX10_restore ∈ rx_T ∧ Cond.selects yX10_restore.cls yX10_restore yX10_restore ∈ rx_T := ⟨rx_c4 124 rfl rfl, rx_c4 125 rfl rfl⟩
set_option maxRecDepth 20000 in
theorem mm_X10_bends : rx_m mX10_bends 3 := ⟨by decide +kernel, rx_c4 134 rfl rfl, rx_c1 1 rfl rfl, by decide +kernel, by decide⟩
set_option maxRecDepth 20000 in
theorem mv_X10_bends : Cond.instanceMethod yX10_bends ∈ rx_T ∧ Cond.selects yX10_bends.cls yX10_bends yX10_bends ∈ rx_T := ⟨rx_c4 132 rfl rfl, rx_c4 133 rfl rfl⟩
set_option maxRecDepth 20000 in
theorem mm_X10_heard : rx_m mX10_heard 2 := ⟨by decide +kernel, rx_c4 148 rfl rfl, rx_c1 1 rfl rfl, by decide +kernel, by decide⟩
set_option maxRecDepth 20000 in
theorem mv_X10_heard : Cond.instanceMethod yX10_heard ∈ rx_T ∧ Cond.selects yX10_heard.cls yX10_heard yX10_heard ∈ rx_T := ⟨rx_c4 146 rfl rfl, rx_c4 147 rfl rfl⟩
set_option maxRecDepth 20000 in
theorem mm_X10_chain : rx_m mX10_chain 3 := ⟨by decide +kernel, rx_c4 160 rfl rfl, rx_c1 1 rfl rfl, by decide +kernel, by decide⟩
set_option maxRecDepth 20000 in
theorem mv_X10_chain : Cond.instanceMethod yX10_chain ∈ rx_T ∧ Cond.selects yX10_chain.cls yX10_chain yX10_chain ∈ rx_T := ⟨rx_c4 158 rfl rfl, rx_c4 159 rfl rfl⟩
set_option maxRecDepth 20000 in
theorem mm_X10_say : rx_m mX10_say 2 := ⟨by decide +kernel, rx_c4 164 rfl rfl, rx_c1 1 rfl rfl, by decide +kernel, by decide⟩
set_option maxRecDepth 20000 in
theorem mv_X10_say : Cond.instanceMethod yX10_say ∈ rx_T ∧ Cond.selects yX10_say.cls yX10_say yX10_say ∈ rx_T := ⟨rx_c4 162 rfl rfl, rx_c4 163 rfl rfl⟩
set_option maxRecDepth 20000 in
theorem mm_X10_loses : rx_m mX10_loses 3 := ⟨by decide +kernel, rx_c4 191 rfl rfl, rx_c1 1 rfl rfl, by decide +kernel, by decide⟩
set_option maxRecDepth 20000 in
theorem mv_X10_loses : Cond.instanceMethod yX10_loses ∈ rx_T ∧ Cond.selects yX10_loses.cls yX10_loses yX10_loses ∈ rx_T := ⟨rx_c4 189 rfl rfl, rx_c4 190 rfl rfl⟩
set_option maxRecDepth 20000 in
theorem mm_X10_least : rx_m mX10_least 1 := ⟨by decide +kernel, rx_c4 210 rfl rfl, rx_c1 1 rfl rfl, by decide +kernel, by decide⟩
set_option maxRecDepth 20000 in
theorem mv_X10_least : Cond.instanceMethod yX10_least ∈ rx_T ∧ Cond.selects yX10_least.cls yX10_least yX10_least ∈ rx_T := ⟨rx_c4 208 rfl rfl, rx_c4 209 rfl rfl⟩
set_option maxRecDepth 20000 in
theorem mm_X10_truest : rx_m mX10_truest 1 := ⟨by decide +kernel, rx_c4 220 rfl rfl, rx_c1 1 rfl rfl, by decide +kernel, by decide⟩
set_option maxRecDepth 20000 in
theorem mv_X10_truest : Cond.instanceMethod yX10_truest ∈ rx_T ∧ Cond.selects yX10_truest.cls yX10_truest yX10_truest ∈ rx_T := ⟨rx_c4 218 rfl rfl, rx_c4 219 rfl rfl⟩
set_option maxRecDepth 20000 in
theorem mm_X10_crooked : rx_m mX10_crooked 2 := ⟨by decide +kernel, rx_c4 228 rfl rfl, rx_c1 1 rfl rfl, by decide +kernel, by decide⟩
set_option maxRecDepth 20000 in
theorem mv_X10_crooked : Cond.instanceMethod yX10_crooked ∈ rx_T ∧ Cond.selects yX10_crooked.cls yX10_crooked yX10_crooked ∈ rx_T := ⟨rx_c4 226 rfl rfl, rx_c4 227 rfl rfl⟩
set_option maxRecDepth 20000 in
theorem mm_X10_altered : rx_m mX10_altered 2 := ⟨by decide +kernel, rx_c4 232 rfl rfl, rx_c1 1 rfl rfl, by decide +kernel, by decide⟩
set_option maxRecDepth 20000 in
theorem mv_X10_altered : Cond.instanceMethod yX10_altered ∈ rx_T ∧ Cond.selects yX10_altered.cls yX10_altered yX10_altered ∈ rx_T := ⟨rx_c4 230 rfl rfl, rx_c4 231 rfl rfl⟩
set_option maxRecDepth 20000 in
theorem mm_X10_takes : rx_m mX10_takes 2 := ⟨by decide +kernel, rx_c4 237 rfl rfl, rx_c1 1 rfl rfl, by decide +kernel, by decide⟩
set_option maxRecDepth 20000 in
theorem mv_X10_takes : Cond.instanceMethod yX10_takes ∈ rx_T ∧ Cond.selects yX10_takes.cls yX10_takes yX10_takes ∈ rx_T := ⟨rx_c4 235 rfl rfl, rx_c4 236 rfl rfl⟩
set_option maxRecDepth 20000 in
theorem mm_X10_hires : rx_m mX10_hires 1 := ⟨by decide +kernel, rx_c5 2 rfl rfl, rx_c1 1 rfl rfl, by decide +kernel, by decide⟩
set_option maxRecDepth 20000 in
theorem mv_X10_hires : Cond.instanceMethod yX10_hires ∈ rx_T ∧ Cond.selects yX10_hires.cls yX10_hires yX10_hires ∈ rx_T := ⟨rx_c5 0 rfl rfl, rx_c5 1 rfl rfl⟩
set_option maxRecDepth 20000 in
theorem mm_X10_then : rx_m mX10_then 2 := ⟨by decide +kernel, rx_c5 28 rfl rfl, rx_c1 1 rfl rfl, by decide +kernel, by decide⟩
set_option maxRecDepth 20000 in
theorem mv_X10_then : Cond.instanceMethod yX10_then ∈ rx_T ∧ Cond.selects yX10_then.cls yX10_then yX10_then ∈ rx_T := ⟨rx_c5 26 rfl rfl, rx_c5 27 rfl rfl⟩
set_option maxRecDepth 20000 in
theorem mm_X10_paid : rx_m mX10_paid 3 := ⟨by decide +kernel, rx_c5 38 rfl rfl, rx_c1 1 rfl rfl, by decide +kernel, by decide⟩
set_option maxRecDepth 20000 in
theorem mv_X10_paid : Cond.instanceMethod yX10_paid ∈ rx_T ∧ Cond.selects yX10_paid.cls yX10_paid yX10_paid ∈ rx_T := ⟨rx_c5 36 rfl rfl, rx_c5 37 rfl rfl⟩
set_option maxRecDepth 20000 in
theorem mm_X10_parts : rx_m mX10_parts 1 := ⟨by decide +kernel, rx_c5 42 rfl rfl, rx_c1 1 rfl rfl, by decide +kernel, by decide⟩
set_option maxRecDepth 20000 in
theorem mv_X10_parts : Cond.instanceMethod yX10_parts ∈ rx_T ∧ Cond.selects yX10_parts.cls yX10_parts yX10_parts ∈ rx_T := ⟨rx_c5 40 rfl rfl, rx_c5 41 rfl rfl⟩
set_option maxRecDepth 20000 in
theorem mm_X10_oaths : rx_m mX10_oaths 2 := ⟨by decide +kernel, rx_c5 50 rfl rfl, rx_c1 1 rfl rfl, by decide +kernel, by decide⟩
set_option maxRecDepth 20000 in
theorem mv_X10_oaths : Cond.instanceMethod yX10_oaths ∈ rx_T ∧ Cond.selects yX10_oaths.cls yX10_oaths yX10_oaths ∈ rx_T := ⟨rx_c5 48 rfl rfl, rx_c5 49 rfl rfl⟩
set_option maxRecDepth 20000 in
theorem mm_X10_year : rx_m mX10_year 3 := ⟨by decide +kernel, rx_c5 66 rfl rfl, rx_c1 1 rfl rfl, by decide +kernel, by decide⟩
set_option maxRecDepth 20000 in
theorem mv_X10_year : Cond.instanceMethod yX10_year ∈ rx_T ∧ Cond.selects yX10_year.cls yX10_year yX10_year ∈ rx_T := ⟨rx_c5 64 rfl rfl, rx_c5 65 rfl rfl⟩
set_option maxRecDepth 20000 in
theorem mm_X10_tell : rx_m mX10_tell 2 := ⟨by decide +kernel, rx_c5 70 rfl rfl, rx_c1 1 rfl rfl, by decide +kernel, by decide⟩
set_option maxRecDepth 20000 in
theorem mv_X10_tell : Cond.instanceMethod yX10_tell ∈ rx_T ∧ Cond.selects yX10_tell.cls yX10_tell yX10_tell ∈ rx_T := ⟨rx_c5 68 rfl rfl, rx_c5 69 rfl rfl⟩
set_option maxRecDepth 20000 in
theorem mm_X10_forget : rx_m mX10_forget 0 := ⟨by decide +kernel, rx_c5 79 rfl rfl, rx_c1 1 rfl rfl, by decide +kernel, by decide⟩
set_option maxRecDepth 20000 in
theorem mv_X10_forget : Cond.instanceMethod yX10_forget ∈ rx_T ∧ Cond.selects yX10_forget.cls yX10_forget yX10_forget ∈ rx_T := ⟨rx_c5 77 rfl rfl, rx_c5 78 rfl rfl⟩
set_option maxRecDepth 20000 in
theorem mm_X10_who : rx_m mX10_who 1 := ⟨by decide +kernel, rx_c5 83 rfl rfl, rx_c1 1 rfl rfl, by decide +kernel, by decide⟩
set_option maxRecDepth 20000 in
theorem mv_X10_who : Cond.instanceMethod yX10_who ∈ rx_T ∧ Cond.selects yX10_who.cls yX10_who yX10_who ∈ rx_T := ⟨rx_c5 81 rfl rfl, rx_c5 82 rfl rfl⟩
set_option maxRecDepth 20000 in
theorem mm_X10_ask : rx_m mX10_ask 1 := ⟨by decide +kernel, rx_c5 101 rfl rfl, rx_c1 1 rfl rfl, by decide +kernel, by decide⟩
set_option maxRecDepth 20000 in
theorem mv_X10_ask : Cond.instanceMethod yX10_ask ∈ rx_T ∧ Cond.selects yX10_ask.cls yX10_ask yX10_ask ∈ rx_T := ⟨rx_c5 99 rfl rfl, rx_c5 100 rfl rfl⟩
set_option maxRecDepth 20000 in
theorem mm_X10_isWord : rx_m mX10_isWord 1 := ⟨by decide +kernel, rx_c4 137 rfl rfl, rx_c1 1 rfl rfl, by decide +kernel, by decide⟩
set_option maxRecDepth 20000 in
theorem ms_X10_isWord : Cond.static yX10_isWord ∈ rx_T := rx_c4 136 rfl rfl
set_option maxRecDepth 20000 in
theorem mm_X10_isPlace : rx_m mX10_isPlace 1 := ⟨by decide +kernel, rx_c4 140 rfl rfl, rx_c1 1 rfl rfl, by decide +kernel, by decide⟩
set_option maxRecDepth 20000 in
theorem ms_X10_isPlace : Cond.static yX10_isPlace ∈ rx_T := rx_c4 139 rfl rfl
set_option maxRecDepth 20000 in
theorem mm_X10_within : rx_m mX10_within 3 := ⟨by decide +kernel, rx_c3 202 rfl rfl, rx_c1 1 rfl rfl, by decide +kernel, by decide⟩
set_option maxRecDepth 20000 in
theorem ms_X10_within : Cond.static yX10_within ∈ rx_T := rx_c3 201 rfl rfl
set_option maxRecDepth 20000 in
theorem mm_X11_init : rx_m mX11_init 0 := ⟨by decide +kernel, rx_c5 121 rfl rfl, rx_c1 16 rfl rfl, by decide +kernel, by decide⟩
set_option maxRecDepth 20000 in
theorem mm_X11_feed : rx_m mX11_feed 5 := ⟨by decide +kernel, rx_c6 109 rfl rfl, rx_c1 16 rfl rfl, by decide +kernel, by decide⟩
set_option maxRecDepth 20000 in
theorem mv_X11_feed : Cond.instanceMethod yX11_feed ∈ rx_T ∧ Cond.selects yX11_feed.cls yX11_feed yX11_feed ∈ rx_T := ⟨rx_c6 107 rfl rfl, rx_c6 108 rfl rfl⟩
set_option maxRecDepth 20000 in
theorem mm_X11_put : rx_m mX11_put 1 := ⟨by decide +kernel, rx_c6 113 rfl rfl, rx_c1 16 rfl rfl, by decide +kernel, by decide⟩
set_option maxRecDepth 20000 in
theorem mv_X11_put : Cond.instanceMethod yX11_put ∈ rx_T ∧ Cond.selects yX11_put.cls yX11_put yX11_put ∈ rx_T := ⟨rx_c6 112 rfl rfl, rx_p4 (n := 68) 3 rfl⟩
set_option maxRecDepth 20000 in
theorem mm_X11_back : rx_m mX11_back 1 := ⟨by decide +kernel, rx_c6 117 rfl rfl, rx_c1 16 rfl rfl, by decide +kernel, by decide⟩
set_option maxRecDepth 20000 in
theorem mv_X11_back : Cond.instanceMethod yX11_back ∈ rx_T ∧ Cond.selects yX11_back.cls yX11_back yX11_back ∈ rx_T := ⟨rx_c6 115 rfl rfl, rx_c6 116 rfl rfl⟩
set_option maxRecDepth 20000 in
theorem mm_X11_byteAt : rx_m mX11_byteAt 1 := ⟨by decide +kernel, rx_c6 129 rfl rfl, rx_c1 16 rfl rfl, by decide +kernel, by decide⟩
set_option maxRecDepth 20000 in
theorem mv_X11_byteAt : Cond.instanceMethod yX11_byteAt ∈ rx_T ∧ Cond.selects yX11_byteAt.cls yX11_byteAt yX11_byteAt ∈ rx_T := ⟨rx_c6 128 rfl rfl, rx_p4 (n := 68) 5 rfl⟩
set_option maxRecDepth 20000 in
theorem mm_X11_isDigit : rx_m mX11_isDigit 1 := ⟨by decide +kernel, rx_c6 139 rfl rfl, rx_c1 16 rfl rfl, by decide +kernel, by decide⟩
set_option maxRecDepth 20000 in
theorem ms_X11_isDigit : Cond.static yX11_isDigit ∈ rx_T := rx_c6 138 rfl rfl
set_option maxRecDepth 20000 in
theorem mm_X11_isLetter : rx_m mX11_isLetter 1 := ⟨by decide +kernel, rx_c6 136 rfl rfl, rx_c1 16 rfl rfl, by decide +kernel, by decide⟩
set_option maxRecDepth 20000 in
theorem ms_X11_isLetter : Cond.static yX11_isLetter ∈ rx_T := rx_c6 135 rfl rfl
set_option maxRecDepth 20000 in
theorem mm_X11_appends : rx_m mX11_appends 2 := ⟨by decide +kernel, rx_c5 132 rfl rfl, rx_c1 16 rfl rfl, by decide +kernel, by decide⟩
set_option maxRecDepth 20000 in
theorem ms_X11_appends : Cond.static yX11_appends ∈ rx_T := rx_c5 131 rfl rfl
set_option maxRecDepth 20000 in
theorem mm_X11_word : rx_m mX11_word 7 := ⟨by decide +kernel, rx_c5 129 rfl rfl, rx_c1 16 rfl rfl, by decide +kernel, by decide⟩
set_option maxRecDepth 20000 in
theorem ms_X11_word : Cond.static yX11_word ∈ rx_T := rx_c5 128 rfl rfl
set_option maxRecDepth 20000 in
theorem mm_X11_token : rx_m mX11_token 4 := ⟨by decide +kernel, rx_c6 133 rfl rfl, rx_c1 16 rfl rfl, by decide +kernel, by decide⟩
set_option maxRecDepth 20000 in
theorem mv_X11_token : Cond.instanceMethod yX11_token ∈ rx_T ∧ Cond.selects yX11_token.cls yX11_token yX11_token ∈ rx_T := ⟨rx_c6 132 rfl rfl, rx_p4 (n := 68) 6 rfl⟩
set_option maxRecDepth 20000 in
theorem mm_X11_cut : rx_m mX11_cut 0 := ⟨by decide +kernel, rx_c6 125 rfl rfl, rx_c1 16 rfl rfl, by decide +kernel, by decide⟩
set_option maxRecDepth 20000 in
theorem mv_X11_cut : Cond.instanceMethod yX11_cut ∈ rx_T ∧ Cond.selects yX11_cut.cls yX11_cut yX11_cut ∈ rx_T := ⟨rx_c6 124 rfl rfl, rx_p4 (n := 68) 4 rfl⟩
set_option maxRecDepth 20000 in
theorem mm_X11_sign : rx_m mX11_sign 3 := ⟨by decide +kernel, rx_c6 143 rfl rfl, rx_c1 16 rfl rfl, by decide +kernel, by decide⟩
set_option maxRecDepth 20000 in
theorem mv_X11_sign : Cond.instanceMethod yX11_sign ∈ rx_T ∧ Cond.selects yX11_sign.cls yX11_sign yX11_sign ∈ rx_T := ⟨rx_c6 142 rfl rfl, rx_p4 (n := 68) 7 rfl⟩
set_option maxRecDepth 20000 in
theorem mm_X11_is : rx_m mX11_is 1 := ⟨by decide +kernel, rx_c6 147 rfl rfl, rx_c1 16 rfl rfl, by decide +kernel, by decide⟩
set_option maxRecDepth 20000 in
theorem mv_X11_is : Cond.instanceMethod yX11_is ∈ rx_T ∧ Cond.selects yX11_is.cls yX11_is yX11_is ∈ rx_T := ⟨rx_c6 146 rfl rfl, rx_p4 (n := 68) 8 rfl⟩
set_option maxRecDepth 20000 in
theorem mm_X11_fail : rx_m mX11_fail 1 := ⟨by decide +kernel, rx_c6 159 rfl rfl, rx_c1 16 rfl rfl, by decide +kernel, by decide⟩
set_option maxRecDepth 20000 in
theorem mv_X11_fail : Cond.instanceMethod yX11_fail ∈ rx_T ∧ Cond.selects yX11_fail.cls yX11_fail yX11_fail ∈ rx_T := ⟨rx_c6 158 rfl rfl, rx_p4 (n := 68) 11 rfl⟩
set_option maxRecDepth 20000 in
theorem mm_X11_wrong : rx_m mX11_wrong 2 := ⟨by decide +kernel, rx_c6 179 rfl rfl, rx_c1 16 rfl rfl, by decide +kernel, by decide⟩
set_option maxRecDepth 20000 in
theorem mv_X11_wrong : Cond.instanceMethod yX11_wrong ∈ rx_T ∧ Cond.selects yX11_wrong.cls yX11_wrong yX11_wrong ∈ rx_T := ⟨rx_c6 178 rfl rfl, rx_p5 (n := 68) 0 rfl⟩
set_option maxRecDepth 20000 in
theorem mm_X11_goesOn : rx_m mX11_goesOn 0 := ⟨by decide +kernel, rx_c6 163 rfl rfl, rx_c1 16 rfl rfl, by decide +kernel, by decide⟩
set_option maxRecDepth 20000 in
theorem mv_X11_goesOn : Cond.instanceMethod yX11_goesOn ∈ rx_T ∧ Cond.selects yX11_goesOn.cls yX11_goesOn yX11_goesOn ∈ rx_T := ⟨rx_c6 162 rfl rfl, rx_p4 (n := 68) 12 rfl⟩
set_option maxRecDepth 20000 in
theorem mm_X11_must : rx_m mX11_must 1 := ⟨by decide +kernel, rx_c6 175 rfl rfl, rx_c1 16 rfl rfl, by decide +kernel, by decide⟩
set_option maxRecDepth 20000 in
theorem mv_X11_must : Cond.instanceMethod yX11_must ∈ rx_T ∧ Cond.selects yX11_must.cls yX11_must yX11_must ∈ rx_T := ⟨rx_c6 174 rfl rfl, rx_p4 (n := 68) 15 rfl⟩
set_option maxRecDepth 20000 in
theorem mm_X11_plain : rx_m mX11_plain 1 := ⟨by decide +kernel, rx_c5 126 rfl rfl, rx_c1 16 rfl rfl, by decide +kernel, by decide⟩
set_option maxRecDepth 20000 in
theorem mv_X11_plain : Cond.instanceMethod yX11_plain ∈ rx_T ∧ Cond.selects yX11_plain.cls yX11_plain yX11_plain ∈ rx_T := ⟨rx_c5 125 rfl rfl, rx_p4 (n := 68) 0 rfl⟩
set_option maxRecDepth 20000 in
theorem mm_X11_read : rx_m mX11_read 0 := ⟨by decide +kernel, rx_c6 121 rfl rfl, rx_c1 16 rfl rfl, by decide +kernel, by decide⟩
set_option maxRecDepth 20000 in
theorem mv_X11_read : Cond.instanceMethod yX11_read ∈ rx_T ∧ Cond.selects yX11_read.cls yX11_read yX11_read ∈ rx_T := ⟨rx_c6 119 rfl rfl, rx_c6 120 rfl rfl⟩
set_option maxRecDepth 20000 in
theorem mm_X11_place : rx_m mX11_place 0 := ⟨by decide +kernel, rx_c6 227 rfl rfl, rx_c1 16 rfl rfl, by decide +kernel, by decide⟩
set_option maxRecDepth 20000 in
theorem mv_X11_place : Cond.instanceMethod yX11_place ∈ rx_T ∧ Cond.selects yX11_place.cls yX11_place yX11_place ∈ rx_T := ⟨rx_c6 225 rfl rfl, rx_c6 226 rfl rfl⟩
set_option maxRecDepth 20000 in
theorem mm_X11_roomFor : rx_m mX11_roomFor 2 := ⟨by decide +kernel, rx_c6 155 rfl rfl, rx_c1 16 rfl rfl, by decide +kernel, by decide⟩
set_option maxRecDepth 20000 in
theorem mv_X11_roomFor : Cond.instanceMethod yX11_roomFor ∈ rx_T ∧ Cond.selects yX11_roomFor.cls yX11_roomFor yX11_roomFor ∈ rx_T := ⟨rx_c6 154 rfl rfl, rx_p4 (n := 68) 10 rfl⟩
set_option maxRecDepth 20000 in
theorem mm_X11_tellOne : rx_m mX11_tellOne 0 := ⟨by decide +kernel, rx_c6 151 rfl rfl, rx_c1 16 rfl rfl, by decide +kernel, by decide⟩
set_option maxRecDepth 20000 in
theorem mv_X11_tellOne : Cond.instanceMethod yX11_tellOne ∈ rx_T ∧ Cond.selects yX11_tellOne.cls yX11_tellOne yX11_tellOne ∈ rx_T := ⟨rx_c6 150 rfl rfl, rx_p4 (n := 68) 9 rfl⟩
set_option maxRecDepth 20000 in
theorem mm_X11_named : rx_m mX11_named 0 := ⟨by decide +kernel, rx_c6 171 rfl rfl, rx_c1 16 rfl rfl, by decide +kernel, by decide⟩
set_option maxRecDepth 20000 in
theorem mv_X11_named : Cond.instanceMethod yX11_named ∈ rx_T ∧ Cond.selects yX11_named.cls yX11_named yX11_named ∈ rx_T := ⟨rx_c6 170 rfl rfl, rx_p4 (n := 68) 14 rfl⟩
set_option maxRecDepth 20000 in
theorem mm_X11_ends : rx_m mX11_ends 2 := ⟨by decide +kernel, rx_c6 187 rfl rfl, rx_c1 16 rfl rfl, by decide +kernel, by decide⟩
set_option maxRecDepth 20000 in
theorem mv_X11_ends : Cond.instanceMethod yX11_ends ∈ rx_T ∧ Cond.selects yX11_ends.cls yX11_ends yX11_ends ∈ rx_T := ⟨rx_c6 186 rfl rfl, rx_p5 (n := 68) 2 rfl⟩
set_option maxRecDepth 20000 in
theorem mm_X11_knownSpouse : rx_m mX11_knownSpouse 0 := ⟨by decide +kernel, rx_c6 195 rfl rfl, rx_c1 16 rfl rfl, by decide +kernel, by decide⟩
set_option maxRecDepth 20000 in
theorem mv_X11_knownSpouse : Cond.instanceMethod yX11_knownSpouse ∈ rx_T ∧ Cond.selects yX11_knownSpouse.cls yX11_knownSpouse yX11_knownSpouse ∈ rx_T := ⟨rx_c6 194 rfl rfl, rx_p5 (n := 68) 4 rfl⟩
set_option maxRecDepth 20000 in
theorem mm_X11_bounded : rx_m mX11_bounded 2 := ⟨by decide +kernel, rx_c6 183 rfl rfl, rx_c1 16 rfl rfl, by decide +kernel, by decide⟩
set_option maxRecDepth 20000 in
theorem mv_X11_bounded : Cond.instanceMethod yX11_bounded ∈ rx_T ∧ Cond.selects yX11_bounded.cls yX11_bounded yX11_bounded ∈ rx_T := ⟨rx_c6 182 rfl rfl, rx_p5 (n := 68) 1 rfl⟩
set_option maxRecDepth 20000 in
theorem mm_X11_tellSpouse : rx_m mX11_tellSpouse 0 := ⟨by decide +kernel, rx_c6 167 rfl rfl, rx_c1 16 rfl rfl, by decide +kernel, by decide⟩
set_option maxRecDepth 20000 in
theorem mv_X11_tellSpouse : Cond.instanceMethod yX11_tellSpouse ∈ rx_T ∧ Cond.selects yX11_tellSpouse.cls yX11_tellSpouse yX11_tellSpouse ∈ rx_T := ⟨rx_c6 166 rfl rfl, rx_p4 (n := 68) 13 rfl⟩
set_option maxRecDepth 20000 in
theorem mm_X11_tellCouple : rx_m mX11_tellCouple 0 := ⟨by decide +kernel, rx_c6 191 rfl rfl, rx_c1 16 rfl rfl, by decide +kernel, by decide⟩
set_option maxRecDepth 20000 in
theorem mv_X11_tellCouple : Cond.instanceMethod yX11_tellCouple ∈ rx_T ∧ Cond.selects yX11_tellCouple.cls yX11_tellCouple yX11_tellCouple ∈ rx_T := ⟨rx_c6 190 rfl rfl, rx_p5 (n := 68) 3 rfl⟩
set_option maxRecDepth 20000 in
theorem mm_X11_tellThird : rx_m mX11_tellThird 0 := ⟨by decide +kernel, rx_c6 199 rfl rfl, rx_c1 16 rfl rfl, by decide +kernel, by decide⟩
set_option maxRecDepth 20000 in
theorem mv_X11_tellThird : Cond.instanceMethod yX11_tellThird ∈ rx_T ∧ Cond.selects yX11_tellThird.cls yX11_tellThird yX11_tellThird ∈ rx_T := ⟨rx_c6 198 rfl rfl, rx_p5 (n := 68) 5 rfl⟩
set_option maxRecDepth 20000 in
theorem mm_X11_tellLaw : rx_m mX11_tellLaw 1 := ⟨by decide +kernel, rx_c6 203 rfl rfl, rx_c1 16 rfl rfl, by decide +kernel, by decide⟩
set_option maxRecDepth 20000 in
theorem mv_X11_tellLaw : Cond.instanceMethod yX11_tellLaw ∈ rx_T ∧ Cond.selects yX11_tellLaw.cls yX11_tellLaw yX11_tellLaw ∈ rx_T := ⟨rx_c6 202 rfl rfl, rx_p5 (n := 68) 6 rfl⟩
set_option maxRecDepth 20000 in
theorem mm_X11_term : rx_m mX11_term 0 := ⟨by decide +kernel, rx_c6 223 rfl rfl, rx_c1 16 rfl rfl, by decide +kernel, by decide⟩
set_option maxRecDepth 20000 in
theorem mv_X11_term : Cond.instanceMethod yX11_term ∈ rx_T ∧ Cond.selects yX11_term.cls yX11_term yX11_term ∈ rx_T := ⟨rx_c6 222 rfl rfl, rx_p5 (n := 68) 11 rfl⟩
set_option maxRecDepth 20000 in
theorem mm_X11_emit : rx_m mX11_emit 2 := ⟨by decide +kernel, rx_c6 215 rfl rfl, rx_c1 16 rfl rfl, by decide +kernel, by decide⟩
set_option maxRecDepth 20000 in
theorem mv_X11_emit : Cond.instanceMethod yX11_emit ∈ rx_T ∧ Cond.selects yX11_emit.cls yX11_emit yX11_emit ∈ rx_T := ⟨rx_c6 214 rfl rfl, rx_p5 (n := 68) 9 rfl⟩
set_option maxRecDepth 20000 in
theorem mm_X11_comesOut : rx_m mX11_comesOut 1 := ⟨by decide +kernel, rx_c6 219 rfl rfl, rx_c1 16 rfl rfl, by decide +kernel, by decide⟩
set_option maxRecDepth 20000 in
theorem mv_X11_comesOut : Cond.instanceMethod yX11_comesOut ∈ rx_T ∧ Cond.selects yX11_comesOut.cls yX11_comesOut yX11_comesOut ∈ rx_T := ⟨rx_c6 218 rfl rfl, rx_p5 (n := 68) 10 rfl⟩
set_option maxRecDepth 20000 in
theorem mm_X11_expression : rx_m mX11_expression 0 := ⟨by decide +kernel, rx_c6 207 rfl rfl, rx_c1 16 rfl rfl, by decide +kernel, by decide⟩
set_option maxRecDepth 20000 in
theorem mv_X11_expression : Cond.instanceMethod yX11_expression ∈ rx_T ∧ Cond.selects yX11_expression.cls yX11_expression yX11_expression ∈ rx_T := ⟨rx_c6 206 rfl rfl, rx_p5 (n := 68) 7 rfl⟩
set_option maxRecDepth 20000 in
theorem mm_X11_unit : rx_m mX11_unit 0 := ⟨by decide +kernel, rx_c6 211 rfl rfl, rx_c1 16 rfl rfl, by decide +kernel, by decide⟩
set_option maxRecDepth 20000 in
theorem mv_X11_unit : Cond.instanceMethod yX11_unit ∈ rx_T ∧ Cond.selects yX11_unit.cls yX11_unit yX11_unit ∈ rx_T := ⟨rx_c6 210 rfl rfl, rx_p5 (n := 68) 8 rfl⟩
set_option maxRecDepth 20000 in
theorem mm_X11_termOf : rx_m mX11_termOf 2 := ⟨by decide +kernel, rx_c7 22 rfl rfl, rx_c1 16 rfl rfl, by decide +kernel, by decide⟩
set_option maxRecDepth 20000 in
theorem mv_X11_termOf : Cond.instanceMethod yX11_termOf ∈ rx_T ∧ Cond.selects yX11_termOf.cls yX11_termOf yX11_termOf ∈ rx_T := ⟨rx_c7 21 rfl rfl, rx_p6 (n := 68) 2 rfl⟩
set_option maxRecDepth 20000 in
theorem mm_X11_in : rx_m mX11_in 3 := ⟨by decide +kernel, rx_c6 238 rfl rfl, rx_c1 16 rfl rfl, by decide +kernel, by decide⟩
set_option maxRecDepth 20000 in
theorem ms_X11_in : Cond.static yX11_in ∈ rx_T := rx_c6 237 rfl rfl
set_option maxRecDepth 20000 in
theorem mm_X11_held : rx_m mX11_held 3 := ⟨by decide +kernel, rx_c7 25 rfl rfl, rx_c1 16 rfl rfl, by decide +kernel, by decide⟩
set_option maxRecDepth 20000 in
theorem ms_X11_held : Cond.static yX11_held ∈ rx_T := rx_c7 24 rfl rfl
set_option maxRecDepth 20000 in
theorem mm_X11_isSpouse : rx_m mX11_isSpouse 1 := ⟨by decide +kernel, rx_c6 235 rfl rfl, rx_c1 16 rfl rfl, by decide +kernel, by decide⟩
set_option maxRecDepth 20000 in
theorem mv_X11_isSpouse : Cond.instanceMethod yX11_isSpouse ∈ rx_T ∧ Cond.selects yX11_isSpouse.cls yX11_isSpouse yX11_isSpouse ∈ rx_T := ⟨rx_c6 234 rfl rfl, rx_p5 (n := 68) 12 rfl⟩
set_option maxRecDepth 20000 in
theorem mm_X11_isCouple : rx_m mX11_isCouple 1 := ⟨by decide +kernel, rx_c7 33 rfl rfl, rx_c1 16 rfl rfl, by decide +kernel, by decide⟩
set_option maxRecDepth 20000 in
theorem mv_X11_isCouple : Cond.instanceMethod yX11_isCouple ∈ rx_T ∧ Cond.selects yX11_isCouple.cls yX11_isCouple yX11_isCouple ∈ rx_T := ⟨rx_c7 32 rfl rfl, rx_p6 (n := 68) 3 rfl⟩
set_option maxRecDepth 20000 in
theorem mm_X11_isThird : rx_m mX11_isThird 1 := ⟨by decide +kernel, rx_c7 45 rfl rfl, rx_c1 16 rfl rfl, by decide +kernel, by decide⟩
set_option maxRecDepth 20000 in
theorem mv_X11_isThird : Cond.instanceMethod yX11_isThird ∈ rx_T ∧ Cond.selects yX11_isThird.cls yX11_isThird yX11_isThird ∈ rx_T := ⟨rx_c7 44 rfl rfl, rx_p6 (n := 68) 5 rfl⟩
set_option maxRecDepth 20000 in
theorem mm_X11_begins : rx_m mX11_begins 0 := ⟨by decide +kernel, rx_c5 137 rfl rfl, rx_c1 16 rfl rfl, by decide +kernel, by decide⟩
set_option maxRecDepth 20000 in
theorem mv_X11_begins : Cond.instanceMethod yX11_begins ∈ rx_T ∧ Cond.selects yX11_begins.cls yX11_begins yX11_begins ∈ rx_T := ⟨rx_c5 136 rfl rfl, rx_p4 (n := 68) 1 rfl⟩
set_option maxRecDepth 20000 in
theorem mm_X11_keepsRow : rx_m mX11_keepsRow 0 := ⟨by decide +kernel, rx_c5 141 rfl rfl, rx_c1 16 rfl rfl, by decide +kernel, by decide⟩
set_option maxRecDepth 20000 in
theorem mv_X11_keepsRow : Cond.instanceMethod yX11_keepsRow ∈ rx_T ∧ Cond.selects yX11_keepsRow.cls yX11_keepsRow yX11_keepsRow ∈ rx_T := ⟨rx_c5 140 rfl rfl, rx_p4 (n := 68) 2 rfl⟩
set_option maxRecDepth 20000 in
theorem mm_X11_copies : rx_m mX11_copies 0 := ⟨by decide +kernel, rx_c7 2 rfl rfl, rx_c1 16 rfl rfl, by decide +kernel, by decide⟩
set_option maxRecDepth 20000 in
theorem mv_X11_copies : Cond.instanceMethod yX11_copies ∈ rx_T ∧ Cond.selects yX11_copies.cls yX11_copies yX11_copies ∈ rx_T := ⟨rx_c7 1 rfl rfl, rx_p5 (n := 68) 13 rfl⟩
set_option maxRecDepth 20000 in
theorem mm_X11_mixed : rx_m mX11_mixed 2 := ⟨by decide +kernel, rx_c7 114 rfl rfl, rx_c1 16 rfl rfl, by decide +kernel, by decide⟩
set_option maxRecDepth 20000 in
theorem ms_X11_mixed : Cond.static yX11_mixed ∈ rx_T := rx_c7 113 rfl rfl
set_option maxRecDepth 20000 in
theorem mm_X11_lotOf : rx_m mX11_lotOf 1 := ⟨by decide +kernel, rx_c7 111 rfl rfl, rx_c1 16 rfl rfl, by decide +kernel, by decide⟩
set_option maxRecDepth 20000 in
theorem mv_X11_lotOf : Cond.instanceMethod yX11_lotOf ∈ rx_T ∧ Cond.selects yX11_lotOf.cls yX11_lotOf yX11_lotOf ∈ rx_T := ⟨rx_c7 110 rfl rfl, rx_p7 (n := 68) 0 rfl⟩
set_option maxRecDepth 20000 in
theorem mm_X11_looks : rx_m mX11_looks 0 := ⟨by decide +kernel, rx_c7 14 rfl rfl, rx_c1 16 rfl rfl, by decide +kernel, by decide⟩
set_option maxRecDepth 20000 in
theorem mv_X11_looks : Cond.instanceMethod yX11_looks ∈ rx_T ∧ Cond.selects yX11_looks.cls yX11_looks yX11_looks ∈ rx_T := ⟨rx_c7 13 rfl rfl, rx_p6 (n := 68) 0 rfl⟩
set_option maxRecDepth 20000 in
theorem mm_X11_asks : rx_m mX11_asks 2 := ⟨by decide +kernel, rx_c7 18 rfl rfl, rx_c1 16 rfl rfl, by decide +kernel, by decide⟩
set_option maxRecDepth 20000 in
theorem mv_X11_asks : Cond.instanceMethod yX11_asks ∈ rx_T ∧ Cond.selects yX11_asks.cls yX11_asks yX11_asks ∈ rx_T := ⟨rx_c7 17 rfl rfl, rx_p6 (n := 68) 1 rfl⟩
set_option maxRecDepth 20000 in
theorem mm_X11_wordsIn : rx_m mX11_wordsIn 1 := ⟨by decide +kernel, rx_c7 93 rfl rfl, rx_c1 16 rfl rfl, by decide +kernel, by decide⟩
set_option maxRecDepth 20000 in
theorem ms_X11_wordsIn : Cond.static yX11_wordsIn ∈ rx_T := rx_c7 92 rfl rfl
set_option maxRecDepth 20000 in
theorem mm_X11_eights : rx_m mX11_eights 1 := ⟨by decide +kernel, rx_c7 103 rfl rfl, rx_c1 16 rfl rfl, by decide +kernel, by decide⟩
set_option maxRecDepth 20000 in
theorem ms_X11_eights : Cond.static yX11_eights ∈ rx_T := rx_c7 102 rfl rfl
set_option maxRecDepth 20000 in
theorem mm_X11_wordIn : rx_m mX11_wordIn 3 := ⟨by decide +kernel, rx_c7 100 rfl rfl, rx_c1 16 rfl rfl, by decide +kernel, by decide⟩
set_option maxRecDepth 20000 in
theorem ms_X11_wordIn : Cond.static yX11_wordIn ∈ rx_T := rx_c7 99 rfl rfl
set_option maxRecDepth 20000 in
theorem mm_X11_looksAtSpouse : rx_m mX11_looksAtSpouse 1 := ⟨by decide +kernel, rx_c7 10 rfl rfl, rx_c1 16 rfl rfl, by decide +kernel, by decide⟩
set_option maxRecDepth 20000 in
theorem mv_X11_looksAtSpouse : Cond.instanceMethod yX11_looksAtSpouse ∈ rx_T ∧ Cond.selects yX11_looksAtSpouse.cls yX11_looksAtSpouse yX11_looksAtSpouse ∈ rx_T := ⟨rx_c7 9 rfl rfl, rx_p5 (n := 68) 15 rfl⟩
set_option maxRecDepth 20000 in
theorem mm_X11_saidBy : rx_m mX11_saidBy 1 := ⟨by decide +kernel, rx_c7 6 rfl rfl, rx_c1 16 rfl rfl, by decide +kernel, by decide⟩
set_option maxRecDepth 20000 in
theorem mv_X11_saidBy : Cond.instanceMethod yX11_saidBy ∈ rx_T ∧ Cond.selects yX11_saidBy.cls yX11_saidBy yX11_saidBy ∈ rx_T := ⟨rx_c7 5 rfl rfl, rx_p5 (n := 68) 14 rfl⟩
set_option maxRecDepth 20000 in
theorem mm_X11_looksAtThird : rx_m mX11_looksAtThird 1 := ⟨by decide +kernel, rx_c7 58 rfl rfl, rx_c1 16 rfl rfl, by decide +kernel, by decide⟩
set_option maxRecDepth 20000 in
theorem mv_X11_looksAtThird : Cond.instanceMethod yX11_looksAtThird ∈ rx_T ∧ Cond.selects yX11_looksAtThird.cls yX11_looksAtThird yX11_looksAtThird ∈ rx_T := ⟨rx_c7 57 rfl rfl, rx_p6 (n := 68) 8 rfl⟩
set_option maxRecDepth 20000 in
theorem mm_X11_isDaring : rx_m mX11_isDaring 1 := ⟨by decide +kernel, rx_c7 54 rfl rfl, rx_c1 16 rfl rfl, by decide +kernel, by decide⟩
set_option maxRecDepth 20000 in
theorem mv_X11_isDaring : Cond.instanceMethod yX11_isDaring ∈ rx_T ∧ Cond.selects yX11_isDaring.cls yX11_isDaring yX11_isDaring ∈ rx_T := ⟨rx_c7 53 rfl rfl, rx_p6 (n := 68) 7 rfl⟩
set_option maxRecDepth 20000 in
theorem mm_X11_putAs : rx_m mX11_putAs 3 := ⟨by decide +kernel, rx_c7 107 rfl rfl, rx_c1 16 rfl rfl, by decide +kernel, by decide⟩
set_option maxRecDepth 20000 in
theorem mv_X11_putAs : Cond.instanceMethod yX11_putAs ∈ rx_T ∧ Cond.selects yX11_putAs.cls yX11_putAs yX11_putAs ∈ rx_T := ⟨rx_c7 106 rfl rfl, rx_p6 (n := 68) 15 rfl⟩
set_option maxRecDepth 20000 in
theorem mm_X11_dropsOf : rx_m mX11_dropsOf 1 := ⟨by decide +kernel, rx_c7 119 rfl rfl, rx_c1 16 rfl rfl, by decide +kernel, by decide⟩
set_option maxRecDepth 20000 in
theorem mv_X11_dropsOf : Cond.instanceMethod yX11_dropsOf ∈ rx_T ∧ Cond.selects yX11_dropsOf.cls yX11_dropsOf yX11_dropsOf ∈ rx_T := ⟨rx_c7 118 rfl rfl, rx_p7 (n := 68) 1 rfl⟩
set_option maxRecDepth 20000 in
theorem mm_X11_putBy : rx_m mX11_putBy 3 := ⟨by decide +kernel, rx_c7 97 rfl rfl, rx_c1 16 rfl rfl, by decide +kernel, by decide⟩
set_option maxRecDepth 20000 in
theorem mv_X11_putBy : Cond.instanceMethod yX11_putBy ∈ rx_T ∧ Cond.selects yX11_putBy.cls yX11_putBy yX11_putBy ∈ rx_T := ⟨rx_c7 96 rfl rfl, rx_p6 (n := 68) 14 rfl⟩
set_option maxRecDepth 20000 in
theorem mm_X11_moodBehind : rx_m mX11_moodBehind 2 := ⟨by decide +kernel, rx_c7 123 rfl rfl, rx_c1 16 rfl rfl, by decide +kernel, by decide⟩
set_option maxRecDepth 20000 in
theorem mv_X11_moodBehind : Cond.instanceMethod yX11_moodBehind ∈ rx_T ∧ Cond.selects yX11_moodBehind.cls yX11_moodBehind yX11_moodBehind ∈ rx_T := ⟨rx_c7 122 rfl rfl, rx_p7 (n := 68) 2 rfl⟩
set_option maxRecDepth 20000 in
theorem mm_X11_partnerIn : rx_m mX11_partnerIn 2 := ⟨by decide +kernel, rx_c7 37 rfl rfl, rx_c1 16 rfl rfl, by decide +kernel, by decide⟩
set_option maxRecDepth 20000 in
theorem mv_X11_partnerIn : Cond.instanceMethod yX11_partnerIn ∈ rx_T ∧ Cond.selects yX11_partnerIn.cls yX11_partnerIn yX11_partnerIn ∈ rx_T := ⟨rx_c7 36 rfl rfl, rx_p6 (n := 68) 4 rfl⟩
set_option maxRecDepth 20000 in
theorem mm_X11_speakerOf : rx_m mX11_speakerOf 1 := ⟨by decide +kernel, rx_c7 90 rfl rfl, rx_c1 16 rfl rfl, by decide +kernel, by decide⟩
set_option maxRecDepth 20000 in
theorem mv_X11_speakerOf : Cond.instanceMethod yX11_speakerOf ∈ rx_T ∧ Cond.selects yX11_speakerOf.cls yX11_speakerOf yX11_speakerOf ∈ rx_T := ⟨rx_c7 89 rfl rfl, rx_p6 (n := 68) 13 rfl⟩
set_option maxRecDepth 20000 in
theorem mm_X11_talks : rx_m mX11_talks 1 := ⟨by decide +kernel, rx_c7 86 rfl rfl, rx_c1 16 rfl rfl, by decide +kernel, by decide⟩
set_option maxRecDepth 20000 in
theorem mv_X11_talks : Cond.instanceMethod yX11_talks ∈ rx_T ∧ Cond.selects yX11_talks.cls yX11_talks yX11_talks ∈ rx_T := ⟨rx_c7 85 rfl rfl, rx_p6 (n := 68) 12 rfl⟩
set_option maxRecDepth 20000 in
theorem mm_X11_staysSilent : rx_m mX11_staysSilent 1 := ⟨by decide +kernel, rx_c7 127 rfl rfl, rx_c1 16 rfl rfl, by decide +kernel, by decide⟩
set_option maxRecDepth 20000 in
theorem mv_X11_staysSilent : Cond.instanceMethod yX11_staysSilent ∈ rx_T ∧ Cond.selects yX11_staysSilent.cls yX11_staysSilent yX11_staysSilent ∈ rx_T := ⟨rx_c7 126 rfl rfl, rx_p7 (n := 68) 3 rfl⟩
set_option maxRecDepth 20000 in
theorem mm_X11_hiredBy : rx_m mX11_hiredBy 1 := ⟨by decide +kernel, rx_c7 50 rfl rfl, rx_c1 16 rfl rfl, by decide +kernel, by decide⟩
set_option maxRecDepth 20000 in
theorem mv_X11_hiredBy : Cond.instanceMethod yX11_hiredBy ∈ rx_T ∧ Cond.selects yX11_hiredBy.cls yX11_hiredBy yX11_hiredBy ∈ rx_T := ⟨rx_c7 49 rfl rfl, rx_p6 (n := 68) 6 rfl⟩
set_option maxRecDepth 20000 in
theorem mm_X11_weekGoes : rx_m mX11_weekGoes 0 := ⟨by decide +kernel, rx_c7 82 rfl rfl, rx_c1 16 rfl rfl, by decide +kernel, by decide⟩
set_option maxRecDepth 20000 in
theorem mv_X11_weekGoes : Cond.instanceMethod yX11_weekGoes ∈ rx_T ∧ Cond.selects yX11_weekGoes.cls yX11_weekGoes yX11_weekGoes ∈ rx_T := ⟨rx_c7 81 rfl rfl, rx_p6 (n := 68) 11 rfl⟩
set_option maxRecDepth 20000 in
theorem mm_X11_goes : rx_m mX11_goes 1 := ⟨by decide +kernel, rx_c7 78 rfl rfl, rx_c1 16 rfl rfl, by decide +kernel, by decide⟩
set_option maxRecDepth 20000 in
theorem mv_X11_goes : Cond.instanceMethod yX11_goes ∈ rx_T ∧ Cond.selects yX11_goes.cls yX11_goes yX11_goes ∈ rx_T := ⟨rx_c7 77 rfl rfl, rx_p6 (n := 68) 10 rfl⟩
set_option maxRecDepth 20000 in
theorem mm_X11_spouse : rx_m mX11_spouse 2 := ⟨by decide +kernel, rx_c6 231 rfl rfl, rx_c1 16 rfl rfl, by decide +kernel, by decide⟩
set_option maxRecDepth 20000 in
theorem mv_X11_spouse : Cond.instanceMethod yX11_spouse ∈ rx_T ∧ Cond.selects yX11_spouse.cls yX11_spouse yX11_spouse ∈ rx_T := ⟨rx_c6 229 rfl rfl, rx_c6 230 rfl rfl⟩
set_option maxRecDepth 20000 in
theorem mm_X11_couple : rx_m mX11_couple 2 := ⟨by decide +kernel, rx_c7 29 rfl rfl, rx_c1 16 rfl rfl, by decide +kernel, by decide⟩
set_option maxRecDepth 20000 in
theorem mv_X11_couple : Cond.instanceMethod yX11_couple ∈ rx_T ∧ Cond.selects yX11_couple.cls yX11_couple yX11_couple ∈ rx_T := ⟨rx_c7 27 rfl rfl, rx_c7 28 rfl rfl⟩
set_option maxRecDepth 20000 in
theorem mm_X11_third : rx_m mX11_third 2 := ⟨by decide +kernel, rx_c7 41 rfl rfl, rx_c1 16 rfl rfl, by decide +kernel, by decide⟩
set_option maxRecDepth 20000 in
theorem mv_X11_third : Cond.instanceMethod yX11_third ∈ rx_T ∧ Cond.selects yX11_third.cls yX11_third yX11_third ∈ rx_T := ⟨rx_c7 39 rfl rfl, rx_c7 40 rfl rfl⟩
set_option maxRecDepth 20000 in
theorem mm_X11_keeps : rx_m mX11_keeps 0 := ⟨by decide +kernel, rx_c7 66 rfl rfl, rx_c1 16 rfl rfl, by decide +kernel, by decide⟩
set_option maxRecDepth 20000 in
theorem mv_X11_keeps : Cond.instanceMethod yX11_keeps ∈ rx_T ∧ Cond.selects yX11_keeps.cls yX11_keeps yX11_keeps ∈ rx_T := ⟨rx_c7 65 rfl rfl, rx_p6 (n := 68) 9 rfl⟩
set_option maxRecDepth 20000 in
theorem mm_X11_hire : rx_m mX11_hire 2 := ⟨by decide +kernel, rx_c7 62 rfl rfl, rx_c1 16 rfl rfl, by decide +kernel, by decide⟩
set_option maxRecDepth 20000 in
theorem mv_X11_hire : Cond.instanceMethod yX11_hire ∈ rx_T ∧ Cond.selects yX11_hire.cls yX11_hire yX11_hire ∈ rx_T := ⟨rx_c7 60 rfl rfl, rx_c7 61 rfl rfl⟩
set_option maxRecDepth 20000 in
theorem mm_X11_swear : rx_m mX11_swear 2 := ⟨by decide +kernel, rx_c7 70 rfl rfl, rx_c1 16 rfl rfl, by decide +kernel, by decide⟩
set_option maxRecDepth 20000 in
theorem mv_X11_swear : Cond.instanceMethod yX11_swear ∈ rx_T ∧ Cond.selects yX11_swear.cls yX11_swear yX11_swear ∈ rx_T := ⟨rx_c7 68 rfl rfl, rx_c7 69 rfl rfl⟩
set_option maxRecDepth 20000 in
theorem mm_X11_weeks : rx_m mX11_weeks 1 := ⟨by decide +kernel, rx_c7 74 rfl rfl, rx_c1 16 rfl rfl, by decide +kernel, by decide⟩
set_option maxRecDepth 20000 in
theorem mv_X11_weeks : Cond.instanceMethod yX11_weeks ∈ rx_T ∧ Cond.selects yX11_weeks.cls yX11_weeks yX11_weeks ∈ rx_T := ⟨rx_c7 72 rfl rfl, rx_c7 73 rfl rfl⟩
set_option maxRecDepth 20000 in
theorem mm_X11_undo : rx_m mX11_undo 0 := ⟨by decide +kernel, rx_c7 131 rfl rfl, rx_c1 16 rfl rfl, by decide +kernel, by decide⟩
set_option maxRecDepth 20000 in
theorem mv_X11_undo : Cond.instanceMethod yX11_undo ∈ rx_T ∧ Cond.selects yX11_undo.cls yX11_undo yX11_undo ∈ rx_T := ⟨rx_c7 129 rfl rfl, rx_c7 130 rfl rfl⟩
set_option maxRecDepth 20000 in
theorem mm_X11_isRow : rx_m mX11_isRow 1 := ⟨by decide +kernel, rx_c7 142 rfl rfl, rx_c1 16 rfl rfl, by decide +kernel, by decide⟩
set_option maxRecDepth 20000 in
theorem ms_X11_isRow : Cond.static yX11_isRow ∈ rx_T := rx_c7 141 rfl rfl
set_option maxRecDepth 20000 in
theorem mm_X11_bends : rx_m mX11_bends 3 := ⟨by decide +kernel, rx_c7 135 rfl rfl, rx_c1 16 rfl rfl, by decide +kernel, by decide⟩
set_option maxRecDepth 20000 in
theorem mv_X11_bends : Cond.instanceMethod yX11_bends ∈ rx_T ∧ Cond.selects yX11_bends.cls yX11_bends yX11_bends ∈ rx_T := ⟨rx_c7 133 rfl rfl, rx_c7 134 rfl rfl⟩
set_option maxRecDepth 20000 in
theorem mm_X11_heard : rx_m mX11_heard 2 := ⟨by decide +kernel, rx_c7 139 rfl rfl, rx_c1 16 rfl rfl, by decide +kernel, by decide⟩
set_option maxRecDepth 20000 in
theorem mv_X11_heard : Cond.instanceMethod yX11_heard ∈ rx_T ∧ Cond.selects yX11_heard.cls yX11_heard yX11_heard ∈ rx_T := ⟨rx_c7 137 rfl rfl, rx_c7 138 rfl rfl⟩
set_option maxRecDepth 20000 in
theorem mm_X11_chain : rx_m mX11_chain 3 := ⟨by decide +kernel, rx_c7 146 rfl rfl, rx_c1 16 rfl rfl, by decide +kernel, by decide⟩
set_option maxRecDepth 20000 in
theorem mv_X11_chain : Cond.instanceMethod yX11_chain ∈ rx_T ∧ Cond.selects yX11_chain.cls yX11_chain yX11_chain ∈ rx_T := ⟨rx_c7 144 rfl rfl, rx_c7 145 rfl rfl⟩
set_option maxRecDepth 20000 in
theorem mm_X11_fillsPut : rx_m mX11_fillsPut 1 := ⟨by decide +kernel, rx_c7 154 rfl rfl, rx_c1 16 rfl rfl, by decide +kernel, by decide⟩
set_option maxRecDepth 20000 in
theorem mv_X11_fillsPut : Cond.instanceMethod yX11_fillsPut ∈ rx_T ∧ Cond.selects yX11_fillsPut.cls yX11_fillsPut yX11_fillsPut ∈ rx_T := ⟨rx_c7 153 rfl rfl, rx_p7 (n := 68) 4 rfl⟩
set_option maxRecDepth 20000 in
theorem mm_X11_putWith : rx_m mX11_putWith 2 := ⟨by decide +kernel, rx_c7 158 rfl rfl, rx_c1 16 rfl rfl, by decide +kernel, by decide⟩
set_option maxRecDepth 20000 in
theorem mv_X11_putWith : Cond.instanceMethod yX11_putWith ∈ rx_T ∧ Cond.selects yX11_putWith.cls yX11_putWith yX11_putWith ∈ rx_T := ⟨rx_c7 157 rfl rfl, rx_p7 (n := 68) 5 rfl⟩
set_option maxRecDepth 20000 in
theorem mm_X11_say : rx_m mX11_say 2 := ⟨by decide +kernel, rx_c7 150 rfl rfl, rx_c1 16 rfl rfl, by decide +kernel, by decide⟩
set_option maxRecDepth 20000 in
theorem mv_X11_say : Cond.instanceMethod yX11_say ∈ rx_T ∧ Cond.selects yX11_say.cls yX11_say yX11_say ∈ rx_T := ⟨rx_c7 148 rfl rfl, rx_c7 149 rfl rfl⟩
set_option maxRecDepth 20000 in
theorem mm_X11_alteredOf : rx_m mX11_alteredOf 2 := ⟨by decide +kernel, rx_c7 170 rfl rfl, rx_c1 16 rfl rfl, by decide +kernel, by decide⟩
set_option maxRecDepth 20000 in
theorem mv_X11_alteredOf : Cond.instanceMethod yX11_alteredOf ∈ rx_T ∧ Cond.selects yX11_alteredOf.cls yX11_alteredOf yX11_alteredOf ∈ rx_T := ⟨rx_c7 169 rfl rfl, rx_p7 (n := 68) 7 rfl⟩
set_option maxRecDepth 20000 in
theorem mm_X11_losesBy : rx_m mX11_losesBy 3 := ⟨by decide +kernel, rx_c7 166 rfl rfl, rx_c1 16 rfl rfl, by decide +kernel, by decide⟩
set_option maxRecDepth 20000 in
theorem mv_X11_losesBy : Cond.instanceMethod yX11_losesBy ∈ rx_T ∧ Cond.selects yX11_losesBy.cls yX11_losesBy yX11_losesBy ∈ rx_T := ⟨rx_c7 165 rfl rfl, rx_p7 (n := 68) 6 rfl⟩
set_option maxRecDepth 20000 in
theorem mm_X11_loses : rx_m mX11_loses 3 := ⟨by decide +kernel, rx_c7 162 rfl rfl, rx_c1 16 rfl rfl, by decide +kernel, by decide⟩
set_option maxRecDepth 20000 in
theorem mv_X11_loses : Cond.instanceMethod yX11_loses ∈ rx_T ∧ Cond.selects yX11_loses.cls yX11_loses yX11_loses ∈ rx_T := ⟨rx_c7 160 rfl rfl, rx_c7 161 rfl rfl⟩
set_option maxRecDepth 20000 in
theorem mm_X11_least : rx_m mX11_least 1 := ⟨by decide +kernel, rx_c7 174 rfl rfl, rx_c1 16 rfl rfl, by decide +kernel, by decide⟩
set_option maxRecDepth 20000 in
theorem mv_X11_least : Cond.instanceMethod yX11_least ∈ rx_T ∧ Cond.selects yX11_least.cls yX11_least yX11_least ∈ rx_T := ⟨rx_c7 172 rfl rfl, rx_c7 173 rfl rfl⟩
set_option maxRecDepth 20000 in
theorem mm_X11_truest : rx_m mX11_truest 1 := ⟨by decide +kernel, rx_c7 178 rfl rfl, rx_c1 16 rfl rfl, by decide +kernel, by decide⟩
set_option maxRecDepth 20000 in
theorem mv_X11_truest : Cond.instanceMethod yX11_truest ∈ rx_T ∧ Cond.selects yX11_truest.cls yX11_truest yX11_truest ∈ rx_T := ⟨rx_c7 176 rfl rfl, rx_c7 177 rfl rfl⟩
set_option maxRecDepth 20000 in
theorem mm_X11_crooked : rx_m mX11_crooked 2 := ⟨by decide +kernel, rx_c7 182 rfl rfl, rx_c1 16 rfl rfl, by decide +kernel, by decide⟩
set_option maxRecDepth 20000 in
theorem mv_X11_crooked : Cond.instanceMethod yX11_crooked ∈ rx_T ∧ Cond.selects yX11_crooked.cls yX11_crooked yX11_crooked ∈ rx_T := ⟨rx_c7 180 rfl rfl, rx_c7 181 rfl rfl⟩
set_option maxRecDepth 20000 in
theorem mm_X11_altered : rx_m mX11_altered 2 := ⟨by decide +kernel, rx_c7 186 rfl rfl, rx_c1 16 rfl rfl, by decide +kernel, by decide⟩
set_option maxRecDepth 20000 in
theorem mv_X11_altered : Cond.instanceMethod yX11_altered ∈ rx_T ∧ Cond.selects yX11_altered.cls yX11_altered yX11_altered ∈ rx_T := ⟨rx_c7 184 rfl rfl, rx_c7 185 rfl rfl⟩
set_option maxRecDepth 20000 in
theorem mm_X11_takes : rx_m mX11_takes 2 := ⟨by decide +kernel, rx_c7 190 rfl rfl, rx_c1 16 rfl rfl, by decide +kernel, by decide⟩
set_option maxRecDepth 20000 in
theorem mv_X11_takes : Cond.instanceMethod yX11_takes ∈ rx_T ∧ Cond.selects yX11_takes.cls yX11_takes yX11_takes ∈ rx_T := ⟨rx_c7 188 rfl rfl, rx_c7 189 rfl rfl⟩
set_option maxRecDepth 20000 in
theorem mm_X11_fours : rx_m mX11_fours 1 := ⟨by decide +kernel, rx_c7 201 rfl rfl, rx_c1 16 rfl rfl, by decide +kernel, by decide⟩
set_option maxRecDepth 20000 in
theorem ms_X11_fours : Cond.static yX11_fours ∈ rx_T := rx_c7 200 rfl rfl
set_option maxRecDepth 20000 in
theorem mm_X11_sumBy : rx_m mX11_sumBy 1 := ⟨by decide +kernel, rx_c7 205 rfl rfl, rx_c1 16 rfl rfl, by decide +kernel, by decide⟩
set_option maxRecDepth 20000 in
theorem mv_X11_sumBy : Cond.instanceMethod yX11_sumBy ∈ rx_T ∧ Cond.selects yX11_sumBy.cls yX11_sumBy yX11_sumBy ∈ rx_T := ⟨rx_c7 204 rfl rfl, rx_p7 (n := 68) 9 rfl⟩
set_option maxRecDepth 20000 in
theorem mm_X11_fillsHire : rx_m mX11_fillsHire 0 := ⟨by decide +kernel, rx_c7 198 rfl rfl, rx_c1 16 rfl rfl, by decide +kernel, by decide⟩
set_option maxRecDepth 20000 in
theorem mv_X11_fillsHire : Cond.instanceMethod yX11_fillsHire ∈ rx_T ∧ Cond.selects yX11_fillsHire.cls yX11_fillsHire yX11_fillsHire ∈ rx_T := ⟨rx_c7 197 rfl rfl, rx_p7 (n := 68) 8 rfl⟩
set_option maxRecDepth 20000 in
theorem mm_X11_hires : rx_m mX11_hires 1 := ⟨by decide +kernel, rx_c7 194 rfl rfl, rx_c1 16 rfl rfl, by decide +kernel, by decide⟩
set_option maxRecDepth 20000 in
theorem mv_X11_hires : Cond.instanceMethod yX11_hires ∈ rx_T ∧ Cond.selects yX11_hires.cls yX11_hires yX11_hires ∈ rx_T := ⟨rx_c7 192 rfl rfl, rx_c7 193 rfl rfl⟩
set_option maxRecDepth 20000 in
theorem mm_X11_isLong : rx_m mX11_isLong 1 := ⟨by decide +kernel, rx_c7 212 rfl rfl, rx_c1 16 rfl rfl, by decide +kernel, by decide⟩
set_option maxRecDepth 20000 in
theorem ms_X11_isLong : Cond.static yX11_isLong ∈ rx_T := rx_c7 211 rfl rfl
set_option maxRecDepth 20000 in
theorem mm_X11_then : rx_m mX11_then 2 := ⟨by decide +kernel, rx_c7 209 rfl rfl, rx_c1 16 rfl rfl, by decide +kernel, by decide⟩
set_option maxRecDepth 20000 in
theorem mv_X11_then : Cond.instanceMethod yX11_then ∈ rx_T ∧ Cond.selects yX11_then.cls yX11_then yX11_then ∈ rx_T := ⟨rx_c7 207 rfl rfl, rx_c7 208 rfl rfl⟩
set_option maxRecDepth 20000 in
theorem mm_X11_paid : rx_m mX11_paid 3 := ⟨by decide +kernel, rx_c7 216 rfl rfl, rx_c1 16 rfl rfl, by decide +kernel, by decide⟩
set_option maxRecDepth 20000 in
theorem mv_X11_paid : Cond.instanceMethod yX11_paid ∈ rx_T ∧ Cond.selects yX11_paid.cls yX11_paid yX11_paid ∈ rx_T := ⟨rx_c7 214 rfl rfl, rx_c7 215 rfl rfl⟩
set_option maxRecDepth 20000 in
theorem mm_X11_parts : rx_m mX11_parts 1 := ⟨by decide +kernel, rx_c7 220 rfl rfl, rx_c1 16 rfl rfl, by decide +kernel, by decide⟩
set_option maxRecDepth 20000 in
theorem mv_X11_parts : Cond.instanceMethod yX11_parts ∈ rx_T ∧ Cond.selects yX11_parts.cls yX11_parts yX11_parts ∈ rx_T := ⟨rx_c7 218 rfl rfl, rx_c7 219 rfl rfl⟩
set_option maxRecDepth 20000 in
theorem mm_X11_fillsPaid : rx_m mX11_fillsPaid 2 := ⟨by decide +kernel, rx_c7 228 rfl rfl, rx_c1 16 rfl rfl, by decide +kernel, by decide⟩
set_option maxRecDepth 20000 in
theorem mv_X11_fillsPaid : Cond.instanceMethod yX11_fillsPaid ∈ rx_T ∧ Cond.selects yX11_fillsPaid.cls yX11_fillsPaid yX11_fillsPaid ∈ rx_T := ⟨rx_c7 227 rfl rfl, rx_p7 (n := 68) 10 rfl⟩
set_option maxRecDepth 20000 in
theorem mm_X11_isResting : rx_m mX11_isResting 1 := ⟨by decide +kernel, rx_c7 232 rfl rfl, rx_c1 16 rfl rfl, by decide +kernel, by decide⟩
set_option maxRecDepth 20000 in
theorem mv_X11_isResting : Cond.instanceMethod yX11_isResting ∈ rx_T ∧ Cond.selects yX11_isResting.cls yX11_isResting yX11_isResting ∈ rx_T := ⟨rx_c7 231 rfl rfl, rx_p7 (n := 68) 11 rfl⟩
set_option maxRecDepth 20000 in
theorem mm_X11_oaths : rx_m mX11_oaths 2 := ⟨by decide +kernel, rx_c7 224 rfl rfl, rx_c1 16 rfl rfl, by decide +kernel, by decide⟩
set_option maxRecDepth 20000 in
theorem mv_X11_oaths : Cond.instanceMethod yX11_oaths ∈ rx_T ∧ Cond.selects yX11_oaths.cls yX11_oaths yX11_oaths ∈ rx_T := ⟨rx_c7 222 rfl rfl, rx_c7 223 rfl rfl⟩
set_option maxRecDepth 20000 in
theorem mm_X11_year : rx_m mX11_year 3 := ⟨by decide +kernel, rx_c7 236 rfl rfl, rx_c1 16 rfl rfl, by decide +kernel, by decide⟩
set_option maxRecDepth 20000 in
theorem mv_X11_year : Cond.instanceMethod yX11_year ∈ rx_T ∧ Cond.selects yX11_year.cls yX11_year yX11_year ∈ rx_T := ⟨rx_c7 234 rfl rfl, rx_c7 235 rfl rfl⟩
set_option maxRecDepth 20000 in
theorem mm_X11_tell : rx_m mX11_tell 2 := ⟨by decide +kernel, rx_c8 0 rfl rfl, rx_c1 16 rfl rfl, by decide +kernel, by decide⟩
set_option maxRecDepth 20000 in
theorem mv_X11_tell : Cond.instanceMethod yX11_tell ∈ rx_T ∧ Cond.selects yX11_tell.cls yX11_tell yX11_tell ∈ rx_T := ⟨rx_c7 238 rfl rfl, rx_c7 239 rfl rfl⟩
set_option maxRecDepth 20000 in
theorem mm_X11_forget : rx_m mX11_forget 0 := ⟨by decide +kernel, rx_c8 4 rfl rfl, rx_c1 16 rfl rfl, by decide +kernel, by decide⟩
set_option maxRecDepth 20000 in
theorem mv_X11_forget : Cond.instanceMethod yX11_forget ∈ rx_T ∧ Cond.selects yX11_forget.cls yX11_forget yX11_forget ∈ rx_T := ⟨rx_c8 2 rfl rfl, rx_c8 3 rfl rfl⟩
set_option maxRecDepth 20000 in
theorem mm_X11_whoMay : rx_m mX11_whoMay 1 := ⟨by decide +kernel, rx_c8 12 rfl rfl, rx_c1 16 rfl rfl, by decide +kernel, by decide⟩
set_option maxRecDepth 20000 in
theorem mv_X11_whoMay : Cond.instanceMethod yX11_whoMay ∈ rx_T ∧ Cond.selects yX11_whoMay.cls yX11_whoMay yX11_whoMay ∈ rx_T := ⟨rx_c8 11 rfl rfl, rx_p7 (n := 68) 12 rfl⟩
set_option maxRecDepth 20000 in
theorem mm_X11_who : rx_m mX11_who 1 := ⟨by decide +kernel, rx_c8 8 rfl rfl, rx_c1 16 rfl rfl, by decide +kernel, by decide⟩
set_option maxRecDepth 20000 in
theorem mv_X11_who : Cond.instanceMethod yX11_who ∈ rx_T ∧ Cond.selects yX11_who.cls yX11_who yX11_who ∈ rx_T := ⟨rx_c8 6 rfl rfl, rx_c8 7 rfl rfl⟩
set_option maxRecDepth 20000 in
theorem mm_X11_worstOf : rx_m mX11_worstOf 2 := ⟨by decide +kernel, rx_c8 20 rfl rfl, rx_c1 16 rfl rfl, by decide +kernel, by decide⟩
set_option maxRecDepth 20000 in
theorem mv_X11_worstOf : Cond.instanceMethod yX11_worstOf ∈ rx_T ∧ Cond.selects yX11_worstOf.cls yX11_worstOf yX11_worstOf ∈ rx_T := ⟨rx_c8 19 rfl rfl, rx_p7 (n := 68) 13 rfl⟩
set_option maxRecDepth 20000 in
theorem mm_X11_ask : rx_m mX11_ask 1 := ⟨by decide +kernel, rx_c8 16 rfl rfl, rx_c1 16 rfl rfl, by decide +kernel, by decide⟩
set_option maxRecDepth 20000 in
theorem mv_X11_ask : Cond.instanceMethod yX11_ask ∈ rx_T ∧ Cond.selects yX11_ask.cls yX11_ask yX11_ask ∈ rx_T := ⟨rx_c8 14 rfl rfl, rx_c8 15 rfl rfl⟩
set_option maxRecDepth 20000 in
theorem mm_X11_hold : rx_m mX11_hold 1 := ⟨by decide +kernel, rx_c8 24 rfl rfl, rx_c1 16 rfl rfl, by decide +kernel, by decide⟩
set_option maxRecDepth 20000 in
theorem mv_X11_hold : Cond.instanceMethod yX11_hold ∈ rx_T ∧ Cond.selects yX11_hold.cls yX11_hold yX11_hold ∈ rx_T := ⟨rx_c8 22 rfl rfl, rx_c8 23 rfl rfl⟩
set_option maxRecDepth 20000 in
theorem mm_X11_restore : rx_m mX11_restore 1 := ⟨by decide +kernel, rx_c8 28 rfl rfl, rx_c1 16 rfl rfl, by decide +kernel, by decide⟩
set_option maxRecDepth 20000 in
theorem mv_X11_restore : Cond.instanceMethod yX11_restore ∈ rx_T ∧ Cond.selects yX11_restore.cls yX11_restore yX11_restore ∈ rx_T := ⟨rx_c8 26 rfl rfl, rx_c8 27 rfl rfl⟩
set_option maxRecDepth 20000 in
theorem mm_X11_sumNow : rx_m mX11_sumNow 2 := ⟨by decide +kernel, rx_c8 40 rfl rfl, rx_c1 16 rfl rfl, by decide +kernel, by decide⟩
set_option maxRecDepth 20000 in
theorem mv_X11_sumNow : Cond.instanceMethod yX11_sumNow ∈ rx_T ∧ Cond.selects yX11_sumNow.cls yX11_sumNow yX11_sumNow ∈ rx_T := ⟨rx_c8 39 rfl rfl, rx_p7 (n := 68) 15 rfl⟩
set_option maxRecDepth 20000 in
theorem mm_X11_bitsNow : rx_m mX11_bitsNow 2 := ⟨by decide +kernel, rx_c8 36 rfl rfl, rx_c1 16 rfl rfl, by decide +kernel, by decide⟩
set_option maxRecDepth 20000 in
theorem mv_X11_bitsNow : Cond.instanceMethod yX11_bitsNow ∈ rx_T ∧ Cond.selects yX11_bitsNow.cls yX11_bitsNow yX11_bitsNow ∈ rx_T := ⟨rx_c8 35 rfl rfl, rx_p7 (n := 68) 14 rfl⟩
set_option maxRecDepth 20000 in
theorem mm_X11_count : rx_m mX11_count 1 := ⟨by decide +kernel, rx_c8 32 rfl rfl, rx_c1 16 rfl rfl, by decide +kernel, by decide⟩
set_option maxRecDepth 20000 in
theorem mv_X11_count : Cond.instanceMethod yX11_count ∈ rx_T ∧ Cond.selects yX11_count.cls yX11_count yX11_count ∈ rx_T := ⟨rx_c8 30 rfl rfl, rx_c8 31 rfl rfl⟩
set_option maxRecDepth 20000 in
theorem lk_10_19 : rx_lk RX10 19 yX8_init := Or.inr ⟨"SpouseTalk", rx_d1 30 rfl⟩
set_option maxRecDepth 20000 in
theorem lk_8_11 : rx_lk RX8 11 yX2_init := Or.inr ⟨"SpouseTalk", rx_d1 36 rfl⟩
set_option maxRecDepth 20000 in
theorem lk_10_26 : rx_lk RX10 26 yX4_init := Or.inr ⟨"SpouseTalk", rx_d1 119 rfl⟩
set_option maxRecDepth 20000 in
theorem lk_4_11 : rx_lk RX4 11 yX9_init := Or.inl (rx_c1 125 rfl rfl)
set_option maxRecDepth 20000 in
theorem lk_9_37 : rx_lk RX9 37 yX9_withLetter := Or.inl (rx_c1 178 rfl rfl)
set_option maxRecDepth 20000 in
theorem lk_4_20 : rx_lk RX4 20 yX8_init := Or.inr ⟨"SpouseTalk", rx_d1 200 rfl⟩
set_option maxRecDepth 20000 in
theorem lk_10_37 : rx_lk RX10 37 yX3_init := Or.inr ⟨"SpouseTalk", rx_d1 236 rfl⟩
set_option maxRecDepth 20000 in
theorem lk_10_44 : rx_lk RX10 44 yX7_init := Or.inl (rx_c2 22 rfl rfl)
set_option maxRecDepth 20000 in
theorem lk_10_53 : rx_lk RX10 53 yX6_init := Or.inl (rx_c2 35 rfl rfl)
set_option maxRecDepth 20000 in
theorem lk_6_11 : rx_lk RX6 11 yX5_init := Or.inr ⟨"SpouseTalk", rx_d2 41 rfl⟩
set_option maxRecDepth 20000 in
theorem lk_10_62 : rx_lk RX10 62 yX0_init := Or.inl (rx_c2 74 rfl rfl)
set_option maxRecDepth 20000 in
theorem lk_10_69 : rx_lk RX10 69 yX1_init := Or.inl (rx_c2 93 rfl rfl)
set_option maxRecDepth 20000 in
theorem lk_10_74 : rx_lk RX10 74 yX8_clear := Or.inl (rx_c2 114 rfl rfl)
set_option maxRecDepth 20000 in
theorem lk_8_34 : rx_lk RX8 34 yX2_clear := Or.inl (rx_c2 118 rfl rfl)
set_option maxRecDepth 20000 in
theorem lk_2_28 : rx_lk RX2 28 yX2_begin := Or.inl (rx_c2 122 rfl rfl)
set_option maxRecDepth 20000 in
theorem lk_2_32 : rx_lk RX2 32 yX2_usual := Or.inl (rx_c2 126 rfl rfl)
set_option maxRecDepth 20000 in
theorem lk_2_36 : rx_lk RX2 36 yX2_add := Or.inl (rx_c2 129 rfl rfl)
set_option maxRecDepth 20000 in
theorem lk_10_77 : rx_lk RX10 77 yX8_begin := Or.inl (rx_c2 133 rfl rfl)
set_option maxRecDepth 20000 in
theorem lk_10_84 : rx_lk RX10 84 yX10_addBytes := Or.inl (rx_c2 175 rfl rfl)
set_option maxRecDepth 20000 in
theorem lk_10_88 : rx_lk RX10 88 yX4_readTape := Or.inl (rx_c2 187 rfl rfl)
set_option maxRecDepth 20000 in
theorem lk_4_33 : rx_lk RX4 33 yX9_cut := Or.inl (rx_c2 191 rfl rfl)
set_option maxRecDepth 20000 in
theorem lk_9_43 : Cond.methodLink RX9 43 Lib.Math.min.name ∈ rx_T := rx_c2 195 rfl rfl
set_option maxRecDepth 20000 in
theorem lk_9_53 : rx_lk RX9 53 yX9_blanksEnd := Or.inl (rx_c2 198 rfl rfl)
set_option maxRecDepth 20000 in
theorem lk_9_63 : rx_lk RX9 63 yX9_isBlank := Or.inl (rx_c2 201 rfl rfl)
set_option maxRecDepth 20000 in
theorem lk_9_57 : rx_lk RX9 57 yX9_tokenEnd := Or.inl (rx_c2 204 rfl rfl)
set_option maxRecDepth 20000 in
theorem lk_9_67 : rx_lk RX9 67 yX9_isLetter := Or.inl (rx_c2 207 rfl rfl)
set_option maxRecDepth 20000 in
theorem lk_9_70 : rx_lk RX9 70 yX9_isDigit := Or.inl (rx_c2 210 rfl rfl)
set_option maxRecDepth 20000 in
theorem lk_9_60 : rx_lk RX9 60 yX9_kindOf := Or.inl (rx_c2 213 rfl rfl)
set_option maxRecDepth 20000 in
theorem lk_9_73 : rx_lk RX9 73 yX9_wordKind := Or.inl (rx_c2 217 rfl rfl)
set_option maxRecDepth 20000 in
theorem lk_9_76 : rx_lk RX9 76 yX9_numberKind := Or.inl (rx_c2 221 rfl rfl)
set_option maxRecDepth 20000 in
theorem lk_4_37 : rx_lk RX4 37 yX8_clear := Or.inl (rx_c3 43 rfl rfl)
set_option maxRecDepth 20000 in
theorem lk_4_56 : rx_lk RX4 56 yX9_kindAt := Or.inl (rx_c3 44 rfl rfl)
set_option maxRecDepth 20000 in
theorem lk_4_60 : rx_lk RX4 60 yX4_readLaw := Or.inl (rx_c3 48 rfl rfl)
set_option maxRecDepth 20000 in
theorem lk_4_73 : rx_lk RX4 73 yX4_take := Or.inl (rx_c3 52 rfl rfl)
set_option maxRecDepth 20000 in
theorem lk_4_155 : rx_lk RX4 155 yX2_begin := Or.inl (rx_c3 56 rfl rfl)
set_option maxRecDepth 20000 in
theorem lk_4_104 : rx_lk RX4 104 yX4_refuse := Or.inl (rx_c3 57 rfl rfl)
set_option maxRecDepth 20000 in
theorem lk_4_160 : rx_lk RX4 160 yX4_readSum := Or.inl (rx_c3 61 rfl rfl)
set_option maxRecDepth 20000 in
theorem lk_4_169 : rx_lk RX4 169 yX4_readProduct := Or.inl (rx_c3 65 rfl rfl)
set_option maxRecDepth 20000 in
theorem lk_4_172 : rx_lk RX4 172 yX4_readUnit := Or.inl (rx_c3 69 rfl rfl)
set_option maxRecDepth 20000 in
theorem lk_4_76 : rx_lk RX4 76 yX4_taken := Or.inl (rx_c3 73 rfl rfl)
set_option maxRecDepth 20000 in
theorem lk_4_84 : rx_lk RX4 84 yX9_valueAt := Or.inl (rx_c3 77 rfl rfl)
set_option maxRecDepth 20000 in
theorem lk_4_163 : rx_lk RX4 163 yX2_add := Or.inl (rx_c3 81 rfl rfl)
set_option maxRecDepth 20000 in
theorem lk_4_166 : rx_lk RX4 166 yX2_jumpHere := Or.inl (rx_c3 82 rfl rfl)
set_option maxRecDepth 20000 in
theorem lk_4_64 : rx_lk RX4 64 yX4_readFact := Or.inl (rx_c3 86 rfl rfl)
set_option maxRecDepth 20000 in
theorem lk_4_88 : rx_lk RX4 88 yX4_readSpouse := Or.inl (rx_c3 90 rfl rfl)
set_option maxRecDepth 20000 in
theorem lk_4_110 : rx_lk RX4 110 yX4_takeNewName := Or.inl (rx_c3 94 rfl rfl)
set_option maxRecDepth 20000 in
theorem lk_4_126 : rx_lk RX4 126 yX4_findName := Or.inl (rx_c3 98 rfl rfl)
set_option maxRecDepth 20000 in
theorem lk_4_80 : rx_lk RX4 80 yX4_blame := Or.inl (rx_c3 102 rfl rfl)
set_option maxRecDepth 20000 in
theorem lk_4_67 : rx_lk RX4 67 yX9_placeOf := Or.inl (rx_c3 106 rfl rfl)
set_option maxRecDepth 20000 in
theorem lk_4_113 : rx_lk RX4 113 yX4_takeNumber := Or.inl (rx_c3 110 rfl rfl)
set_option maxRecDepth 20000 in
theorem lk_4_116 : rx_lk RX4 116 yX8_addSpouse := Or.inl (rx_c3 114 rfl rfl)
set_option maxRecDepth 20000 in
theorem lk_4_92 : rx_lk RX4 92 yX4_readCouple := Or.inl (rx_c3 118 rfl rfl)
set_option maxRecDepth 20000 in
theorem lk_4_133 : rx_lk RX4 133 yX4_namedSpouse := Or.inl (rx_c3 122 rfl rfl)
set_option maxRecDepth 20000 in
theorem lk_4_139 : rx_lk RX4 139 yX8_hasSpouse := Or.inl (rx_c3 126 rfl rfl)
set_option maxRecDepth 20000 in
theorem lk_4_136 : rx_lk RX4 136 yX8_addCouple := Or.inl (rx_c3 130 rfl rfl)
set_option maxRecDepth 20000 in
theorem lk_8_63 : rx_lk RX8 63 yX8_hasSpouse := Or.inl (rx_c3 134 rfl rfl)
set_option maxRecDepth 20000 in
theorem lk_4_95 : rx_lk RX4 95 yX4_readThird := Or.inl (rx_c3 135 rfl rfl)
set_option maxRecDepth 20000 in
theorem lk_4_122 : rx_lk RX4 122 yX8_addThird := Or.inl (rx_c3 139 rfl rfl)
set_option maxRecDepth 20000 in
theorem lk_4_98 : rx_lk RX4 98 yX4_readFine := Or.inl (rx_c3 143 rfl rfl)
set_option maxRecDepth 20000 in
theorem lk_4_101 : rx_lk RX4 101 yX4_readSeed := Or.inl (rx_c3 147 rfl rfl)
set_option maxRecDepth 20000 in
theorem lk_10_96 : rx_lk RX10 96 yX8_copy := Or.inl (rx_c3 151 rfl rfl)
set_option maxRecDepth 20000 in
theorem lk_8_53 : rx_lk RX8 53 yX2_copy := Or.inl (rx_c3 155 rfl rfl)
set_option maxRecDepth 20000 in
theorem lk_2_39 : Cond.methodLink RX2 39 arraycopyName ∈ rx_T := rx_c3 159 rfl rfl
set_option maxRecDepth 20000 in
theorem lk_8_57 : Cond.methodLink RX8 57 arraycopyName ∈ rx_T := rx_c3 162 rfl rfl
set_option maxRecDepth 20000 in
theorem lk_10_99 : rx_lk RX10 99 yX3_forgetDone := Or.inl (rx_c3 163 rfl rfl)
set_option maxRecDepth 20000 in
theorem lk_10_102 : rx_lk RX10 102 yX3_emptySlots := Or.inl (rx_c3 167 rfl rfl)
set_option maxRecDepth 20000 in
theorem lk_10_105 : rx_lk RX10 105 yX1_clear := Or.inl (rx_c3 171 rfl rfl)
set_option maxRecDepth 20000 in
theorem lk_10_106 : rx_lk RX10 106 yX8_hasSpouse := Or.inl (rx_c3 183 rfl rfl)
set_option maxRecDepth 20000 in
theorem lk_10_113 : rx_lk RX10 113 yX7_rowOf := Or.inl (rx_c3 184 rfl rfl)
set_option maxRecDepth 20000 in
theorem lk_7_22 : rx_lk RX7 22 yX2_askIn := Or.inl (rx_c3 188 rfl rfl)
set_option maxRecDepth 20000 in
theorem lk_7_28 : rx_lk RX7 28 yX2_let := Or.inl (rx_c3 192 rfl rfl)
set_option maxRecDepth 20000 in
theorem lk_7_32 : rx_lk RX7 32 yX2_answer := Or.inl (rx_c3 196 rfl rfl)
set_option maxRecDepth 20000 in
theorem lk_7_36 : rx_lk RX7 36 yX10_within := Or.inr ⟨"SpouseTalk", rx_d3 200 rfl⟩
set_option maxRecDepth 20000 in
theorem lk_10_257 : Cond.methodLink RX10 257 Lib.Math.min.name ∈ rx_T := rx_c3 203 rfl rfl
set_option maxRecDepth 20000 in
theorem lk_10_262 : Cond.methodLink RX10 262 Lib.Math.max.name ∈ rx_T := rx_c3 204 rfl rfl
set_option maxRecDepth 20000 in
theorem lk_7_40 : rx_lk RX7 40 yX7_restOf := Or.inl (rx_c3 205 rfl rfl)
set_option maxRecDepth 20000 in
theorem lk_7_44 : rx_lk RX7 44 yX5_with := Or.inl (rx_c3 208 rfl rfl)
set_option maxRecDepth 20000 in
theorem lk_10_117 : rx_lk RX10 117 yX8_hasCouple := Or.inl (rx_c3 215 rfl rfl)
set_option maxRecDepth 20000 in
theorem lk_10_123 : rx_lk RX10 123 yX8_hasThird := Or.inl (rx_c3 223 rfl rfl)
set_option maxRecDepth 20000 in
theorem lk_10_130 : rx_lk RX10 130 yX10_couplesOf := Or.inl (rx_c3 228 rfl rfl)
set_option maxRecDepth 20000 in
theorem lk_10_134 : rx_lk RX10 134 yX7_isDaring := Or.inl (rx_c3 232 rfl rfl)
set_option maxRecDepth 20000 in
theorem lk_7_49 : rx_lk RX7 49 yX7_askAboutThird := Or.inl (rx_c3 236 rfl rfl)
set_option maxRecDepth 20000 in
theorem lk_10_147 : rx_lk RX10 147 yX10_bitsOf := Or.inl (rx_c4 4 rfl rfl)
set_option maxRecDepth 20000 in
theorem lk_10_157 : rx_lk RX10 157 yX3_heldCount := Or.inl (rx_c4 8 rfl rfl)
set_option maxRecDepth 20000 in
theorem lk_10_161 : rx_lk RX10 161 yX10_allMoods := Or.inl (rx_c4 12 rfl rfl)
set_option maxRecDepth 20000 in
theorem lk_10_164 : rx_lk RX10 164 yX3_remember := Or.inl (rx_c4 20 rfl rfl)
set_option maxRecDepth 20000 in
theorem lk_3_27 : Cond.methodLink RX3 27 arraycopyName ∈ rx_T := rx_c4 24 rfl rfl
set_option maxRecDepth 20000 in
theorem lk_3_36 : Cond.methodLink RX3 36 Lib.Math.min.name ∈ rx_T := rx_c4 25 rfl rfl
set_option maxRecDepth 20000 in
theorem lk_10_170 : rx_lk RX10 170 yX7_goThroughWeek := Or.inl (rx_c4 34 rfl rfl)
set_option maxRecDepth 20000 in
theorem lk_7_91 : rx_lk RX7 91 yX8_hasThird := Or.inl (rx_c4 38 rfl rfl)
set_option maxRecDepth 20000 in
theorem lk_7_95 : rx_lk RX7 95 yX7_speak := Or.inl (rx_c4 39 rfl rfl)
set_option maxRecDepth 20000 in
theorem lk_7_109 : rx_lk RX7 109 yX7_speakerOf := Or.inl (rx_c4 43 rfl rfl)
set_option maxRecDepth 20000 in
theorem lk_7_113 : rx_lk RX7 113 yX7_hearerOf := Or.inl (rx_c4 47 rfl rfl)
set_option maxRecDepth 20000 in
theorem lk_7_116 : rx_lk RX7 116 yX7_rowOf := Or.inl (rx_c4 51 rfl rfl)
set_option maxRecDepth 20000 in
theorem lk_7_119 : rx_lk RX7 119 yX7_dropsOf := Or.inl (rx_c4 52 rfl rfl)
set_option maxRecDepth 20000 in
theorem lk_7_67 : rx_lk RX7 67 yX7_carriedRow := Or.inl (rx_c4 56 rfl rfl)
set_option maxRecDepth 20000 in
theorem lk_7_57 : rx_lk RX7 57 yX7_isDaring := Or.inl (rx_c4 60 rfl rfl)
set_option maxRecDepth 20000 in
theorem lk_7_61 : rx_lk RX7 61 yX7_askToBend := Or.inl (rx_c4 61 rfl rfl)
set_option maxRecDepth 20000 in
theorem lk_7_71 : rx_lk RX7 71 yX5_size := Or.inl (rx_c4 65 rfl rfl)
set_option maxRecDepth 20000 in
theorem lk_7_74 : rx_lk RX7 74 yX5_wordAt := Or.inl (rx_c4 68 rfl rfl)
set_option maxRecDepth 20000 in
theorem lk_7_64 : rx_lk RX7 64 yX7_bentWord := Or.inl (rx_c4 71 rfl rfl)
set_option maxRecDepth 20000 in
theorem lk_7_77 : rx_lk RX7 77 yX7_lotOfHundred := Or.inl (rx_c4 75 rfl rfl)
set_option maxRecDepth 20000 in
theorem lk_7_80 : rx_lk RX7 80 yX7_mix := Or.inl (rx_c4 78 rfl rfl)
set_option maxRecDepth 20000 in
theorem lk_7_122 : rx_lk RX7 122 yX7_newLove := Or.inl (rx_c4 82 rfl rfl)
set_option maxRecDepth 20000 in
theorem lk_7_126 : rx_lk RX7 126 yX7_moodBehind := Or.inl (rx_c4 86 rfl rfl)
set_option maxRecDepth 20000 in
theorem lk_7_130 : Cond.methodLink RX7 130 Lib.Math.min.name ∈ rx_T := rx_c4 90 rfl rfl
set_option maxRecDepth 20000 in
theorem lk_7_99 : rx_lk RX7 99 yX7_keepSilent := Or.inl (rx_c4 91 rfl rfl)
set_option maxRecDepth 20000 in
theorem lk_7_138 : Cond.methodLink RX7 138 Lib.Math.max.name ∈ rx_T := rx_c4 95 rfl rfl
set_option maxRecDepth 20000 in
theorem lk_7_102 : rx_lk RX7 102 yX7_partIfSad := Or.inl (rx_c4 96 rfl rfl)
set_option maxRecDepth 20000 in
theorem lk_7_105 : rx_lk RX7 105 yX7_restThirds := Or.inl (rx_c4 100 rfl rfl)
set_option maxRecDepth 20000 in
theorem lk_10_174 : rx_lk RX10 174 yX3_takeBack := Or.inl (rx_c4 108 rfl rfl)
set_option maxRecDepth 20000 in
theorem lk_10_178 : rx_lk RX10 178 yX3_keep := Or.inl (rx_c4 116 rfl rfl)
set_option maxRecDepth 20000 in
theorem lk_3_42 : rx_lk RX3 42 yX3_isSlot := Or.inl (rx_c4 120 rfl rfl)
set_option maxRecDepth 20000 in
theorem lk_10_182 : rx_lk RX10 182 yX3_bringBack := Or.inl (rx_c4 127 rfl rfl)
set_option maxRecDepth 20000 in
theorem lk_10_185 : rx_lk RX10 185 yX10_isWord := Or.inl (rx_c4 135 rfl rfl)
set_option maxRecDepth 20000 in
theorem lk_10_188 : rx_lk RX10 188 yX10_isPlace := Or.inl (rx_c4 138 rfl rfl)
set_option maxRecDepth 20000 in
theorem lk_10_191 : rx_lk RX10 191 yX7_putWord := Or.inl (rx_c4 141 rfl rfl)
set_option maxRecDepth 20000 in
theorem lk_10_195 : rx_lk RX10 195 yX5_isRow := Or.inl (rx_c4 149 rfl rfl)
set_option maxRecDepth 20000 in
theorem lk_5_15 : rx_lk RX5 15 yX5_size := Or.inl (rx_c4 152 rfl rfl)
set_option maxRecDepth 20000 in
theorem lk_10_200 : rx_lk RX10 200 yX7_putRow := Or.inl (rx_c4 153 rfl rfl)
set_option maxRecDepth 20000 in
theorem lk_10_204 : rx_lk RX10 204 yX6_rowPutAs := Or.inl (rx_c4 165 rfl rfl)
set_option maxRecDepth 20000 in
theorem lk_6_61 : rx_lk RX6 61 yX7_putWord := Or.inl (rx_c4 169 rfl rfl)
set_option maxRecDepth 20000 in
theorem lk_6_64 : rx_lk RX6 64 yX6_markEnds := Or.inl (rx_c4 170 rfl rfl)
set_option maxRecDepth 20000 in
theorem lk_6_71 : rx_lk RX6 71 yX5_size := Or.inl (rx_c4 174 rfl rfl)
set_option maxRecDepth 20000 in
theorem lk_6_75 : rx_lk RX6 75 yX6_endAt := Or.inl (rx_c4 175 rfl rfl)
set_option maxRecDepth 20000 in
theorem lk_6_78 : rx_lk RX6 78 yX6_fittingWord := Or.inl (rx_c4 178 rfl rfl)
set_option maxRecDepth 20000 in
theorem lk_6_82 : rx_lk RX6 82 yX5_wordAt := Or.inl (rx_c4 182 rfl rfl)
set_option maxRecDepth 20000 in
theorem lk_6_68 : rx_lk RX6 68 yX6_leastRow := Or.inl (rx_c4 183 rfl rfl)
set_option maxRecDepth 20000 in
theorem lk_6_85 : rx_lk RX6 85 yX5_with := Or.inl (rx_c4 187 rfl rfl)
set_option maxRecDepth 20000 in
theorem lk_10_207 : rx_lk RX10 207 yX6_lostByTwo := Or.inl (rx_c4 192 rfl rfl)
set_option maxRecDepth 20000 in
theorem lk_6_40 : rx_lk RX6 40 yX7_putRow := Or.inl (rx_c4 196 rfl rfl)
set_option maxRecDepth 20000 in
theorem lk_6_46 : rx_lk RX6 46 yX5_changes := Or.inl (rx_c4 197 rfl rfl)
set_option maxRecDepth 20000 in
theorem lk_5_19 : rx_lk RX5 19 yX5_wordAt := Or.inl (rx_c4 201 rfl rfl)
set_option maxRecDepth 20000 in
theorem lk_5_23 : rx_lk RX5 23 yX5_goDown := Or.inl (rx_c4 202 rfl rfl)
set_option maxRecDepth 20000 in
theorem lk_5_27 : Cond.methodLink RX5 27 Lib.Math.min.name ∈ rx_T := rx_c4 206 rfl rfl
set_option maxRecDepth 20000 in
theorem lk_10_210 : rx_lk RX10 210 yX6_bestPair := Or.inl (rx_c4 211 rfl rfl)
set_option maxRecDepth 20000 in
theorem lk_6_57 : rx_lk RX6 57 yX6_lostByTwo := Or.inl (rx_c4 216 rfl rfl)
set_option maxRecDepth 20000 in
theorem lk_10_213 : rx_lk RX10 213 yX6_bestThird := Or.inl (rx_c4 221 rfl rfl)
set_option maxRecDepth 20000 in
theorem lk_10_220 : rx_lk RX10 220 yX5_changes := Or.inl (rx_c4 233 rfl rfl)
set_option maxRecDepth 20000 in
theorem lk_10_223 : rx_lk RX10 223 yX7_moodBehind := Or.inl (rx_c4 238 rfl rfl)
set_option maxRecDepth 20000 in
theorem lk_10_226 : rx_lk RX10 226 yX6_bestHire := Or.inl (rx_c5 3 rfl rfl)
set_option maxRecDepth 20000 in
theorem lk_6_88 : rx_lk RX6 88 yX6_fillLosses := Or.inl (rx_c5 7 rfl rfl)
set_option maxRecDepth 20000 in
theorem lk_6_101 : rx_lk RX6 101 yX7_speakerOf := Or.inl (rx_c5 11 rfl rfl)
set_option maxRecDepth 20000 in
theorem lk_6_105 : rx_lk RX6 105 yX7_rowOf := Or.inl (rx_c5 12 rfl rfl)
set_option maxRecDepth 20000 in
theorem lk_6_92 : rx_lk RX6 92 yX6_lossOf := Or.inl (rx_c5 13 rfl rfl)
set_option maxRecDepth 20000 in
theorem lk_6_108 : rx_lk RX6 108 yX6_choose := Or.inl (rx_c5 17 rfl rfl)
set_option maxRecDepth 20000 in
theorem lk_6_95 : rx_lk RX6 95 yX6_thirdFor := Or.inl (rx_c5 21 rfl rfl)
set_option maxRecDepth 20000 in
theorem lk_10_229 : rx_lk RX10 229 yX0_behind := Or.inl (rx_c5 29 rfl rfl)
set_option maxRecDepth 20000 in
theorem lk_0_26 : Cond.methodLink RX0 26 arraycopyName ∈ rx_T := rx_c5 33 rfl rfl
set_option maxRecDepth 20000 in
theorem lk_0_38 : rx_lk RX0 38 yX7_goThroughWeek := Or.inl (rx_c5 34 rfl rfl)
set_option maxRecDepth 20000 in
theorem lk_10_233 : rx_lk RX10 233 yX0_weeksToPart := Or.inl (rx_c5 43 rfl rfl)
set_option maxRecDepth 20000 in
theorem lk_10_236 : rx_lk RX10 236 yX0_tryOaths := Or.inl (rx_c5 51 rfl rfl)
set_option maxRecDepth 20000 in
theorem lk_10_240 : rx_lk RX10 240 yX0_restingOaths := Or.inl (rx_c5 55 rfl rfl)
set_option maxRecDepth 20000 in
theorem lk_0_47 : rx_lk RX0 47 yX0_isResting := Or.inl (rx_c5 59 rfl rfl)
set_option maxRecDepth 20000 in
theorem lk_10_243 : rx_lk RX10 243 yX5_size := Or.inl (rx_c5 71 rfl rfl)
set_option maxRecDepth 20000 in
theorem lk_10_245 : rx_lk RX10 245 yX1_add := Or.inl (rx_c5 72 rfl rfl)
set_option maxRecDepth 20000 in
theorem lk_10_248 : rx_lk RX10 248 yX1_isKnown := Or.inl (rx_c5 84 rfl rfl)
set_option maxRecDepth 20000 in
theorem lk_10_251 : rx_lk RX10 251 yX1_candidates := Or.inl (rx_c5 88 rfl rfl)
set_option maxRecDepth 20000 in
theorem lk_1_35 : rx_lk RX1 35 yX1_mayHave := Or.inl (rx_c5 92 rfl rfl)
set_option maxRecDepth 20000 in
theorem lk_1_39 : rx_lk RX1 39 yX7_putWord := Or.inl (rx_c5 96 rfl rfl)
set_option maxRecDepth 20000 in
theorem lk_1_45 : rx_lk RX1 45 yX5_with := Or.inl (rx_c5 97 rfl rfl)
set_option maxRecDepth 20000 in
theorem lk_10_254 : rx_lk RX10 254 yX1_bestWord := Or.inl (rx_c5 102 rfl rfl)
set_option maxRecDepth 20000 in
theorem lk_1_51 : rx_lk RX1 51 yX1_candidates := Or.inl (rx_c5 106 rfl rfl)
set_option maxRecDepth 20000 in
theorem lk_1_56 : rx_lk RX1 56 yX1_mostLeft := Or.inl (rx_c5 108 rfl rfl)
set_option maxRecDepth 20000 in
theorem lk_1_60 : rx_lk RX1 60 yX1_leftBy := Or.inl (rx_c5 112 rfl rfl)
set_option maxRecDepth 20000 in
theorem lk_1_63 : Cond.methodLink RX1 63 Lib.Math.max.name ∈ rx_T := rx_c5 116 rfl rfl
set_option maxRecDepth 20000 in
theorem lk_11_152 : rx_lk RX11 152 yX11_plain := Or.inl (rx_c5 123 rfl rfl)
set_option maxRecDepth 20000 in
theorem lk_11_156 : rx_lk RX11 156 yX11_word := Or.inl (rx_c5 127 rfl rfl)
set_option maxRecDepth 20000 in
theorem lk_11_177 : rx_lk RX11 177 yX11_appends := Or.inl (rx_c5 130 rfl rfl)
set_option maxRecDepth 20000 in
theorem lk_11_160 : rx_lk RX11 160 yX11_begins := Or.inl (rx_c5 134 rfl rfl)
set_option maxRecDepth 20000 in
theorem lk_11_163 : rx_lk RX11 163 yX11_keepsRow := Or.inl (rx_c5 138 rfl rfl)
set_option maxRecDepth 20000 in
theorem lk_11_169 : rx_lk RX11 169 yX11_put := Or.inl (rx_c6 110 rfl rfl)
set_option maxRecDepth 20000 in
theorem lk_11_227 : rx_lk RX11 227 yX11_cut := Or.inl (rx_c6 122 rfl rfl)
set_option maxRecDepth 20000 in
theorem lk_11_184 : rx_lk RX11 184 yX11_byteAt := Or.inl (rx_c6 126 rfl rfl)
set_option maxRecDepth 20000 in
theorem lk_11_188 : rx_lk RX11 188 yX11_token := Or.inl (rx_c6 130 rfl rfl)
set_option maxRecDepth 20000 in
theorem lk_11_192 : rx_lk RX11 192 yX11_isLetter := Or.inl (rx_c6 134 rfl rfl)
set_option maxRecDepth 20000 in
theorem lk_11_196 : rx_lk RX11 196 yX11_isDigit := Or.inl (rx_c6 137 rfl rfl)
set_option maxRecDepth 20000 in
theorem lk_11_199 : rx_lk RX11 199 yX11_sign := Or.inl (rx_c6 140 rfl rfl)
set_option maxRecDepth 20000 in
theorem lk_11_221 : rx_lk RX11 221 yX11_is := Or.inl (rx_c6 144 rfl rfl)
set_option maxRecDepth 20000 in
theorem lk_11_248 : rx_lk RX11 248 yX11_tellOne := Or.inl (rx_c6 148 rfl rfl)
set_option maxRecDepth 20000 in
theorem lk_11_257 : rx_lk RX11 257 yX11_roomFor := Or.inl (rx_c6 152 rfl rfl)
set_option maxRecDepth 20000 in
theorem lk_11_218 : rx_lk RX11 218 yX11_fail := Or.inl (rx_c6 156 rfl rfl)
set_option maxRecDepth 20000 in
theorem lk_11_224 : rx_lk RX11 224 yX11_goesOn := Or.inl (rx_c6 160 rfl rfl)
set_option maxRecDepth 20000 in
theorem lk_11_261 : rx_lk RX11 261 yX11_tellSpouse := Or.inl (rx_c6 164 rfl rfl)
set_option maxRecDepth 20000 in
theorem lk_11_283 : rx_lk RX11 283 yX11_named := Or.inl (rx_c6 168 rfl rfl)
set_option maxRecDepth 20000 in
theorem lk_11_274 : rx_lk RX11 274 yX11_must := Or.inl (rx_c6 172 rfl rfl)
set_option maxRecDepth 20000 in
theorem lk_11_280 : rx_lk RX11 280 yX11_wrong := Or.inl (rx_c6 176 rfl rfl)
set_option maxRecDepth 20000 in
theorem lk_11_270 : rx_lk RX11 270 yX11_bounded := Or.inl (rx_c6 180 rfl rfl)
set_option maxRecDepth 20000 in
theorem lk_11_287 : rx_lk RX11 287 yX11_ends := Or.inl (rx_c6 184 rfl rfl)
set_option maxRecDepth 20000 in
theorem lk_11_264 : rx_lk RX11 264 yX11_tellCouple := Or.inl (rx_c6 188 rfl rfl)
set_option maxRecDepth 20000 in
theorem lk_11_290 : rx_lk RX11 290 yX11_knownSpouse := Or.inl (rx_c6 192 rfl rfl)
set_option maxRecDepth 20000 in
theorem lk_11_267 : rx_lk RX11 267 yX11_tellThird := Or.inl (rx_c6 196 rfl rfl)
set_option maxRecDepth 20000 in
theorem lk_11_277 : rx_lk RX11 277 yX11_tellLaw := Or.inl (rx_c6 200 rfl rfl)
set_option maxRecDepth 20000 in
theorem lk_11_293 : rx_lk RX11 293 yX11_expression := Or.inl (rx_c6 204 rfl rfl)
set_option maxRecDepth 20000 in
theorem lk_11_305 : rx_lk RX11 305 yX11_unit := Or.inl (rx_c6 208 rfl rfl)
set_option maxRecDepth 20000 in
theorem lk_11_302 : rx_lk RX11 302 yX11_emit := Or.inl (rx_c6 212 rfl rfl)
set_option maxRecDepth 20000 in
theorem lk_11_308 : rx_lk RX11 308 yX11_comesOut := Or.inl (rx_c6 216 rfl rfl)
set_option maxRecDepth 20000 in
theorem lk_11_296 : rx_lk RX11 296 yX11_term := Or.inl (rx_c6 220 rfl rfl)
set_option maxRecDepth 20000 in
theorem lk_11_393 : rx_lk RX11 393 yX11_isSpouse := Or.inl (rx_c6 232 rfl rfl)
set_option maxRecDepth 20000 in
theorem lk_11_316 : rx_lk RX11 316 yX11_in := Or.inl (rx_c6 236 rfl rfl)
set_option maxRecDepth 20000 in
theorem lk_11_396 : rx_lk RX11 396 yX11_copies := Or.inl (rx_c6 239 rfl rfl)
set_option maxRecDepth 20000 in
theorem lk_11_372 : rx_lk RX11 372 yX11_saidBy := Or.inl (rx_c7 3 rfl rfl)
set_option maxRecDepth 20000 in
theorem lk_11_336 : rx_lk RX11 336 yX11_looksAtSpouse := Or.inl (rx_c7 7 rfl rfl)
set_option maxRecDepth 20000 in
theorem lk_11_333 : rx_lk RX11 333 yX11_looks := Or.inl (rx_c7 11 rfl rfl)
set_option maxRecDepth 20000 in
theorem lk_11_339 : rx_lk RX11 339 yX11_asks := Or.inl (rx_c7 15 rfl rfl)
set_option maxRecDepth 20000 in
theorem lk_11_327 : rx_lk RX11 327 yX11_termOf := Or.inl (rx_c7 19 rfl rfl)
set_option maxRecDepth 20000 in
theorem lk_11_342 : rx_lk RX11 342 yX11_held := Or.inl (rx_c7 23 rfl rfl)
set_option maxRecDepth 20000 in
theorem lk_11_399 : rx_lk RX11 399 yX11_isCouple := Or.inl (rx_c7 30 rfl rfl)
set_option maxRecDepth 20000 in
theorem lk_11_366 : rx_lk RX11 366 yX11_partnerIn := Or.inl (rx_c7 34 rfl rfl)
set_option maxRecDepth 20000 in
theorem lk_11_402 : rx_lk RX11 402 yX11_isThird := Or.inl (rx_c7 42 rfl rfl)
set_option maxRecDepth 20000 in
theorem lk_11_387 : rx_lk RX11 387 yX11_hiredBy := Or.inl (rx_c7 47 rfl rfl)
set_option maxRecDepth 20000 in
theorem lk_11_348 : rx_lk RX11 348 yX11_isDaring := Or.inl (rx_c7 51 rfl rfl)
set_option maxRecDepth 20000 in
theorem lk_11_345 : rx_lk RX11 345 yX11_looksAtThird := Or.inl (rx_c7 55 rfl rfl)
set_option maxRecDepth 20000 in
theorem lk_11_406 : rx_lk RX11 406 yX11_keeps := Or.inl (rx_c7 63 rfl rfl)
set_option maxRecDepth 20000 in
theorem lk_11_409 : rx_lk RX11 409 yX11_goes := Or.inl (rx_c7 75 rfl rfl)
set_option maxRecDepth 20000 in
theorem lk_11_390 : rx_lk RX11 390 yX11_weekGoes := Or.inl (rx_c7 79 rfl rfl)
set_option maxRecDepth 20000 in
theorem lk_11_381 : rx_lk RX11 381 yX11_talks := Or.inl (rx_c7 83 rfl rfl)
set_option maxRecDepth 20000 in
theorem lk_11_369 : rx_lk RX11 369 yX11_speakerOf := Or.inl (rx_c7 87 rfl rfl)
set_option maxRecDepth 20000 in
theorem lk_11_351 : rx_lk RX11 351 yX11_wordsIn := Or.inl (rx_c7 91 rfl rfl)
set_option maxRecDepth 20000 in
theorem lk_11_375 : rx_lk RX11 375 yX11_putBy := Or.inl (rx_c7 94 rfl rfl)
set_option maxRecDepth 20000 in
theorem lk_11_354 : rx_lk RX11 354 yX11_wordIn := Or.inl (rx_c7 98 rfl rfl)
set_option maxRecDepth 20000 in
theorem lk_11_330 : rx_lk RX11 330 yX11_eights := Or.inl (rx_c7 101 rfl rfl)
set_option maxRecDepth 20000 in
theorem lk_11_357 : rx_lk RX11 357 yX11_putAs := Or.inl (rx_c7 104 rfl rfl)
set_option maxRecDepth 20000 in
theorem lk_11_360 : rx_lk RX11 360 yX11_lotOf := Or.inl (rx_c7 108 rfl rfl)
set_option maxRecDepth 20000 in
theorem lk_11_324 : rx_lk RX11 324 yX11_mixed := Or.inl (rx_c7 112 rfl rfl)
set_option maxRecDepth 20000 in
theorem lk_11_363 : rx_lk RX11 363 yX11_dropsOf := Or.inl (rx_c7 116 rfl rfl)
set_option maxRecDepth 20000 in
theorem lk_11_378 : rx_lk RX11 378 yX11_moodBehind := Or.inl (rx_c7 120 rfl rfl)
set_option maxRecDepth 20000 in
theorem lk_11_384 : rx_lk RX11 384 yX11_staysSilent := Or.inl (rx_c7 124 rfl rfl)
set_option maxRecDepth 20000 in
theorem lk_11_412 : rx_lk RX11 412 yX11_isRow := Or.inl (rx_c7 140 rfl rfl)
set_option maxRecDepth 20000 in
theorem lk_11_415 : rx_lk RX11 415 yX11_fillsPut := Or.inl (rx_c7 151 rfl rfl)
set_option maxRecDepth 20000 in
theorem lk_11_418 : rx_lk RX11 418 yX11_putWith := Or.inl (rx_c7 155 rfl rfl)
set_option maxRecDepth 20000 in
theorem lk_11_424 : rx_lk RX11 424 yX11_losesBy := Or.inl (rx_c7 163 rfl rfl)
set_option maxRecDepth 20000 in
theorem lk_11_421 : rx_lk RX11 421 yX11_alteredOf := Or.inl (rx_c7 167 rfl rfl)
set_option maxRecDepth 20000 in
theorem lk_11_442 : rx_lk RX11 442 yX11_fillsHire := Or.inl (rx_c7 195 rfl rfl)
set_option maxRecDepth 20000 in
theorem lk_11_430 : rx_lk RX11 430 yX11_fours := Or.inl (rx_c7 199 rfl rfl)
set_option maxRecDepth 20000 in
theorem lk_11_436 : rx_lk RX11 436 yX11_sumBy := Or.inl (rx_c7 202 rfl rfl)
set_option maxRecDepth 20000 in
theorem lk_11_445 : rx_lk RX11 445 yX11_isLong := Or.inl (rx_c7 210 rfl rfl)
set_option maxRecDepth 20000 in
theorem lk_11_448 : rx_lk RX11 448 yX11_fillsPaid := Or.inl (rx_c7 225 rfl rfl)
set_option maxRecDepth 20000 in
theorem lk_11_451 : rx_lk RX11 451 yX11_isResting := Or.inl (rx_c7 229 rfl rfl)
set_option maxRecDepth 20000 in
theorem lk_11_454 : rx_lk RX11 454 yX11_whoMay := Or.inl (rx_c8 9 rfl rfl)
set_option maxRecDepth 20000 in
theorem lk_11_457 : rx_lk RX11 457 yX11_worstOf := Or.inl (rx_c8 17 rfl rfl)
set_option maxRecDepth 20000 in
theorem lk_11_460 : rx_lk RX11 460 yX11_bitsNow := Or.inl (rx_c8 33 rfl rfl)
set_option maxRecDepth 20000 in
theorem lk_11_463 : rx_lk RX11 463 yX11_sumNow := Or.inl (rx_c8 37 rfl rfl)
set_option maxRecDepth 20000 in
theorem w_copy : Cond.native arraycopyName ∈ rx_T ∧ Cond.static arraycopyName ∈ rx_T ∧ Cond.initialized "java/lang/System" ∈ rx_T := ⟨rx_c3 161 rfl rfl, rx_c3 160 rfl rfl, rx_c1 19 rfl rfl⟩
set_option maxRecDepth 20000 in
theorem w_max : Cond.static Lib.Math.max.name ∈ rx_T ∧ Cond.initialized "java/lang/Math" ∈ rx_T ∧ Cond.code Lib.Math.max.name Lib.Math.max.code 2 (some .int) ∈ rx_T := ⟨rx_c3 2 rfl rfl, rx_c1 17 rfl rfl, rx_c3 3 rfl rfl⟩
set_option maxRecDepth 20000 in
theorem w_min : Cond.static Lib.Math.min.name ∈ rx_T ∧ Cond.initialized "java/lang/Math" ∈ rx_T ∧ Cond.code Lib.Math.min.name Lib.Math.min.code 2 (some .int) ∈ rx_T := ⟨rx_c2 196 rfl rfl, rx_c1 17 rfl rfl, rx_c2 197 rfl rfl⟩
set_option maxRecDepth 20000 in
theorem ct_9_41 : Cond.constantLong RX9 41 (32) ∈ rx_T := rx_c1 181 rfl rfl
set_option maxRecDepth 20000 in
theorem ct_10_126 : Cond.constant RX10 126 (-100000) ∈ rx_T := rx_c3 227 rfl rfl
set_option maxRecDepth 20000 in
theorem ct_7_83 : Cond.constant RX7 83 (1103515245) ∈ rx_T := rx_c4 81 rfl rfl
set_option maxRecDepth 20000 in
theorem ct_6_50 : Cond.constant RX6 50 (1000000) ∈ rx_T := rx_c4 215 rfl rfl
set_option maxRecDepth 20000 in
theorem ct_1_55 : Cond.constant RX1 55 (1000000) ∈ rx_T := rx_c5 107 rfl rfl
set_option maxRecDepth 20000 in
theorem ct_11_175 : Cond.constantLong RX11 175 (27) ∈ rx_T := rx_c5 133 rfl rfl
set_option maxRecDepth 20000 in
theorem ct_11_405 : Cond.constant RX11 405 (-100000) ∈ rx_T := rx_c7 46 rfl rfl
set_option maxRecDepth 20000 in
theorem ct_11_323 : Cond.constant RX11 323 (1103515245) ∈ rx_T := rx_c7 115 rfl rfl
set_option maxRecDepth 20000 in
theorem dk_0 : rx_at gC 0 (10, 0, [some 1, none, none, some 2, some 13, some 32, some 33, some 80, some 81, some 88, some 91]) := ⟨⟨by decide, by decide⟩, rfl⟩
set_option maxRecDepth 20000 in
theorem dk_1 : rx_at gC 1 (12, 2000, []) := ⟨⟨by decide, by decide⟩, rfl⟩
set_option maxRecDepth 20000 in
theorem dk_2 : rx_at gC 2 (8, 0, [some 3, some 8, some 9, some 10, some 11, some 12, none, none, none, none, none]) := ⟨⟨by decide, by decide⟩, rfl⟩
set_option maxRecDepth 20000 in
theorem dk_3 : rx_at gC 3 (2, 0, [some 4, some 5, some 6, some 7, none]) := ⟨⟨by decide, by decide⟩, rfl⟩
set_option maxRecDepth 20000 in
theorem dk_4 : rx_at gC 4 (13, 420, []) := ⟨⟨by decide, by decide⟩, rfl⟩
set_option maxRecDepth 20000 in
theorem dk_5 : rx_at gC 5 (13, 7, []) := ⟨⟨by decide, by decide⟩, rfl⟩
set_option maxRecDepth 20000 in
theorem dk_6 : rx_at gC 6 (13, 20, []) := ⟨⟨by decide, by decide⟩, rfl⟩
set_option maxRecDepth 20000 in
theorem dk_7 : rx_at gC 7 (13, 9, []) := ⟨⟨by decide, by decide⟩, rfl⟩
set_option maxRecDepth 20000 in
theorem dk_8 : rx_at gC 8 (13, 6, []) := ⟨⟨by decide, by decide⟩, rfl⟩
set_option maxRecDepth 20000 in
theorem dk_9 : rx_at gC 9 (13, 6, []) := ⟨⟨by decide, by decide⟩, rfl⟩
set_option maxRecDepth 20000 in
theorem dk_10 : rx_at gC 10 (13, 6, []) := ⟨⟨by decide, by decide⟩, rfl⟩
set_option maxRecDepth 20000 in
theorem dk_11 : rx_at gC 11 (13, 4, []) := ⟨⟨by decide, by decide⟩, rfl⟩
set_option maxRecDepth 20000 in
theorem dk_12 : rx_at gC 12 (13, 4, []) := ⟨⟨by decide, by decide⟩, rfl⟩
set_option maxRecDepth 20000 in
theorem dk_13 : rx_at gC 13 (4, 0, [some 14, some 19, some 30, some 31, none, none, none, none, none, none]) := ⟨⟨by decide, by decide⟩, rfl⟩
set_option maxRecDepth 20000 in
theorem dk_14 : rx_at gC 14 (9, 0, [some 15, some 16, some 17, some 18, none]) := ⟨⟨by decide, by decide⟩, rfl⟩
set_option maxRecDepth 20000 in
theorem dk_15 : rx_at gC 15 (14, 24, []) := ⟨⟨by decide, by decide⟩, rfl⟩
set_option maxRecDepth 20000 in
theorem dk_16 : rx_at gC 16 (13, 401, []) := ⟨⟨by decide, by decide⟩, rfl⟩
set_option maxRecDepth 20000 in
theorem dk_17 : rx_at gC 17 (13, 401, []) := ⟨⟨by decide, by decide⟩, rfl⟩
set_option maxRecDepth 20000 in
theorem dk_18 : rx_at gC 18 (14, 401, []) := ⟨⟨by decide, by decide⟩, rfl⟩
set_option maxRecDepth 20000 in
theorem dk_19 : rx_at gC 19 (8, 0, [some 20, some 25, some 26, some 27, some 28, some 29, none, none, none, none, none]) := ⟨⟨by decide, by decide⟩, rfl⟩
set_option maxRecDepth 20000 in
theorem dk_20 : rx_at gC 20 (2, 0, [some 21, some 22, some 23, some 24, none]) := ⟨⟨by decide, by decide⟩, rfl⟩
set_option maxRecDepth 20000 in
theorem dk_21 : rx_at gC 21 (13, 420, []) := ⟨⟨by decide, by decide⟩, rfl⟩
set_option maxRecDepth 20000 in
theorem dk_22 : rx_at gC 22 (13, 7, []) := ⟨⟨by decide, by decide⟩, rfl⟩
set_option maxRecDepth 20000 in
theorem dk_23 : rx_at gC 23 (13, 20, []) := ⟨⟨by decide, by decide⟩, rfl⟩
set_option maxRecDepth 20000 in
theorem dk_24 : rx_at gC 24 (13, 9, []) := ⟨⟨by decide, by decide⟩, rfl⟩
set_option maxRecDepth 20000 in
theorem dk_25 : rx_at gC 25 (13, 6, []) := ⟨⟨by decide, by decide⟩, rfl⟩
set_option maxRecDepth 20000 in
theorem dk_26 : rx_at gC 26 (13, 6, []) := ⟨⟨by decide, by decide⟩, rfl⟩
set_option maxRecDepth 20000 in
theorem dk_27 : rx_at gC 27 (13, 6, []) := ⟨⟨by decide, by decide⟩, rfl⟩
set_option maxRecDepth 20000 in
theorem dk_28 : rx_at gC 28 (13, 4, []) := ⟨⟨by decide, by decide⟩, rfl⟩
set_option maxRecDepth 20000 in
theorem dk_29 : rx_at gC 29 (13, 4, []) := ⟨⟨by decide, by decide⟩, rfl⟩
set_option maxRecDepth 20000 in
theorem dk_30 : rx_at gC 30 (14, 10, []) := ⟨⟨by decide, by decide⟩, rfl⟩
set_option maxRecDepth 20000 in
theorem dk_31 : rx_at gC 31 (13, 10, []) := ⟨⟨by decide, by decide⟩, rfl⟩
set_option maxRecDepth 20000 in
theorem dk_32 : rx_at gC 32 (13, 48, []) := ⟨⟨by decide, by decide⟩, rfl⟩
set_option maxRecDepth 20000 in
theorem dk_33 : rx_at gC 33 (3, 0, [some 34, some 75, some 79, none, none]) := ⟨⟨by decide, by decide⟩, rfl⟩
set_option maxRecDepth 20000 in
theorem dk_34 : rx_at gC 34 (16, 40, [some 35, some 36, some 37, some 38, some 39, some 40, some 41, some 42, some 43, some 44, some 45, some 46, some 47, some 48, some 49, some 50, some 51, some 52, some 53, some 54, some 55, some 56, some 57, some 58, some 59, some 60, some 61, some 62, some 63, some 64, some 65, some 66, some 67, some 68, some 69, some 70, some 71, some 72, some 73, some 74]) := ⟨⟨by decide, by decide⟩, rfl⟩
set_option maxRecDepth 20000 in
theorem dk_35 : rx_at gC 35 (13, 48, []) := ⟨⟨by decide, by decide⟩, rfl⟩
set_option maxRecDepth 20000 in
theorem dk_36 : rx_at gC 36 (13, 48, []) := ⟨⟨by decide, by decide⟩, rfl⟩
set_option maxRecDepth 20000 in
theorem dk_37 : rx_at gC 37 (13, 48, []) := ⟨⟨by decide, by decide⟩, rfl⟩
set_option maxRecDepth 20000 in
theorem dk_38 : rx_at gC 38 (13, 48, []) := ⟨⟨by decide, by decide⟩, rfl⟩
set_option maxRecDepth 20000 in
theorem dk_39 : rx_at gC 39 (13, 48, []) := ⟨⟨by decide, by decide⟩, rfl⟩
set_option maxRecDepth 20000 in
theorem dk_40 : rx_at gC 40 (13, 48, []) := ⟨⟨by decide, by decide⟩, rfl⟩
set_option maxRecDepth 20000 in
theorem dk_41 : rx_at gC 41 (13, 48, []) := ⟨⟨by decide, by decide⟩, rfl⟩
set_option maxRecDepth 20000 in
theorem dk_42 : rx_at gC 42 (13, 48, []) := ⟨⟨by decide, by decide⟩, rfl⟩
set_option maxRecDepth 20000 in
theorem dk_43 : rx_at gC 43 (13, 48, []) := ⟨⟨by decide, by decide⟩, rfl⟩
set_option maxRecDepth 20000 in
theorem dk_44 : rx_at gC 44 (13, 48, []) := ⟨⟨by decide, by decide⟩, rfl⟩
set_option maxRecDepth 20000 in
theorem dk_45 : rx_at gC 45 (13, 48, []) := ⟨⟨by decide, by decide⟩, rfl⟩
set_option maxRecDepth 20000 in
theorem dk_46 : rx_at gC 46 (13, 48, []) := ⟨⟨by decide, by decide⟩, rfl⟩
set_option maxRecDepth 20000 in
theorem dk_47 : rx_at gC 47 (13, 48, []) := ⟨⟨by decide, by decide⟩, rfl⟩
set_option maxRecDepth 20000 in
theorem dk_48 : rx_at gC 48 (13, 48, []) := ⟨⟨by decide, by decide⟩, rfl⟩
set_option maxRecDepth 20000 in
theorem dk_49 : rx_at gC 49 (13, 48, []) := ⟨⟨by decide, by decide⟩, rfl⟩
set_option maxRecDepth 20000 in
theorem dk_50 : rx_at gC 50 (13, 48, []) := ⟨⟨by decide, by decide⟩, rfl⟩
set_option maxRecDepth 20000 in
theorem dk_51 : rx_at gC 51 (13, 48, []) := ⟨⟨by decide, by decide⟩, rfl⟩
set_option maxRecDepth 20000 in
theorem dk_52 : rx_at gC 52 (13, 48, []) := ⟨⟨by decide, by decide⟩, rfl⟩
set_option maxRecDepth 20000 in
theorem dk_53 : rx_at gC 53 (13, 48, []) := ⟨⟨by decide, by decide⟩, rfl⟩
set_option maxRecDepth 20000 in
theorem dk_54 : rx_at gC 54 (13, 48, []) := ⟨⟨by decide, by decide⟩, rfl⟩
set_option maxRecDepth 20000 in
theorem dk_55 : rx_at gC 55 (13, 48, []) := ⟨⟨by decide, by decide⟩, rfl⟩
set_option maxRecDepth 20000 in
theorem dk_56 : rx_at gC 56 (13, 48, []) := ⟨⟨by decide, by decide⟩, rfl⟩
set_option maxRecDepth 20000 in
theorem dk_57 : rx_at gC 57 (13, 48, []) := ⟨⟨by decide, by decide⟩, rfl⟩
set_option maxRecDepth 20000 in
theorem dk_58 : rx_at gC 58 (13, 48, []) := ⟨⟨by decide, by decide⟩, rfl⟩
set_option maxRecDepth 20000 in
theorem dk_59 : rx_at gC 59 (13, 48, []) := ⟨⟨by decide, by decide⟩, rfl⟩
set_option maxRecDepth 20000 in
theorem dk_60 : rx_at gC 60 (13, 48, []) := ⟨⟨by decide, by decide⟩, rfl⟩
set_option maxRecDepth 20000 in
theorem dk_61 : rx_at gC 61 (13, 48, []) := ⟨⟨by decide, by decide⟩, rfl⟩
set_option maxRecDepth 20000 in
theorem dk_62 : rx_at gC 62 (13, 48, []) := ⟨⟨by decide, by decide⟩, rfl⟩
set_option maxRecDepth 20000 in
theorem dk_63 : rx_at gC 63 (13, 48, []) := ⟨⟨by decide, by decide⟩, rfl⟩
set_option maxRecDepth 20000 in
theorem dk_64 : rx_at gC 64 (13, 48, []) := ⟨⟨by decide, by decide⟩, rfl⟩
set_option maxRecDepth 20000 in
theorem dk_65 : rx_at gC 65 (13, 48, []) := ⟨⟨by decide, by decide⟩, rfl⟩
set_option maxRecDepth 20000 in
theorem dk_66 : rx_at gC 66 (13, 48, []) := ⟨⟨by decide, by decide⟩, rfl⟩
set_option maxRecDepth 20000 in
theorem dk_67 : rx_at gC 67 (13, 48, []) := ⟨⟨by decide, by decide⟩, rfl⟩
set_option maxRecDepth 20000 in
theorem dk_68 : rx_at gC 68 (13, 48, []) := ⟨⟨by decide, by decide⟩, rfl⟩
set_option maxRecDepth 20000 in
theorem dk_69 : rx_at gC 69 (13, 48, []) := ⟨⟨by decide, by decide⟩, rfl⟩
set_option maxRecDepth 20000 in
theorem dk_70 : rx_at gC 70 (13, 48, []) := ⟨⟨by decide, by decide⟩, rfl⟩
set_option maxRecDepth 20000 in
theorem dk_71 : rx_at gC 71 (13, 48, []) := ⟨⟨by decide, by decide⟩, rfl⟩
set_option maxRecDepth 20000 in
theorem dk_72 : rx_at gC 72 (13, 48, []) := ⟨⟨by decide, by decide⟩, rfl⟩
set_option maxRecDepth 20000 in
theorem dk_73 : rx_at gC 73 (13, 48, []) := ⟨⟨by decide, by decide⟩, rfl⟩
set_option maxRecDepth 20000 in
theorem dk_74 : rx_at gC 74 (13, 48, []) := ⟨⟨by decide, by decide⟩, rfl⟩
set_option maxRecDepth 20000 in
theorem dk_75 : rx_at gC 75 (16, 3, [some 76, some 77, some 78]) := ⟨⟨by decide, by decide⟩, rfl⟩
set_option maxRecDepth 20000 in
theorem dk_76 : rx_at gC 76 (13, 48, []) := ⟨⟨by decide, by decide⟩, rfl⟩
set_option maxRecDepth 20000 in
theorem dk_77 : rx_at gC 77 (13, 48, []) := ⟨⟨by decide, by decide⟩, rfl⟩
set_option maxRecDepth 20000 in
theorem dk_78 : rx_at gC 78 (13, 48, []) := ⟨⟨by decide, by decide⟩, rfl⟩
set_option maxRecDepth 20000 in
theorem dk_79 : rx_at gC 79 (15, 3, []) := ⟨⟨by decide, by decide⟩, rfl⟩
set_option maxRecDepth 20000 in
theorem dk_80 : rx_at gC 80 (7, 0, [some 2, some 3]) := ⟨⟨by decide, by decide⟩, rfl⟩
set_option maxRecDepth 20000 in
theorem dk_81 : rx_at gC 81 (6, 0, [some 2, some 80, some 82, some 84, some 85, some 86, some 87]) := ⟨⟨by decide, by decide⟩, rfl⟩
set_option maxRecDepth 20000 in
theorem dk_82 : rx_at gC 82 (5, 0, [some 83]) := ⟨⟨by decide, by decide⟩, rfl⟩
set_option maxRecDepth 20000 in
theorem dk_83 : rx_at gC 83 (13, 6, []) := ⟨⟨by decide, by decide⟩, rfl⟩
set_option maxRecDepth 20000 in
theorem dk_84 : rx_at gC 84 (13, 32, []) := ⟨⟨by decide, by decide⟩, rfl⟩
set_option maxRecDepth 20000 in
theorem dk_85 : rx_at gC 85 (15, 30, []) := ⟨⟨by decide, by decide⟩, rfl⟩
set_option maxRecDepth 20000 in
theorem dk_86 : rx_at gC 86 (13, 12, []) := ⟨⟨by decide, by decide⟩, rfl⟩
set_option maxRecDepth 20000 in
theorem dk_87 : rx_at gC 87 (13, 3, []) := ⟨⟨by decide, by decide⟩, rfl⟩
set_option maxRecDepth 20000 in
theorem dk_88 : rx_at gC 88 (0, 0, [some 2, some 80, some 89, some 90]) := ⟨⟨by decide, by decide⟩, rfl⟩
set_option maxRecDepth 20000 in
theorem dk_89 : rx_at gC 89 (13, 48, []) := ⟨⟨by decide, by decide⟩, rfl⟩
set_option maxRecDepth 20000 in
theorem dk_90 : rx_at gC 90 (13, 64, []) := ⟨⟨by decide, by decide⟩, rfl⟩
set_option maxRecDepth 20000 in
theorem dk_91 : rx_at gC 91 (1, 0, [some 2, some 80, some 92, some 93, none]) := ⟨⟨by decide, by decide⟩, rfl⟩
set_option maxRecDepth 20000 in
theorem dk_92 : rx_at gC 92 (13, 20, []) := ⟨⟨by decide, by decide⟩, rfl⟩
set_option maxRecDepth 20000 in
theorem dk_93 : rx_at gC 93 (13, 20, []) := ⟨⟨by decide, by decide⟩, rfl⟩
set_option maxRecDepth 20000 in
theorem dk_94 : rx_at gM 94 (11, 0, [none, some 95, none, some 96, none, some 97, some 98, some 99, some 100, some 101, none, none, none, none, none, none, none, none, none, none, none, some 102, some 103, some 104, some 105, some 106, some 107, some 108, some 109, some 110, some 111, some 112, some 113, some 114, some 115, none, some 116, some 117, some 118, some 119, some 120, none, some 121, some 122, some 123, none, some 124, some 125, none, some 126, some 127, none, none, some 128, some 129, some 130, none, none, some 131, none, some 132, some 133, none, some 134, some 135, some 136, some 137, some 138]) := ⟨⟨by decide, by decide⟩, rfl⟩
set_option maxRecDepth 20000 in
theorem dk_95 : rx_at gM 95 (12, 2000, []) := ⟨⟨by decide, by decide⟩, rfl⟩
set_option maxRecDepth 20000 in
theorem dk_96 : rx_at gM 96 (12, 2000, []) := ⟨⟨by decide, by decide⟩, rfl⟩
set_option maxRecDepth 20000 in
theorem dk_97 : rx_at gM 97 (13, 403, []) := ⟨⟨by decide, by decide⟩, rfl⟩
set_option maxRecDepth 20000 in
theorem dk_98 : rx_at gM 98 (13, 403, []) := ⟨⟨by decide, by decide⟩, rfl⟩
set_option maxRecDepth 20000 in
theorem dk_99 : rx_at gM 99 (13, 403, []) := ⟨⟨by decide, by decide⟩, rfl⟩
set_option maxRecDepth 20000 in
theorem dk_100 : rx_at gM 100 (14, 403, []) := ⟨⟨by decide, by decide⟩, rfl⟩
set_option maxRecDepth 20000 in
theorem dk_101 : rx_at gM 101 (14, 24, []) := ⟨⟨by decide, by decide⟩, rfl⟩
set_option maxRecDepth 20000 in
theorem dk_102 : rx_at gM 102 (14, 10, []) := ⟨⟨by decide, by decide⟩, rfl⟩
set_option maxRecDepth 20000 in
theorem dk_103 : rx_at gM 103 (13, 10, []) := ⟨⟨by decide, by decide⟩, rfl⟩
set_option maxRecDepth 20000 in
theorem dk_104 : rx_at gM 104 (13, 2, []) := ⟨⟨by decide, by decide⟩, rfl⟩
set_option maxRecDepth 20000 in
theorem dk_105 : rx_at gM 105 (13, 12, []) := ⟨⟨by decide, by decide⟩, rfl⟩
set_option maxRecDepth 20000 in
theorem dk_106 : rx_at gM 106 (13, 12, []) := ⟨⟨by decide, by decide⟩, rfl⟩
set_option maxRecDepth 20000 in
theorem dk_107 : rx_at gM 107 (13, 2, []) := ⟨⟨by decide, by decide⟩, rfl⟩
set_option maxRecDepth 20000 in
theorem dk_108 : rx_at gM 108 (13, 12, []) := ⟨⟨by decide, by decide⟩, rfl⟩
set_option maxRecDepth 20000 in
theorem dk_109 : rx_at gM 109 (13, 2, []) := ⟨⟨by decide, by decide⟩, rfl⟩
set_option maxRecDepth 20000 in
theorem dk_110 : rx_at gM 110 (13, 8, []) := ⟨⟨by decide, by decide⟩, rfl⟩
set_option maxRecDepth 20000 in
theorem dk_111 : rx_at gM 111 (13, 8, []) := ⟨⟨by decide, by decide⟩, rfl⟩
set_option maxRecDepth 20000 in
theorem dk_112 : rx_at gM 112 (13, 2, []) := ⟨⟨by decide, by decide⟩, rfl⟩
set_option maxRecDepth 20000 in
theorem dk_113 : rx_at gM 113 (13, 2, []) := ⟨⟨by decide, by decide⟩, rfl⟩
set_option maxRecDepth 20000 in
theorem dk_114 : rx_at gM 114 (13, 14, []) := ⟨⟨by decide, by decide⟩, rfl⟩
set_option maxRecDepth 20000 in
theorem dk_115 : rx_at gM 115 (13, 14, []) := ⟨⟨by decide, by decide⟩, rfl⟩
set_option maxRecDepth 20000 in
theorem dk_116 : rx_at gM 116 (15, 260, []) := ⟨⟨by decide, by decide⟩, rfl⟩
set_option maxRecDepth 20000 in
theorem dk_117 : rx_at gM 117 (13, 260, []) := ⟨⟨by decide, by decide⟩, rfl⟩
set_option maxRecDepth 20000 in
theorem dk_118 : rx_at gM 118 (13, 260, []) := ⟨⟨by decide, by decide⟩, rfl⟩
set_option maxRecDepth 20000 in
theorem dk_119 : rx_at gM 119 (13, 260, []) := ⟨⟨by decide, by decide⟩, rfl⟩
set_option maxRecDepth 20000 in
theorem dk_120 : rx_at gM 120 (13, 260, []) := ⟨⟨by decide, by decide⟩, rfl⟩
set_option maxRecDepth 20000 in
theorem dk_121 : rx_at gM 121 (13, 840, []) := ⟨⟨by decide, by decide⟩, rfl⟩
set_option maxRecDepth 20000 in
theorem dk_122 : rx_at gM 122 (13, 840, []) := ⟨⟨by decide, by decide⟩, rfl⟩
set_option maxRecDepth 20000 in
theorem dk_123 : rx_at gM 123 (13, 64, []) := ⟨⟨by decide, by decide⟩, rfl⟩
set_option maxRecDepth 20000 in
theorem dk_124 : rx_at gM 124 (13, 9, []) := ⟨⟨by decide, by decide⟩, rfl⟩
set_option maxRecDepth 20000 in
theorem dk_125 : rx_at gM 125 (13, 400, []) := ⟨⟨by decide, by decide⟩, rfl⟩
set_option maxRecDepth 20000 in
theorem dk_126 : rx_at gM 126 (13, 48, []) := ⟨⟨by decide, by decide⟩, rfl⟩
set_option maxRecDepth 20000 in
theorem dk_127 : rx_at gM 127 (13, 48, []) := ⟨⟨by decide, by decide⟩, rfl⟩
set_option maxRecDepth 20000 in
theorem dk_128 : rx_at gM 128 (13, 1920, []) := ⟨⟨by decide, by decide⟩, rfl⟩
set_option maxRecDepth 20000 in
theorem dk_129 : rx_at gM 129 (13, 32, []) := ⟨⟨by decide, by decide⟩, rfl⟩
set_option maxRecDepth 20000 in
theorem dk_130 : rx_at gM 130 (13, 36, []) := ⟨⟨by decide, by decide⟩, rfl⟩
set_option maxRecDepth 20000 in
theorem dk_131 : rx_at gM 131 (13, 3, []) := ⟨⟨by decide, by decide⟩, rfl⟩
set_option maxRecDepth 20000 in
theorem dk_132 : rx_at gM 132 (13, 12, []) := ⟨⟨by decide, by decide⟩, rfl⟩
set_option maxRecDepth 20000 in
theorem dk_133 : rx_at gM 133 (13, 64, []) := ⟨⟨by decide, by decide⟩, rfl⟩
set_option maxRecDepth 20000 in
theorem dk_134 : rx_at gM 134 (13, 20, []) := ⟨⟨by decide, by decide⟩, rfl⟩
set_option maxRecDepth 20000 in
theorem dk_135 : rx_at gM 135 (13, 20, []) := ⟨⟨by decide, by decide⟩, rfl⟩
set_option maxRecDepth 20000 in
theorem dk_136 : rx_at gM 136 (13, 9, []) := ⟨⟨by decide, by decide⟩, rfl⟩
set_option maxRecDepth 20000 in
theorem dk_137 : rx_at gM 137 (15, 3, []) := ⟨⟨by decide, by decide⟩, rfl⟩
set_option maxRecDepth 20000 in
theorem dk_138 : rx_at gM 138 (13, 144, []) := ⟨⟨by decide, by decide⟩, rfl⟩
