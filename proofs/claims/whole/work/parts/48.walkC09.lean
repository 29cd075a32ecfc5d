def f_X10_heard (N : Nat) (x1 : Int32) (x2 : Int32) (S0 : rx_S) : Option (Int32 × rx_S) := rx_bd (f_X8_hasThird 2 x1 S0) (fun x5 S4 => if x5 = 0 then (some ((-1), S4)) else (rx_bd (f_X5_isRow N x2 S4) (fun x9 S8 => if x9 = 0 then (some ((-1), S8)) else (rx_bd (f_X7_putRow 32 N x1 x2 S8) (fun x13 S12 => some (x13, S12))))))
set_option maxHeartbeats 4000000 in
set_option maxRecDepth 20000 in
theorem em_X10_heard {d N : Nat} {x1 : Int32} {x2 : Int32} {S0 : rx_S} {zr : Int32} {zS : rx_S} (h : f_X10_heard N x1 x2 S0 = some (zr, zS)) : EM gC (d + 5) mX10_heard [.ref 0, .int x1, .int x2] S0 (rx_pi zr zS) := by
  unfold f_X10_heard at h
  show EV gC (d + 5) mX10_heard 0 [some (.ref 0), some (.int x1), some (.int x2)] [] S0 (rx_pi zr zS)
  refine ev_aload_n (i := 0) 1 dX10_heard_0 rfl rfl rfl ?_
  refine ev_get (v := .ref 2) 4 dX10_heard_1 dk_0 fl_10_20 (by decide) rfl rfl rfl ?_
  refine ev_iload_n (i := 1) 5 dX10_heard_4 rfl rfl rfl ?_
  obtain ⟨x5, S4, g6, h⟩ := rx_bd_o h
  refine ev_cVi1 8 dX10_heard_5 (em_X8_hasThird_2 g6) mm_X8_hasThird mv_X8_hasThird lk_10_123 dk_2 (by decide) rfl (Nat.le_of_ble_eq_true rfl) (Nat.le_of_ble_eq_true rfl) rfl ?_
  refine ev_if_eq 18 11 dX10_heard_8 rfl rfl (fun c7 => ?_) (fun c7 => ?_)
  · replace h := rx_if_t c7 h
    refine ev_iconst (v := (-1)) 19 dX10_heard_18 (by decide) rfl ?_
    exact ev_ireturn dX10_heard_19 rfl (rx_ret_i h)
  · replace h := rx_if_f c7 h
    refine ev_iload_n (i := 2) 12 dX10_heard_11 rfl rfl rfl ?_
    obtain ⟨x9, S8, g10, h⟩ := rx_bd_o h
    refine ev_cSi1 15 dX10_heard_12 (em_X5_isRow g10) mm_X5_isRow ms_X5_isRow lk_10_195 (Nat.le_of_ble_eq_true rfl) (Nat.le_of_ble_eq_true rfl) rfl ?_
    refine ev_if_ne 20 18 dX10_heard_15 rfl rfl (fun c11 => ?_) (fun c11 => ?_)
    · replace h := rx_if_f c11 h
      refine ev_aload_n (i := 0) 21 dX10_heard_20 rfl rfl rfl ?_
      refine ev_get (v := .ref 80) 24 dX10_heard_21 dk_0 fl_10_47 (by decide) rfl rfl rfl ?_
      refine ev_aload_n (i := 0) 25 dX10_heard_24 rfl rfl rfl ?_
      refine ev_get (v := .ref 32) 28 dX10_heard_25 dk_0 fl_10_31 (by decide) rfl rfl rfl ?_
      refine ev_iload_n (i := 1) 29 dX10_heard_28 rfl rfl rfl ?_
      refine ev_iload_n (i := 2) 30 dX10_heard_29 rfl rfl rfl ?_
      obtain ⟨x13, S12, g14, h⟩ := rx_bd_o h
      refine ev_cVi3 33 dX10_heard_30 (em_X7_putRow_32 g14) mm_X7_putRow mv_X7_putRow lk_10_200 dk_80 (by decide) rfl (Nat.le_of_ble_eq_true rfl) (Nat.le_of_ble_eq_true rfl) rfl ?_
      exact ev_ireturn dX10_heard_33 rfl (rx_ret_i h)
    · replace h := rx_if_t c11 h
      refine ev_iconst (v := (-1)) 19 dX10_heard_18 (by decide) rfl ?_
      exact ev_ireturn dX10_heard_19 rfl (rx_ret_i h)

def f_X10_chain (N : Nat) (x1 : Int32) (x2 : Int32) (x3 : Int32) (S0 : rx_S) : Option (Int32 × rx_S) := rx_bd (f_X8_hasThird 2 x1 S0) (fun x6 S5 => if x6 = 0 then (some ((-1), S5)) else (rx_bd (f_X8_hasThird 2 x2 S5) (fun x10 S9 => if x10 = 0 then (some ((-1), S9)) else (rx_bd (f_X5_isRow N x3 S9) (fun x14 S13 => if x14 = 0 then (some ((-1), S13)) else (rx_bd (f_X7_putRow 32 N x1 x3 S13) (fun x18 S17 => rx_bd (f_X7_putRow 32 N x2 x18 S17) (fun x21 S20 => some (x21, S20)))))))))
set_option maxHeartbeats 4000000 in
set_option maxRecDepth 20000 in
theorem em_X10_chain {d N : Nat} {x1 : Int32} {x2 : Int32} {x3 : Int32} {S0 : rx_S} {zr : Int32} {zS : rx_S} (h : f_X10_chain N x1 x2 x3 S0 = some (zr, zS)) : EM gC (d + 5) mX10_chain [.ref 0, .int x1, .int x2, .int x3] S0 (rx_pi zr zS) := by
  unfold f_X10_chain at h
  show EV gC (d + 5) mX10_chain 0 [some (.ref 0), some (.int x1), some (.int x2), some (.int x3)] [] S0 (rx_pi zr zS)
  refine ev_aload_n (i := 0) 1 dX10_chain_0 rfl rfl rfl ?_
  refine ev_get (v := .ref 2) 4 dX10_chain_1 dk_0 fl_10_20 (by decide) rfl rfl rfl ?_
  refine ev_iload_n (i := 1) 5 dX10_chain_4 rfl rfl rfl ?_
  obtain ⟨x6, S5, g7, h⟩ := rx_bd_o h
  refine ev_cVi1 8 dX10_chain_5 (em_X8_hasThird_2 g7) mm_X8_hasThird mv_X8_hasThird lk_10_123 dk_2 (by decide) rfl (Nat.le_of_ble_eq_true rfl) (Nat.le_of_ble_eq_true rfl) rfl ?_
  refine ev_if_eq 29 11 dX10_chain_8 rfl rfl (fun c8 => ?_) (fun c8 => ?_)
  · replace h := rx_if_t c8 h
    refine ev_iconst (v := (-1)) 30 dX10_chain_29 (by decide) rfl ?_
    exact ev_ireturn dX10_chain_30 rfl (rx_ret_i h)
  · replace h := rx_if_f c8 h
    refine ev_aload_n (i := 0) 12 dX10_chain_11 rfl rfl rfl ?_
    refine ev_get (v := .ref 2) 15 dX10_chain_12 dk_0 fl_10_20 (by decide) rfl rfl rfl ?_
    refine ev_iload_n (i := 2) 16 dX10_chain_15 rfl rfl rfl ?_
    obtain ⟨x10, S9, g11, h⟩ := rx_bd_o h
    refine ev_cVi1 19 dX10_chain_16 (em_X8_hasThird_2 g11) mm_X8_hasThird mv_X8_hasThird lk_10_123 dk_2 (by decide) rfl (Nat.le_of_ble_eq_true rfl) (Nat.le_of_ble_eq_true rfl) rfl ?_
    refine ev_if_eq 29 22 dX10_chain_19 rfl rfl (fun c12 => ?_) (fun c12 => ?_)
    · replace h := rx_if_t c12 h
      refine ev_iconst (v := (-1)) 30 dX10_chain_29 (by decide) rfl ?_
      exact ev_ireturn dX10_chain_30 rfl (rx_ret_i h)
    · replace h := rx_if_f c12 h
      refine ev_iload_n (i := 3) 23 dX10_chain_22 rfl rfl rfl ?_
      obtain ⟨x14, S13, g15, h⟩ := rx_bd_o h
      refine ev_cSi1 26 dX10_chain_23 (em_X5_isRow g15) mm_X5_isRow ms_X5_isRow lk_10_195 (Nat.le_of_ble_eq_true rfl) (Nat.le_of_ble_eq_true rfl) rfl ?_
      refine ev_if_ne 31 29 dX10_chain_26 rfl rfl (fun c16 => ?_) (fun c16 => ?_)
      · replace h := rx_if_f c16 h
        refine ev_aload_n (i := 0) 32 dX10_chain_31 rfl rfl rfl ?_
        refine ev_get (v := .ref 80) 35 dX10_chain_32 dk_0 fl_10_47 (by decide) rfl rfl rfl ?_
        refine ev_aload_n (i := 0) 36 dX10_chain_35 rfl rfl rfl ?_
        refine ev_get (v := .ref 32) 39 dX10_chain_36 dk_0 fl_10_31 (by decide) rfl rfl rfl ?_
        refine ev_iload_n (i := 2) 40 dX10_chain_39 rfl rfl rfl ?_
        refine ev_aload_n (i := 0) 41 dX10_chain_40 rfl rfl rfl ?_
        refine ev_get (v := .ref 80) 44 dX10_chain_41 dk_0 fl_10_47 (by decide) rfl rfl rfl ?_
        refine ev_aload_n (i := 0) 45 dX10_chain_44 rfl rfl rfl ?_
        refine ev_get (v := .ref 32) 48 dX10_chain_45 dk_0 fl_10_31 (by decide) rfl rfl rfl ?_
        refine ev_iload_n (i := 1) 49 dX10_chain_48 rfl rfl rfl ?_
        refine ev_iload_n (i := 3) 50 dX10_chain_49 rfl rfl rfl ?_
        obtain ⟨x18, S17, g19, h⟩ := rx_bd_o h
        refine ev_cVi3 53 dX10_chain_50 (em_X7_putRow_32 g19) mm_X7_putRow mv_X7_putRow lk_10_200 dk_80 (by decide) rfl (Nat.le_of_ble_eq_true rfl) (Nat.le_of_ble_eq_true rfl) rfl ?_
        obtain ⟨x21, S20, g22, h⟩ := rx_bd_o h
        refine ev_cVi3 56 dX10_chain_53 (em_X7_putRow_32 g22) mm_X7_putRow mv_X7_putRow lk_10_200 dk_80 (by decide) rfl (Nat.le_of_ble_eq_true rfl) (Nat.le_of_ble_eq_true rfl) rfl ?_
        exact ev_ireturn dX10_chain_56 rfl (rx_ret_i h)
      · replace h := rx_if_t c16 h
        refine ev_iconst (v := (-1)) 30 dX10_chain_29 (by decide) rfl ?_
        exact ev_ireturn dX10_chain_30 rfl (rx_ret_i h)

def f_X10_say (N : Nat) (x1 : Int32) (x2 : Int32) (S0 : rx_S) : Option (Int32 × rx_S) := rx_bd (f_X8_hasThird 2 x1 S0) (fun x5 S4 => if x5 = 0 then (some ((-1), S4)) else (rx_bd (f_X5_isRow N x2 S4) (fun x9 S8 => if x9 = 0 then (some ((-1), S8)) else (rx_bd (f_X6_rowPutAs N x1 x2 S8) (fun x13 S12 => some (x13, S12))))))
set_option maxHeartbeats 4000000 in
set_option maxRecDepth 20000 in
theorem em_X10_say {d N : Nat} {x1 : Int32} {x2 : Int32} {S0 : rx_S} {zr : Int32} {zS : rx_S} (h : f_X10_say N x1 x2 S0 = some (zr, zS)) : EM gC (d + 5) mX10_say [.ref 0, .int x1, .int x2] S0 (rx_pi zr zS) := by
  unfold f_X10_say at h
  show EV gC (d + 5) mX10_say 0 [some (.ref 0), some (.int x1), some (.int x2)] [] S0 (rx_pi zr zS)
  refine ev_aload_n (i := 0) 1 dX10_say_0 rfl rfl rfl ?_
  refine ev_get (v := .ref 2) 4 dX10_say_1 dk_0 fl_10_20 (by decide) rfl rfl rfl ?_
  refine ev_iload_n (i := 1) 5 dX10_say_4 rfl rfl rfl ?_
  obtain ⟨x5, S4, g6, h⟩ := rx_bd_o h
  refine ev_cVi1 8 dX10_say_5 (em_X8_hasThird_2 g6) mm_X8_hasThird mv_X8_hasThird lk_10_123 dk_2 (by decide) rfl (Nat.le_of_ble_eq_true rfl) (Nat.le_of_ble_eq_true rfl) rfl ?_
  refine ev_if_eq 18 11 dX10_say_8 rfl rfl (fun c7 => ?_) (fun c7 => ?_)
  · replace h := rx_if_t c7 h
    refine ev_iconst (v := (-1)) 19 dX10_say_18 (by decide) rfl ?_
    exact ev_ireturn dX10_say_19 rfl (rx_ret_i h)
  · replace h := rx_if_f c7 h
    refine ev_iload_n (i := 2) 12 dX10_say_11 rfl rfl rfl ?_
    obtain ⟨x9, S8, g10, h⟩ := rx_bd_o h
    refine ev_cSi1 15 dX10_say_12 (em_X5_isRow g10) mm_X5_isRow ms_X5_isRow lk_10_195 (Nat.le_of_ble_eq_true rfl) (Nat.le_of_ble_eq_true rfl) rfl ?_
    refine ev_if_ne 20 18 dX10_say_15 rfl rfl (fun c11 => ?_) (fun c11 => ?_)
    · replace h := rx_if_f c11 h
      refine ev_aload_n (i := 0) 21 dX10_say_20 rfl rfl rfl ?_
      refine ev_get (v := .ref 81) 24 dX10_say_21 dk_0 fl_10_56 (by decide) rfl rfl rfl ?_
      refine ev_aload_n (i := 0) 25 dX10_say_24 rfl rfl rfl ?_
      refine ev_get (v := .ref 32) 28 dX10_say_25 dk_0 fl_10_31 (by decide) rfl rfl rfl ?_
      refine ev_iload_n (i := 1) 29 dX10_say_28 rfl rfl rfl ?_
      refine ev_iload_n (i := 2) 30 dX10_say_29 rfl rfl rfl ?_
      obtain ⟨x13, S12, g14, h⟩ := rx_bd_o h
      refine ev_cVi3 33 dX10_say_30 (em_X6_rowPutAs g14) mm_X6_rowPutAs mv_X6_rowPutAs lk_10_204 dk_81 (by decide) rfl (Nat.le_of_ble_eq_true rfl) (Nat.le_of_ble_eq_true rfl) rfl ?_
      exact ev_ireturn dX10_say_33 rfl (rx_ret_i h)
    · replace h := rx_if_t c11 h
      refine ev_iconst (v := (-1)) 19 dX10_say_18 (by decide) rfl ?_
      exact ev_ireturn dX10_say_19 rfl (rx_ret_i h)

def f_X10_loses (N : Nat) (x1 : Int32) (x2 : Int32) (x3 : Int32) (S0 : rx_S) : Option (Int32 × rx_S) := rx_bd (f_X8_hasThird 2 x1 S0) (fun x6 S5 => if x6 = 0 then (some ((-1), S5)) else (rx_bd (f_X8_hasThird 2 x2 S5) (fun x10 S9 => if x10 = 0 then (some ((-1), S9)) else (rx_bd (f_X5_isRow N x3 S9) (fun x14 S13 => if x14 = 0 then (some ((-1), S13)) else (rx_bd (f_X6_lostByTwo N x1 x2 x3 S13) (fun x18 S17 => some (x18, S17))))))))
set_option maxHeartbeats 4000000 in
set_option maxRecDepth 20000 in
theorem em_X10_loses {d N : Nat} {x1 : Int32} {x2 : Int32} {x3 : Int32} {S0 : rx_S} {zr : Int32} {zS : rx_S} (h : f_X10_loses N x1 x2 x3 S0 = some (zr, zS)) : EM gC (d + 6) mX10_loses [.ref 0, .int x1, .int x2, .int x3] S0 (rx_pi zr zS) := by
  unfold f_X10_loses at h
  show EV gC (d + 6) mX10_loses 0 [some (.ref 0), some (.int x1), some (.int x2), some (.int x3)] [] S0 (rx_pi zr zS)
  refine ev_aload_n (i := 0) 1 dX10_loses_0 rfl rfl rfl ?_
  refine ev_get (v := .ref 2) 4 dX10_loses_1 dk_0 fl_10_20 (by decide) rfl rfl rfl ?_
  refine ev_iload_n (i := 1) 5 dX10_loses_4 rfl rfl rfl ?_
  obtain ⟨x6, S5, g7, h⟩ := rx_bd_o h
  refine ev_cVi1 8 dX10_loses_5 (em_X8_hasThird_2 g7) mm_X8_hasThird mv_X8_hasThird lk_10_123 dk_2 (by decide) rfl (Nat.le_of_ble_eq_true rfl) (Nat.le_of_ble_eq_true rfl) rfl ?_
  refine ev_if_eq 29 11 dX10_loses_8 rfl rfl (fun c8 => ?_) (fun c8 => ?_)
  · replace h := rx_if_t c8 h
    refine ev_iconst (v := (-1)) 30 dX10_loses_29 (by decide) rfl ?_
    exact ev_ireturn dX10_loses_30 rfl (rx_ret_i h)
  · replace h := rx_if_f c8 h
    refine ev_aload_n (i := 0) 12 dX10_loses_11 rfl rfl rfl ?_
    refine ev_get (v := .ref 2) 15 dX10_loses_12 dk_0 fl_10_20 (by decide) rfl rfl rfl ?_
    refine ev_iload_n (i := 2) 16 dX10_loses_15 rfl rfl rfl ?_
    obtain ⟨x10, S9, g11, h⟩ := rx_bd_o h
    refine ev_cVi1 19 dX10_loses_16 (em_X8_hasThird_2 g11) mm_X8_hasThird mv_X8_hasThird lk_10_123 dk_2 (by decide) rfl (Nat.le_of_ble_eq_true rfl) (Nat.le_of_ble_eq_true rfl) rfl ?_
    refine ev_if_eq 29 22 dX10_loses_19 rfl rfl (fun c12 => ?_) (fun c12 => ?_)
    · replace h := rx_if_t c12 h
      refine ev_iconst (v := (-1)) 30 dX10_loses_29 (by decide) rfl ?_
      exact ev_ireturn dX10_loses_30 rfl (rx_ret_i h)
    · replace h := rx_if_f c12 h
      refine ev_iload_n (i := 3) 23 dX10_loses_22 rfl rfl rfl ?_
      obtain ⟨x14, S13, g15, h⟩ := rx_bd_o h
      refine ev_cSi1 26 dX10_loses_23 (em_X5_isRow g15) mm_X5_isRow ms_X5_isRow lk_10_195 (Nat.le_of_ble_eq_true rfl) (Nat.le_of_ble_eq_true rfl) rfl ?_
      refine ev_if_ne 31 29 dX10_loses_26 rfl rfl (fun c16 => ?_) (fun c16 => ?_)
      · replace h := rx_if_f c16 h
        refine ev_aload_n (i := 0) 32 dX10_loses_31 rfl rfl rfl ?_
        refine ev_get (v := .ref 81) 35 dX10_loses_32 dk_0 fl_10_56 (by decide) rfl rfl rfl ?_
        refine ev_aload_n (i := 0) 36 dX10_loses_35 rfl rfl rfl ?_
        refine ev_get (v := .ref 32) 39 dX10_loses_36 dk_0 fl_10_31 (by decide) rfl rfl rfl ?_
        refine ev_iload_n (i := 1) 40 dX10_loses_39 rfl rfl rfl ?_
        refine ev_iload_n (i := 2) 41 dX10_loses_40 rfl rfl rfl ?_
        refine ev_iload_n (i := 3) 42 dX10_loses_41 rfl rfl rfl ?_
        obtain ⟨x18, S17, g19, h⟩ := rx_bd_o h
        refine ev_cVi4 45 dX10_loses_42 (em_X6_lostByTwo g19) mm_X6_lostByTwo mv_X6_lostByTwo lk_10_207 dk_81 (by decide) rfl (Nat.le_of_ble_eq_true rfl) (Nat.le_of_ble_eq_true rfl) rfl ?_
        exact ev_ireturn dX10_loses_45 rfl (rx_ret_i h)
      · replace h := rx_if_t c16 h
        refine ev_iconst (v := (-1)) 30 dX10_loses_29 (by decide) rfl ?_
        exact ev_ireturn dX10_loses_30 rfl (rx_ret_i h)

def f_X10_least (N : Nat) (x1 : Int32) (S0 : rx_S) : Option (Int32 × rx_S) := rx_bd (f_X5_isRow N x1 S0) (fun x4 S3 => if x4 = 0 then (some ((-1), S3)) else (rx_bd (f_X6_bestPair N x1 S3) (fun x8 S7 => some (x8, S7))))
set_option maxHeartbeats 4000000 in
set_option maxRecDepth 20000 in
theorem em_X10_least {d N : Nat} {x1 : Int32} {S0 : rx_S} {zr : Int32} {zS : rx_S} (h : f_X10_least N x1 S0 = some (zr, zS)) : EM gC (d + 7) mX10_least [.ref 0, .int x1] S0 (rx_pi zr zS) := by
  unfold f_X10_least at h
  show EV gC (d + 7) mX10_least 0 [some (.ref 0), some (.int x1)] [] S0 (rx_pi zr zS)
  refine ev_iload_n (i := 1) 1 dX10_least_0 rfl rfl rfl ?_
  obtain ⟨x4, S3, g5, h⟩ := rx_bd_o h
  refine ev_cSi1 4 dX10_least_1 (em_X5_isRow g5) mm_X5_isRow ms_X5_isRow lk_10_195 (Nat.le_of_ble_eq_true rfl) (Nat.le_of_ble_eq_true rfl) rfl ?_
  refine ev_if_eq 22 7 dX10_least_4 rfl rfl (fun c6 => ?_) (fun c6 => ?_)
  · replace h := rx_if_t c6 h
    refine ev_iconst (v := (-1)) 23 dX10_least_22 (by decide) rfl ?_
    exact ev_ireturn dX10_least_23 rfl (rx_ret_i h)
  · replace h := rx_if_f c6 h
    refine ev_aload_n (i := 0) 8 dX10_least_7 rfl rfl rfl ?_
    refine ev_get (v := .ref 81) 11 dX10_least_8 dk_0 fl_10_56 (by decide) rfl rfl rfl ?_
    refine ev_aload_n (i := 0) 12 dX10_least_11 rfl rfl rfl ?_
    refine ev_get (v := .ref 32) 15 dX10_least_12 dk_0 fl_10_31 (by decide) rfl rfl rfl ?_
    refine ev_iload_n (i := 1) 16 dX10_least_15 rfl rfl rfl ?_
    obtain ⟨x8, S7, g9, h⟩ := rx_bd_o h
    refine ev_cVi2 19 dX10_least_16 (em_X6_bestPair g9) mm_X6_bestPair mv_X6_bestPair lk_10_210 dk_81 (by decide) rfl (Nat.le_of_ble_eq_true rfl) (Nat.le_of_ble_eq_true rfl) rfl ?_
    refine ev_goto 23 dX10_least_19 rfl ?_
    exact ev_ireturn dX10_least_23 rfl (rx_ret_i h)

def f_X10_truest (N : Nat) (x1 : Int32) (S0 : rx_S) : Option (Int32 × rx_S) := rx_bd (f_X5_isRow N x1 S0) (fun x4 S3 => if x4 = 0 then (some ((-1), S3)) else (rx_bd (f_X6_bestThird N x1 S3) (fun x8 S7 => some (x8, S7))))
set_option maxHeartbeats 4000000 in
set_option maxRecDepth 20000 in
theorem em_X10_truest {d N : Nat} {x1 : Int32} {S0 : rx_S} {zr : Int32} {zS : rx_S} (h : f_X10_truest N x1 S0 = some (zr, zS)) : EM gC (d + 6) mX10_truest [.ref 0, .int x1] S0 (rx_pi zr zS) := by
  unfold f_X10_truest at h
  show EV gC (d + 6) mX10_truest 0 [some (.ref 0), some (.int x1)] [] S0 (rx_pi zr zS)
  refine ev_iload_n (i := 1) 1 dX10_truest_0 rfl rfl rfl ?_
  obtain ⟨x4, S3, g5, h⟩ := rx_bd_o h
  refine ev_cSi1 4 dX10_truest_1 (em_X5_isRow g5) mm_X5_isRow ms_X5_isRow lk_10_195 (Nat.le_of_ble_eq_true rfl) (Nat.le_of_ble_eq_true rfl) rfl ?_
  refine ev_if_eq 22 7 dX10_truest_4 rfl rfl (fun c6 => ?_) (fun c6 => ?_)
  · replace h := rx_if_t c6 h
    refine ev_iconst (v := (-1)) 23 dX10_truest_22 (by decide) rfl ?_
    exact ev_ireturn dX10_truest_23 rfl (rx_ret_i h)
  · replace h := rx_if_f c6 h
    refine ev_aload_n (i := 0) 8 dX10_truest_7 rfl rfl rfl ?_
    refine ev_get (v := .ref 81) 11 dX10_truest_8 dk_0 fl_10_56 (by decide) rfl rfl rfl ?_
    refine ev_aload_n (i := 0) 12 dX10_truest_11 rfl rfl rfl ?_
    refine ev_get (v := .ref 32) 15 dX10_truest_12 dk_0 fl_10_31 (by decide) rfl rfl rfl ?_
    refine ev_iload_n (i := 1) 16 dX10_truest_15 rfl rfl rfl ?_
    obtain ⟨x8, S7, g9, h⟩ := rx_bd_o h
    refine ev_cVi2 19 dX10_truest_16 (em_X6_bestThird g9) mm_X6_bestThird mv_X6_bestThird lk_10_213 dk_81 (by decide) rfl (Nat.le_of_ble_eq_true rfl) (Nat.le_of_ble_eq_true rfl) rfl ?_
    refine ev_goto 23 dX10_truest_19 rfl ?_
    exact ev_ireturn dX10_truest_23 rfl (rx_ret_i h)

def f_X10_crooked_L25 (N : Nat) : Nat → Int32 → Int32 → Int32 → Int32 → rx_S → Option (Int32 × rx_S)
  | 0, _, _, _, _, _ => none
  | n + 1, x12, x13, x14, x15, S16 => if (8 : Int32) ≤ x15 then (some (x14, S16)) else (rx_bd (f_X7_putWord 32 N x12 x15 x13 S16) (fun x19 S18 => if x19 = x15 then (rx_let (x15 + 1) (fun x22 => f_X10_crooked_L25 N n x12 x13 x14 x22 S18)) else (rx_let (x14 + 1) (fun x23 => rx_let (x15 + 1) (fun x24 => f_X10_crooked_L25 N n x12 x13 x23 x24 S18)))))
def f_X10_crooked (N : Nat) (x1 : Int32) (x2 : Int32) (S0 : rx_S) : Option (Int32 × rx_S) := rx_bd (f_X8_hasThird 2 x1 S0) (fun x5 S4 => if x5 = 0 then (some ((-1), S4)) else (rx_bd (f_X10_isPlace x2 S4) (fun x9 S8 => if x9 = 0 then (some ((-1), S8)) else (f_X10_crooked_L25 N N x1 x2 0 0 S8))))
set_option maxHeartbeats 4000000 in
set_option maxRecDepth 20000 in
theorem em_X10_crooked_L25 {d N : Nat} {zr : Int32} {zS : rx_S} : ∀ (n : Nat) (x12 : Int32) (x13 : Int32) (x14 : Int32) (x15 : Int32) (S16 : rx_S), f_X10_crooked_L25 N n x12 x13 x14 x15 S16 = some (zr, zS) → EV gC (d + 4) mX10_crooked 25 [some (.ref 0), some (.int x12), some (.int x13), some (.int x14), some (.int x15)] [] S16 (rx_pi zr zS) := by
  intro n
  induction n with
  | zero => intro x12 x13 x14 x15 S16 h; cases h
  | succ n ih =>
    intro x12 x13 x14 x15 S16 h
    rw [f_X10_crooked_L25] at h
    refine ev_iload 27 dX10_crooked_25 rfl rfl ?_
    refine ev_bipush (v := 8) 29 dX10_crooked_27 (by decide) rfl ?_
    refine ev_icmp_ge 61 32 dX10_crooked_29 rfl rfl (fun c17 => ?_) (fun c17 => ?_)
    · replace h := rx_if_t c17 h
      refine ev_iload_n (i := 3) 62 dX10_crooked_61 rfl rfl rfl ?_
      exact ev_ireturn dX10_crooked_62 rfl (rx_ret_i h)
    · replace h := rx_if_f c17 h
      refine ev_aload_n (i := 0) 33 dX10_crooked_32 rfl rfl rfl ?_
      refine ev_get (v := .ref 80) 36 dX10_crooked_33 dk_0 fl_10_47 (by decide) rfl rfl rfl ?_
      refine ev_aload_n (i := 0) 37 dX10_crooked_36 rfl rfl rfl ?_
      refine ev_get (v := .ref 32) 40 dX10_crooked_37 dk_0 fl_10_31 (by decide) rfl rfl rfl ?_
      refine ev_iload_n (i := 1) 41 dX10_crooked_40 rfl rfl rfl ?_
      refine ev_iload 43 dX10_crooked_41 rfl rfl ?_
      refine ev_iload_n (i := 2) 44 dX10_crooked_43 rfl rfl rfl ?_
      obtain ⟨x19, S18, g20, h⟩ := rx_bd_o h
      refine ev_cVi4 47 dX10_crooked_44 (em_X7_putWord_32 g20) mm_X7_putWord mv_X7_putWord lk_10_191 dk_80 (by decide) rfl (Nat.le_of_ble_eq_true rfl) (Nat.le_of_ble_eq_true rfl) rfl ?_
      refine ev_iload 49 dX10_crooked_47 rfl rfl ?_
      refine ev_icmp_eq 55 52 dX10_crooked_49 rfl rfl (fun c21 => ?_) (fun c21 => ?_)
      · replace h := rx_if_t c21 h
        obtain ⟨x22, ex22, h⟩ := rx_let_o h
        refine ev_iinc (v := x22) (ls' := [some (.ref 0), some (.int x12), some (.int x13), some (.int x14), some (.int x22)]) 58 dX10_crooked_55 rfl (by rw [ex22]; rfl) (Nat.le_of_ble_eq_true rfl) rfl rfl ?_
        refine ev_goto 25 dX10_crooked_58 rfl ?_
        exact (ih _ _ _ _ _ h).fewer (rx_le_s (rx_le_s (rx_le_s (rx_le_s (rx_le_s rx_le_0)))))
      · replace h := rx_if_f c21 h
        obtain ⟨x23, ex23, h⟩ := rx_let_o h
        refine ev_iinc (v := x23) (ls' := [some (.ref 0), some (.int x12), some (.int x13), some (.int x23), some (.int x15)]) 55 dX10_crooked_52 rfl (by rw [ex23]; rfl) (Nat.le_of_ble_eq_true rfl) rfl rfl ?_
        obtain ⟨x24, ex24, h⟩ := rx_let_o h
        refine ev_iinc (v := x24) (ls' := [some (.ref 0), some (.int x12), some (.int x13), some (.int x23), some (.int x24)]) 58 dX10_crooked_55 rfl (by rw [ex24]; rfl) (Nat.le_of_ble_eq_true rfl) rfl rfl ?_
        refine ev_goto 25 dX10_crooked_58 rfl ?_
        exact (ih _ _ _ _ _ h).fewer (rx_le_s (rx_le_s (rx_le_s (rx_le_s (rx_le_s rx_le_0)))))

set_option maxHeartbeats 4000000 in
set_option maxRecDepth 20000 in
theorem em_X10_crooked {d N : Nat} {x1 : Int32} {x2 : Int32} {S0 : rx_S} {zr : Int32} {zS : rx_S} (h : f_X10_crooked N x1 x2 S0 = some (zr, zS)) : EM gC (d + 4) mX10_crooked [.ref 0, .int x1, .int x2] S0 (rx_pi zr zS) := by
  unfold f_X10_crooked at h
  show EV gC (d + 4) mX10_crooked 0 [some (.ref 0), some (.int x1), some (.int x2), none, none] [] S0 (rx_pi zr zS)
  refine ev_aload_n (i := 0) 1 dX10_crooked_0 rfl rfl rfl ?_
  refine ev_get (v := .ref 2) 4 dX10_crooked_1 dk_0 fl_10_20 (by decide) rfl rfl rfl ?_
  refine ev_iload_n (i := 1) 5 dX10_crooked_4 rfl rfl rfl ?_
  obtain ⟨x5, S4, g6, h⟩ := rx_bd_o h
  refine ev_cVi1 8 dX10_crooked_5 (em_X8_hasThird_2 g6) mm_X8_hasThird mv_X8_hasThird lk_10_123 dk_2 (by decide) rfl (Nat.le_of_ble_eq_true rfl) (Nat.le_of_ble_eq_true rfl) rfl ?_
  refine ev_if_eq 18 11 dX10_crooked_8 rfl rfl (fun c7 => ?_) (fun c7 => ?_)
  · replace h := rx_if_t c7 h
    refine ev_iconst (v := (-1)) 19 dX10_crooked_18 (by decide) rfl ?_
    exact ev_ireturn dX10_crooked_19 rfl (rx_ret_i h)
  · replace h := rx_if_f c7 h
    refine ev_iload_n (i := 2) 12 dX10_crooked_11 rfl rfl rfl ?_
    obtain ⟨x9, S8, g10, h⟩ := rx_bd_o h
    refine ev_cSi1 15 dX10_crooked_12 (em_X10_isPlace g10) mm_X10_isPlace ms_X10_isPlace lk_10_188 (Nat.le_of_ble_eq_true rfl) (Nat.le_of_ble_eq_true rfl) rfl ?_
    refine ev_if_ne 20 18 dX10_crooked_15 rfl rfl (fun c11 => ?_) (fun c11 => ?_)
    · replace h := rx_if_f c11 h
      refine ev_iconst (v := 0) 21 dX10_crooked_20 (by decide) rfl ?_
      refine ev_istore_n (ls' := [some (.ref 0), some (.int x1), some (.int x2), some (.int 0), none]) 22 dX10_crooked_21 rfl (Nat.le_of_ble_eq_true rfl) rfl rfl ?_
      refine ev_iconst (v := 0) 23 dX10_crooked_22 (by decide) rfl ?_
      refine ev_istore (ls' := [some (.ref 0), some (.int x1), some (.int x2), some (.int 0), some (.int 0)]) 25 dX10_crooked_23 (Nat.le_of_ble_eq_true rfl) rfl rfl ?_
      exact (em_X10_crooked_L25 _ _ _ _ _ _ h).fewer (rx_le_s (rx_le_s (rx_le_s (rx_le_s (rx_le_s rx_le_0)))))
    · replace h := rx_if_t c11 h
      refine ev_iconst (v := (-1)) 19 dX10_crooked_18 (by decide) rfl ?_
      exact ev_ireturn dX10_crooked_19 rfl (rx_ret_i h)

def f_X10_altered (N : Nat) (x1 : Int32) (x2 : Int32) (S0 : rx_S) : Option (Int32 × rx_S) := rx_bd (f_X5_isRow N x1 S0) (fun x5 S4 => if x5 = 0 then (some ((-1), S4)) else (rx_bd (f_X5_isRow N x2 S4) (fun x9 S8 => if x9 = 0 then (some ((-1), S8)) else (rx_bd (f_X5_changes N x1 x2 S8) (fun x13 S12 => some (x13, S12))))))
set_option maxHeartbeats 4000000 in
set_option maxRecDepth 20000 in
theorem em_X10_altered {d N : Nat} {x1 : Int32} {x2 : Int32} {S0 : rx_S} {zr : Int32} {zS : rx_S} (h : f_X10_altered N x1 x2 S0 = some (zr, zS)) : EM gC (d + 3) mX10_altered [.ref 0, .int x1, .int x2] S0 (rx_pi zr zS) := by
  unfold f_X10_altered at h
  show EV gC (d + 3) mX10_altered 0 [some (.ref 0), some (.int x1), some (.int x2)] [] S0 (rx_pi zr zS)
  refine ev_iload_n (i := 1) 1 dX10_altered_0 rfl rfl rfl ?_
  obtain ⟨x5, S4, g6, h⟩ := rx_bd_o h
  refine ev_cSi1 4 dX10_altered_1 (em_X5_isRow g6) mm_X5_isRow ms_X5_isRow lk_10_195 (Nat.le_of_ble_eq_true rfl) (Nat.le_of_ble_eq_true rfl) rfl ?_
  refine ev_if_eq 14 7 dX10_altered_4 rfl rfl (fun c7 => ?_) (fun c7 => ?_)
  · replace h := rx_if_t c7 h
    refine ev_iconst (v := (-1)) 15 dX10_altered_14 (by decide) rfl ?_
    exact ev_ireturn dX10_altered_15 rfl (rx_ret_i h)
  · replace h := rx_if_f c7 h
    refine ev_iload_n (i := 2) 8 dX10_altered_7 rfl rfl rfl ?_
    obtain ⟨x9, S8, g10, h⟩ := rx_bd_o h
    refine ev_cSi1 11 dX10_altered_8 (em_X5_isRow g10) mm_X5_isRow ms_X5_isRow lk_10_195 (Nat.le_of_ble_eq_true rfl) (Nat.le_of_ble_eq_true rfl) rfl ?_
    refine ev_if_ne 16 14 dX10_altered_11 rfl rfl (fun c11 => ?_) (fun c11 => ?_)
    · replace h := rx_if_f c11 h
      refine ev_aload_n (i := 0) 17 dX10_altered_16 rfl rfl rfl ?_
      refine ev_get (v := .ref 81) 20 dX10_altered_17 dk_0 fl_10_56 (by decide) rfl rfl rfl ?_
      refine ev_get (v := .ref 82) 23 dX10_altered_20 dk_81 fl_10_216 (by decide) rfl rfl rfl ?_
      refine ev_iload_n (i := 1) 24 dX10_altered_23 rfl rfl rfl ?_
      refine ev_iload_n (i := 2) 25 dX10_altered_24 rfl rfl rfl ?_
      obtain ⟨x13, S12, g14, h⟩ := rx_bd_o h
      refine ev_cVi2 28 dX10_altered_25 (em_X5_changes g14) mm_X5_changes mv_X5_changes lk_10_220 dk_82 (by decide) rfl (Nat.le_of_ble_eq_true rfl) (Nat.le_of_ble_eq_true rfl) rfl ?_
      exact ev_ireturn dX10_altered_28 rfl (rx_ret_i h)
    · replace h := rx_if_t c11 h
      refine ev_iconst (v := (-1)) 15 dX10_altered_14 (by decide) rfl ?_
      exact ev_ireturn dX10_altered_15 rfl (rx_ret_i h)

def f_X10_takes (N : Nat) (x1 : Int32) (x2 : Int32) (S0 : rx_S) : Option (Int32 × rx_S) := rx_bd (f_X8_hasSpouse 2 x1 S0) (fun x5 S4 => if x5 = 0 then (some ((-1), S4)) else (rx_bd (f_X5_isRow N x2 S4) (fun x9 S8 => if x9 = 0 then (some ((-1), S8)) else (rx_bd (f_X7_moodBehind 32 N x1 x2 S8) (fun x13 S12 => some (x13, S12))))))
set_option maxHeartbeats 4000000 in
set_option maxRecDepth 20000 in
theorem em_X10_takes {d N : Nat} {x1 : Int32} {x2 : Int32} {S0 : rx_S} {zr : Int32} {zS : rx_S} (h : f_X10_takes N x1 x2 S0 = some (zr, zS)) : EM gC (d + 3) mX10_takes [.ref 0, .int x1, .int x2] S0 (rx_pi zr zS) := by
  unfold f_X10_takes at h
  show EV gC (d + 3) mX10_takes 0 [some (.ref 0), some (.int x1), some (.int x2)] [] S0 (rx_pi zr zS)
  refine ev_aload_n (i := 0) 1 dX10_takes_0 rfl rfl rfl ?_
  refine ev_get (v := .ref 2) 4 dX10_takes_1 dk_0 fl_10_20 (by decide) rfl rfl rfl ?_
  refine ev_iload_n (i := 1) 5 dX10_takes_4 rfl rfl rfl ?_
  obtain ⟨x5, S4, g6, h⟩ := rx_bd_o h
  refine ev_cVi1 8 dX10_takes_5 (em_X8_hasSpouse_2 g6) mm_X8_hasSpouse mv_X8_hasSpouse lk_10_106 dk_2 (by decide) rfl (Nat.le_of_ble_eq_true rfl) (Nat.le_of_ble_eq_true rfl) rfl ?_
  refine ev_if_eq 18 11 dX10_takes_8 rfl rfl (fun c7 => ?_) (fun c7 => ?_)
  · replace h := rx_if_t c7 h
    refine ev_iconst (v := (-1)) 19 dX10_takes_18 (by decide) rfl ?_
    exact ev_ireturn dX10_takes_19 rfl (rx_ret_i h)
  · replace h := rx_if_f c7 h
    refine ev_iload_n (i := 2) 12 dX10_takes_11 rfl rfl rfl ?_
    obtain ⟨x9, S8, g10, h⟩ := rx_bd_o h
    refine ev_cSi1 15 dX10_takes_12 (em_X5_isRow g10) mm_X5_isRow ms_X5_isRow lk_10_195 (Nat.le_of_ble_eq_true rfl) (Nat.le_of_ble_eq_true rfl) rfl ?_
    refine ev_if_ne 20 18 dX10_takes_15 rfl rfl (fun c11 => ?_) (fun c11 => ?_)
    · replace h := rx_if_f c11 h
      refine ev_aload_n (i := 0) 21 dX10_takes_20 rfl rfl rfl ?_
      refine ev_get (v := .ref 80) 24 dX10_takes_21 dk_0 fl_10_47 (by decide) rfl rfl rfl ?_
      refine ev_aload_n (i := 0) 25 dX10_takes_24 rfl rfl rfl ?_
      refine ev_get (v := .ref 32) 28 dX10_takes_25 dk_0 fl_10_31 (by decide) rfl rfl rfl ?_
      refine ev_iload_n (i := 1) 29 dX10_takes_28 rfl rfl rfl ?_
      refine ev_iload_n (i := 2) 30 dX10_takes_29 rfl rfl rfl ?_
      obtain ⟨x13, S12, g14, h⟩ := rx_bd_o h
      refine ev_cVi3 33 dX10_takes_30 (em_X7_moodBehind_32 g14) mm_X7_moodBehind mv_X7_moodBehind lk_10_223 dk_80 (by decide) rfl (Nat.le_of_ble_eq_true rfl) (Nat.le_of_ble_eq_true rfl) rfl ?_
      exact ev_ireturn dX10_takes_33 rfl (rx_ret_i h)
    · replace h := rx_if_t c11 h
      refine ev_iconst (v := (-1)) 19 dX10_takes_18 (by decide) rfl ?_
      exact ev_ireturn dX10_takes_19 rfl (rx_ret_i h)

def f_X10_hires (N : Nat) (x1 : Int32) (S0 : rx_S) : Option (Int32 × rx_S) := rx_let (fun (x3 : Int32) (S4 : rx_S) => rx_bd (f_X6_bestHire N x3 S4) (fun x6 S5 => some (x6, S5))) (fun J18_1 => if x1 = (-1) then (J18_1 x1 S0) else (rx_bd (f_X8_hasCouple 2 x1 S0) (fun x10 S9 => if x10 = 0 then (some ((-1), S9)) else (J18_1 x1 S9))))
set_option maxHeartbeats 4000000 in
set_option maxRecDepth 20000 in
theorem em_X10_hires {d N : Nat} {x1 : Int32} {S0 : rx_S} {zr : Int32} {zS : rx_S} (h : f_X10_hires N x1 S0 = some (zr, zS)) : EM gC (d + 7) mX10_hires [.ref 0, .int x1] S0 (rx_pi zr zS) := by
  unfold f_X10_hires at h
  show EV gC (d + 7) mX10_hires 0 [some (.ref 0), some (.int x1)] [] S0 (rx_pi zr zS)
  refine ev_iload_n (i := 1) 1 dX10_hires_0 rfl rfl rfl ?_
  refine ev_iconst (v := (-1)) 2 dX10_hires_1 (by decide) rfl ?_
  obtain ⟨J18_1, eJ18_1, h⟩ := rx_let_o h
  have hJ18_1 : ∀ (x3 : Int32) (S4 : rx_S), J18_1 x3 S4 = some (zr, zS) → EV gC (d + 7) mX10_hires 18 [some (.ref 0), some (.int x3)] [] S4 (rx_pi zr zS) := by
    intro x3 S4 h
    subst eJ18_1
    refine ev_aload_n (i := 0) 19 dX10_hires_18 rfl rfl rfl ?_
    refine ev_get (v := .ref 81) 22 dX10_hires_19 dk_0 fl_10_56 (by decide) rfl rfl rfl ?_
    refine ev_aload_n (i := 0) 23 dX10_hires_22 rfl rfl rfl ?_
    refine ev_get (v := .ref 32) 26 dX10_hires_23 dk_0 fl_10_31 (by decide) rfl rfl rfl ?_
    refine ev_iload_n (i := 1) 27 dX10_hires_26 rfl rfl rfl ?_
    obtain ⟨x6, S5, g7, h⟩ := rx_bd_o h
    refine ev_cVi2 30 dX10_hires_27 (em_X6_bestHire g7) mm_X6_bestHire mv_X6_bestHire lk_10_226 dk_81 (by decide) rfl (Nat.le_of_ble_eq_true rfl) (Nat.le_of_ble_eq_true rfl) rfl ?_
    exact ev_ireturn dX10_hires_30 rfl (rx_ret_i h)
  refine ev_icmp_eq 18 5 dX10_hires_2 rfl rfl (fun c8 => ?_) (fun c8 => ?_)
  · replace h := rx_if_t c8 h
    exact (hJ18_1 _ _ h).fewer (rx_le_s (rx_le_s rx_le_0))
  · replace h := rx_if_f c8 h
    refine ev_aload_n (i := 0) 6 dX10_hires_5 rfl rfl rfl ?_
    refine ev_get (v := .ref 2) 9 dX10_hires_6 dk_0 fl_10_20 (by decide) rfl rfl rfl ?_
    refine ev_iload_n (i := 1) 10 dX10_hires_9 rfl rfl rfl ?_
    obtain ⟨x10, S9, g11, h⟩ := rx_bd_o h
    refine ev_cVi1 13 dX10_hires_10 (em_X8_hasCouple_2 g11) mm_X8_hasCouple mv_X8_hasCouple lk_10_117 dk_2 (by decide) rfl (Nat.le_of_ble_eq_true rfl) (Nat.le_of_ble_eq_true rfl) rfl ?_
    refine ev_if_ne 18 16 dX10_hires_13 rfl rfl (fun c12 => ?_) (fun c12 => ?_)
    · replace h := rx_if_f c12 h
      exact (hJ18_1 _ _ h).fewer (rx_le_s (rx_le_s rx_le_0))
    · replace h := rx_if_t c12 h
      refine ev_iconst (v := (-1)) 17 dX10_hires_16 (by decide) rfl ?_
      exact ev_ireturn dX10_hires_17 rfl (rx_ret_i h)

def f_X10_then (N : Nat) (x1 : Int32) (x2 : Int32) (S0 : rx_S) : Option (Int32 × rx_S) := rx_bd (f_X8_hasSpouse 2 x1 S0) (fun x5 S4 => if x5 = 0 then (some ((-1), S4)) else (if x2 < 0 then (some ((-1), S4)) else (if x2 ≤ 60 then (rx_bd (f_X0_behind N x2 S4) (fun x11 S10 => rx_gd ((4 : Int32) + x1) 48 (some ((S10.1 89 (Int32.toNatClampNeg ((4 : Int32) + x1))), S10)))) else (some ((-1), S4)))))
set_option maxHeartbeats 4000000 in
set_option maxRecDepth 20000 in
theorem em_X10_then {d N : Nat} {x1 : Int32} {x2 : Int32} {S0 : rx_S} {zr : Int32} {zS : rx_S} (h : f_X10_then N x1 x2 S0 = some (zr, zS)) : EM gC (d + 7) mX10_then [.ref 0, .int x1, .int x2] S0 (rx_pi zr zS) := by
  unfold f_X10_then at h
  show EV gC (d + 7) mX10_then 0 [some (.ref 0), some (.int x1), some (.int x2)] [] S0 (rx_pi zr zS)
  refine ev_aload_n (i := 0) 1 dX10_then_0 rfl rfl rfl ?_
  refine ev_get (v := .ref 2) 4 dX10_then_1 dk_0 fl_10_20 (by decide) rfl rfl rfl ?_
  refine ev_iload_n (i := 1) 5 dX10_then_4 rfl rfl rfl ?_
  obtain ⟨x5, S4, g6, h⟩ := rx_bd_o h
  refine ev_cVi1 8 dX10_then_5 (em_X8_hasSpouse_2 g6) mm_X8_hasSpouse mv_X8_hasSpouse lk_10_106 dk_2 (by decide) rfl (Nat.le_of_ble_eq_true rfl) (Nat.le_of_ble_eq_true rfl) rfl ?_
  refine ev_if_eq 21 11 dX10_then_8 rfl rfl (fun c7 => ?_) (fun c7 => ?_)
  · replace h := rx_if_t c7 h
    refine ev_iconst (v := (-1)) 22 dX10_then_21 (by decide) rfl ?_
    exact ev_ireturn dX10_then_22 rfl (rx_ret_i h)
  · replace h := rx_if_f c7 h
    refine ev_iload_n (i := 2) 12 dX10_then_11 rfl rfl rfl ?_
    refine ev_if_lt 21 15 dX10_then_12 rfl rfl (fun c8 => ?_) (fun c8 => ?_)
    · replace h := rx_if_t c8 h
      refine ev_iconst (v := (-1)) 22 dX10_then_21 (by decide) rfl ?_
      exact ev_ireturn dX10_then_22 rfl (rx_ret_i h)
    · replace h := rx_if_f c8 h
      refine ev_iload_n (i := 2) 16 dX10_then_15 rfl rfl rfl ?_
      refine ev_bipush (v := 60) 18 dX10_then_16 (by decide) rfl ?_
      refine ev_icmp_le 23 21 dX10_then_18 rfl rfl (fun c9 => ?_) (fun c9 => ?_)
      · replace h := rx_if_t c9 h
        refine ev_aload_n (i := 0) 24 dX10_then_23 rfl rfl rfl ?_
        refine ev_get (v := .ref 88) 27 dX10_then_24 dk_0 fl_10_63 (by decide) rfl rfl rfl ?_
        refine ev_aload_n (i := 0) 28 dX10_then_27 rfl rfl rfl ?_
        refine ev_get (v := .ref 32) 31 dX10_then_28 dk_0 fl_10_31 (by decide) rfl rfl rfl ?_
        refine ev_iload_n (i := 2) 32 dX10_then_31 rfl rfl rfl ?_
        obtain ⟨x11, S10, g12, h⟩ := rx_bd_o h
        refine ev_cVr2 35 dX10_then_32 (em_X0_behind g12) mm_X0_behind mv_X0_behind lk_10_229 dk_88 (by decide) rfl (Nat.le_of_ble_eq_true rfl) (Nat.le_of_ble_eq_true rfl) rfl ?_
        refine ev_iconst (v := 4) 36 dX10_then_35 (by decide) rfl ?_
        refine ev_iload_n (i := 1) 37 dX10_then_36 rfl rfl rfl ?_
        refine ev_iadd 38 dX10_then_37 rfl ?_
        obtain ⟨g13, h⟩ := rx_gd_o h
        refine ex_iald _ 39 dX10_then_38 dk_89 g13 rfl rfl ?_
        exact ev_ireturn dX10_then_39 rfl (rx_ret_i h)
      · replace h := rx_if_f c9 h
        refine ev_iconst (v := (-1)) 22 dX10_then_21 (by decide) rfl ?_
        exact ev_ireturn dX10_then_22 rfl (rx_ret_i h)

def f_X10_paid (N : Nat) (x1 : Int32) (x2 : Int32) (x3 : Int32) (S0 : rx_S) : Option (Int32 × rx_S) := rx_bd (f_X8_hasThird 2 x1 S0) (fun x6 S5 => if x6 = 0 then (some ((-100000), S5)) else (if x2 < 0 then (some ((-100000), S5)) else (if x2 ≤ 60 then (if x3 = 0 then (rx_bd (f_X0_behind N x2 S5) (fun x13 S12 => rx_gd ((40 : Int32) + x1) 48 (some ((S12.1 89 (Int32.toNatClampNeg ((40 : Int32) + x1))), S12)))) else (if x3 = 1 then (rx_bd (f_X0_behind N x2 S5) (fun x18 S17 => rx_gd ((28 : Int32) + x1) 48 (some ((S17.1 89 (Int32.toNatClampNeg ((28 : Int32) + x1))), S17)))) else (if x3 = 2 then (rx_bd (f_X0_behind N x2 S5) (fun x23 S22 => rx_gd ((32 : Int32) + x1) 48 (some ((S22.1 89 (Int32.toNatClampNeg ((32 : Int32) + x1))), S22)))) else (some ((-100000), S5))))) else (some ((-100000), S5)))))
set_option maxHeartbeats 4000000 in
set_option maxRecDepth 20000 in
theorem em_X10_paid {d N : Nat} {x1 : Int32} {x2 : Int32} {x3 : Int32} {S0 : rx_S} {zr : Int32} {zS : rx_S} (h : f_X10_paid N x1 x2 x3 S0 = some (zr, zS)) : EM gC (d + 7) mX10_paid [.ref 0, .int x1, .int x2, .int x3] S0 (rx_pi zr zS) := by
  unfold f_X10_paid at h
  show EV gC (d + 7) mX10_paid 0 [some (.ref 0), some (.int x1), some (.int x2), some (.int x3)] [] S0 (rx_pi zr zS)
  refine ev_aload_n (i := 0) 1 dX10_paid_0 rfl rfl rfl ?_
  refine ev_get (v := .ref 2) 4 dX10_paid_1 dk_0 fl_10_20 (by decide) rfl rfl rfl ?_
  refine ev_iload_n (i := 1) 5 dX10_paid_4 rfl rfl rfl ?_
  obtain ⟨x6, S5, g7, h⟩ := rx_bd_o h
  refine ev_cVi1 8 dX10_paid_5 (em_X8_hasThird_2 g7) mm_X8_hasThird mv_X8_hasThird lk_10_123 dk_2 (by decide) rfl (Nat.le_of_ble_eq_true rfl) (Nat.le_of_ble_eq_true rfl) rfl ?_
  refine ev_if_eq 21 11 dX10_paid_8 rfl rfl (fun c8 => ?_) (fun c8 => ?_)
  · replace h := rx_if_t c8 h
    refine ev_ldc (v := (-100000)) 23 dX10_paid_21 rfl ct_10_126 rfl ?_
    exact ev_ireturn dX10_paid_23 rfl (rx_ret_i h)
  · replace h := rx_if_f c8 h
    refine ev_iload_n (i := 2) 12 dX10_paid_11 rfl rfl rfl ?_
    refine ev_if_lt 21 15 dX10_paid_12 rfl rfl (fun c9 => ?_) (fun c9 => ?_)
    · replace h := rx_if_t c9 h
      refine ev_ldc (v := (-100000)) 23 dX10_paid_21 rfl ct_10_126 rfl ?_
      exact ev_ireturn dX10_paid_23 rfl (rx_ret_i h)
    · replace h := rx_if_f c9 h
      refine ev_iload_n (i := 2) 16 dX10_paid_15 rfl rfl rfl ?_
      refine ev_bipush (v := 60) 18 dX10_paid_16 (by decide) rfl ?_
      refine ev_icmp_le 24 21 dX10_paid_18 rfl rfl (fun c10 => ?_) (fun c10 => ?_)
      · replace h := rx_if_t c10 h
        refine ev_iload_n (i := 3) 25 dX10_paid_24 rfl rfl rfl ?_
        by_cases c11 : x3 = 0
        · replace h := rx_if_t c11 h
          refine ev_tableIn 52 dX10_paid_25 (by rw [c11]; decide) (by rw [c11]; decide) (off := 27) (by rw [c11]; rfl) rfl ?_
          refine ev_aload_n (i := 0) 53 dX10_paid_52 rfl rfl rfl ?_
          refine ev_get (v := .ref 88) 56 dX10_paid_53 dk_0 fl_10_63 (by decide) rfl rfl rfl ?_
          refine ev_aload_n (i := 0) 57 dX10_paid_56 rfl rfl rfl ?_
          refine ev_get (v := .ref 32) 60 dX10_paid_57 dk_0 fl_10_31 (by decide) rfl rfl rfl ?_
          refine ev_iload_n (i := 2) 61 dX10_paid_60 rfl rfl rfl ?_
          obtain ⟨x13, S12, g14, h⟩ := rx_bd_o h
          refine ev_cVr2 64 dX10_paid_61 (em_X0_behind g14) mm_X0_behind mv_X0_behind lk_10_229 dk_88 (by decide) rfl (Nat.le_of_ble_eq_true rfl) (Nat.le_of_ble_eq_true rfl) rfl ?_
          refine ev_bipush (v := 40) 66 dX10_paid_64 (by decide) rfl ?_
          refine ev_iload_n (i := 1) 67 dX10_paid_66 rfl rfl rfl ?_
          refine ev_iadd 68 dX10_paid_67 rfl ?_
          obtain ⟨g15, h⟩ := rx_gd_o h
          refine ex_iald _ 69 dX10_paid_68 dk_89 g15 rfl rfl ?_
          exact ev_ireturn dX10_paid_69 rfl (rx_ret_i h)
        · replace h := rx_if_f c11 h
          by_cases c16 : x3 = 1
          · replace h := rx_if_t c16 h
            refine ev_tableIn 70 dX10_paid_25 (by rw [c16]; decide) (by rw [c16]; decide) (off := 45) (by rw [c16]; rfl) rfl ?_
            refine ev_aload_n (i := 0) 71 dX10_paid_70 rfl rfl rfl ?_
            refine ev_get (v := .ref 88) 74 dX10_paid_71 dk_0 fl_10_63 (by decide) rfl rfl rfl ?_
            refine ev_aload_n (i := 0) 75 dX10_paid_74 rfl rfl rfl ?_
            refine ev_get (v := .ref 32) 78 dX10_paid_75 dk_0 fl_10_31 (by decide) rfl rfl rfl ?_
            refine ev_iload_n (i := 2) 79 dX10_paid_78 rfl rfl rfl ?_
            obtain ⟨x18, S17, g19, h⟩ := rx_bd_o h
            refine ev_cVr2 82 dX10_paid_79 (em_X0_behind g19) mm_X0_behind mv_X0_behind lk_10_229 dk_88 (by decide) rfl (Nat.le_of_ble_eq_true rfl) (Nat.le_of_ble_eq_true rfl) rfl ?_
            refine ev_bipush (v := 28) 84 dX10_paid_82 (by decide) rfl ?_
            refine ev_iload_n (i := 1) 85 dX10_paid_84 rfl rfl rfl ?_
            refine ev_iadd 86 dX10_paid_85 rfl ?_
            obtain ⟨g20, h⟩ := rx_gd_o h
            refine ex_iald _ 87 dX10_paid_86 dk_89 g20 rfl rfl ?_
            exact ev_ireturn dX10_paid_87 rfl (rx_ret_i h)
          · replace h := rx_if_f c16 h
            by_cases c21 : x3 = 2
            · replace h := rx_if_t c21 h
              refine ev_tableIn 88 dX10_paid_25 (by rw [c21]; decide) (by rw [c21]; decide) (off := 63) (by rw [c21]; rfl) rfl ?_
              refine ev_aload_n (i := 0) 89 dX10_paid_88 rfl rfl rfl ?_
              refine ev_get (v := .ref 88) 92 dX10_paid_89 dk_0 fl_10_63 (by decide) rfl rfl rfl ?_
              refine ev_aload_n (i := 0) 93 dX10_paid_92 rfl rfl rfl ?_
              refine ev_get (v := .ref 32) 96 dX10_paid_93 dk_0 fl_10_31 (by decide) rfl rfl rfl ?_
              refine ev_iload_n (i := 2) 97 dX10_paid_96 rfl rfl rfl ?_
              obtain ⟨x23, S22, g24, h⟩ := rx_bd_o h
              refine ev_cVr2 100 dX10_paid_97 (em_X0_behind g24) mm_X0_behind mv_X0_behind lk_10_229 dk_88 (by decide) rfl (Nat.le_of_ble_eq_true rfl) (Nat.le_of_ble_eq_true rfl) rfl ?_
              refine ev_bipush (v := 32) 102 dX10_paid_100 (by decide) rfl ?_
              refine ev_iload_n (i := 1) 103 dX10_paid_102 rfl rfl rfl ?_
              refine ev_iadd 104 dX10_paid_103 rfl ?_
              obtain ⟨g25, h⟩ := rx_gd_o h
              refine ex_iald _ 105 dX10_paid_104 dk_89 g25 rfl rfl ?_
              exact ev_ireturn dX10_paid_105 rfl (rx_ret_i h)
            · replace h := rx_if_f c21 h
              refine ev_tableOut 106 dX10_paid_25 (by have q0 := rx_ne c11 (z := 0) (by decide); have q1 := rx_ne c16 (z := 1) (by decide); have q2 := rx_ne c21 (z := 2) (by decide); omega) rfl ?_
              refine ev_ldc (v := (-100000)) 108 dX10_paid_106 rfl ct_10_126 rfl ?_
              exact ev_ireturn dX10_paid_108 rfl (rx_ret_i h)
      · replace h := rx_if_f c10 h
        refine ev_ldc (v := (-100000)) 23 dX10_paid_21 rfl ct_10_126 rfl ?_
        exact ev_ireturn dX10_paid_23 rfl (rx_ret_i h)

def f_X10_parts (N : Nat) (x1 : Int32) (S0 : rx_S) : Option (Int32 × rx_S) := rx_bd (f_X8_hasCouple 2 x1 S0) (fun x4 S3 => if x4 = 0 then (some ((-1), S3)) else (rx_bd (f_X0_weeksToPart N x1 200 (S3.1 2 10) S3) (fun x8 S7 => some (x8, S7))))
set_option maxHeartbeats 4000000 in
set_option maxRecDepth 20000 in
theorem em_X10_parts {d N : Nat} {x1 : Int32} {S0 : rx_S} {zr : Int32} {zS : rx_S} (h : f_X10_parts N x1 S0 = some (zr, zS)) : EM gC (d + 7) mX10_parts [.ref 0, .int x1] S0 (rx_pi zr zS) := by
  unfold f_X10_parts at h
  show EV gC (d + 7) mX10_parts 0 [some (.ref 0), some (.int x1)] [] S0 (rx_pi zr zS)
  refine ev_aload_n (i := 0) 1 dX10_parts_0 rfl rfl rfl ?_
  refine ev_get (v := .ref 2) 4 dX10_parts_1 dk_0 fl_10_20 (by decide) rfl rfl rfl ?_
  refine ev_iload_n (i := 1) 5 dX10_parts_4 rfl rfl rfl ?_
  obtain ⟨x4, S3, g5, h⟩ := rx_bd_o h
  refine ev_cVi1 8 dX10_parts_5 (em_X8_hasCouple_2 g5) mm_X8_hasCouple mv_X8_hasCouple lk_10_117 dk_2 (by decide) rfl (Nat.le_of_ble_eq_true rfl) (Nat.le_of_ble_eq_true rfl) rfl ?_
  refine ev_if_ne 13 11 dX10_parts_8 rfl rfl (fun c6 => ?_) (fun c6 => ?_)
  · replace h := rx_if_f c6 h
    refine ev_aload_n (i := 0) 14 dX10_parts_13 rfl rfl rfl ?_
    refine ev_get (v := .ref 88) 17 dX10_parts_14 dk_0 fl_10_63 (by decide) rfl rfl rfl ?_
    refine ev_aload_n (i := 0) 18 dX10_parts_17 rfl rfl rfl ?_
    refine ev_get (v := .ref 32) 21 dX10_parts_18 dk_0 fl_10_31 (by decide) rfl rfl rfl ?_
    refine ev_iload_n (i := 1) 22 dX10_parts_21 rfl rfl rfl ?_
    refine ev_sipush (v := 200) 25 dX10_parts_22 (by decide) rfl ?_
    refine ev_aload_n (i := 0) 26 dX10_parts_25 rfl rfl rfl ?_
    refine ev_get (v := .ref 2) 29 dX10_parts_26 dk_0 fl_10_20 (by decide) rfl rfl rfl ?_
    refine ev_get (v := .int (S3.1 2 10)) 32 dX10_parts_29 dk_2 fl_10_167 (by decide) rfl rfl rfl ?_
    obtain ⟨x8, S7, g9, h⟩ := rx_bd_o h
    refine ev_cVi4 35 dX10_parts_32 (em_X0_weeksToPart g9) mm_X0_weeksToPart mv_X0_weeksToPart lk_10_233 dk_88 (by decide) rfl (Nat.le_of_ble_eq_true rfl) (Nat.le_of_ble_eq_true rfl) rfl ?_
    exact ev_ireturn dX10_parts_35 rfl (rx_ret_i h)
  · replace h := rx_if_t c6 h
    refine ev_iconst (v := (-1)) 12 dX10_parts_11 (by decide) rfl ?_
    exact ev_ireturn dX10_parts_12 rfl (rx_ret_i h)

def f_X10_oaths_L20 (N : Nat) (K52 : Int32 → rx_S → Option (Int32 × rx_S)) : Nat → Int32 → Int32 → Int32 → rx_S → Option (Int32 × rx_S)
  | 0, _, _, _, _ => none
  | n + 1, x12, x13, x14, S15 => if ((1 : Int32) <<< ((S15.1 2 8) &&& 31)) ≤ x14 then (K52 x13 S15) else (rx_bd (f_X0_tryOaths N x12 x14 S15) (fun x20 S19 => rx_let (x14 + 1) (fun x22 => f_X10_oaths_L20 N K52 n x12 x13 x22 S19)))
def f_X10_oaths (N : Nat) (x1 : Int32) (x2 : Int32) (S0 : rx_S) : Option (Int32 × rx_S) := if x1 < 1 then (some ((-1), S0)) else (if (24 : Int32) < x1 then (some ((-1), S0)) else (if ((-1) : Int32) ≤ x2 then (rx_let (fun (x7 : Int32) (S8 : rx_S) => rx_bd (f_X0_restingOaths N x7 S8) (fun x10 S9 => some (x10, S9))) (fun J52_1 => f_X10_oaths_L20 N J52_1 N x1 x2 0 S0)) else (some ((-1), S0))))
set_option maxHeartbeats 4000000 in
set_option maxRecDepth 20000 in
theorem em_X10_oaths_L20 {d N : Nat} {K52 : Int32 → rx_S → Option (Int32 × rx_S)} {zr : Int32} {zS : rx_S} (hK52 : ∀ (x16 : Int32) (S17 : rx_S), K52 x16 S17 = some (zr, zS) → EV gC (d + 7) mX10_oaths 52 [some (.ref 0), none, some (.int x16), none] [] S17 (rx_pi zr zS)) : ∀ (n : Nat) (x12 : Int32) (x13 : Int32) (x14 : Int32) (S15 : rx_S), f_X10_oaths_L20 N K52 n x12 x13 x14 S15 = some (zr, zS) → EV gC (d + 7) mX10_oaths 20 [some (.ref 0), some (.int x12), some (.int x13), some (.int x14)] [] S15 (rx_pi zr zS) := by
  intro n
  induction n with
  | zero => intro x12 x13 x14 S15 h; cases h
  | succ n ih =>
    intro x12 x13 x14 S15 h
    rw [f_X10_oaths_L20] at h
    refine ev_iload_n (i := 3) 21 dX10_oaths_20 rfl rfl rfl ?_
    refine ev_iconst (v := 1) 22 dX10_oaths_21 (by decide) rfl ?_
    refine ev_aload_n (i := 0) 23 dX10_oaths_22 rfl rfl rfl ?_
    refine ev_get (v := .ref 2) 26 dX10_oaths_23 dk_0 fl_10_20 (by decide) rfl rfl rfl ?_
    refine ev_get (v := .int (S15.1 2 8)) 29 dX10_oaths_26 dk_2 fl_10_144 (by decide) rfl rfl rfl ?_
    refine ev_ishl 30 dX10_oaths_29 rfl ?_
    refine ev_icmp_ge 52 33 dX10_oaths_30 rfl rfl (fun c18 => ?_) (fun c18 => ?_)
    · replace h := rx_if_t c18 h
      exact (hK52 _ _ h).fewer (rx_le_s (rx_le_n (rx_le_s (rx_le_n rx_le_0))))
    · replace h := rx_if_f c18 h
      refine ev_aload_n (i := 0) 34 dX10_oaths_33 rfl rfl rfl ?_
      refine ev_get (v := .ref 88) 37 dX10_oaths_34 dk_0 fl_10_63 (by decide) rfl rfl rfl ?_
      refine ev_aload_n (i := 0) 38 dX10_oaths_37 rfl rfl rfl ?_
      refine ev_get (v := .ref 32) 41 dX10_oaths_38 dk_0 fl_10_31 (by decide) rfl rfl rfl ?_
      refine ev_iload_n (i := 1) 42 dX10_oaths_41 rfl rfl rfl ?_
      refine ev_iload_n (i := 3) 43 dX10_oaths_42 rfl rfl rfl ?_
      obtain ⟨x20, S19, g21, h⟩ := rx_bd_o h
      refine ev_cVv3 46 dX10_oaths_43 (em_X0_tryOaths g21) mm_X0_tryOaths mv_X0_tryOaths lk_10_236 dk_88 (by decide) rfl (Nat.le_of_ble_eq_true rfl) (Nat.le_of_ble_eq_true rfl) rfl ?_
      obtain ⟨x22, ex22, h⟩ := rx_let_o h
      refine ev_iinc (v := x22) (ls' := [some (.ref 0), some (.int x12), some (.int x13), some (.int x22)]) 49 dX10_oaths_46 rfl (by rw [ex22]; rfl) (Nat.le_of_ble_eq_true rfl) rfl rfl ?_
      refine ev_goto 20 dX10_oaths_49 rfl ?_
      exact (ih _ _ _ _ h).fewer (rx_le_s (rx_le_s (rx_le_s (rx_le_s rx_le_0))))

set_option maxHeartbeats 4000000 in
set_option maxRecDepth 20000 in
theorem em_X10_oaths {d N : Nat} {x1 : Int32} {x2 : Int32} {S0 : rx_S} {zr : Int32} {zS : rx_S} (h : f_X10_oaths N x1 x2 S0 = some (zr, zS)) : EM gC (d + 7) mX10_oaths [.ref 0, .int x1, .int x2] S0 (rx_pi zr zS) := by
  unfold f_X10_oaths at h
  show EV gC (d + 7) mX10_oaths 0 [some (.ref 0), some (.int x1), some (.int x2), none] [] S0 (rx_pi zr zS)
  refine ev_iload_n (i := 1) 1 dX10_oaths_0 rfl rfl rfl ?_
  refine ev_iconst (v := 1) 2 dX10_oaths_1 (by decide) rfl ?_
  refine ev_icmp_lt 16 5 dX10_oaths_2 rfl rfl (fun c4 => ?_) (fun c4 => ?_)
  · replace h := rx_if_t c4 h
    refine ev_iconst (v := (-1)) 17 dX10_oaths_16 (by decide) rfl ?_
    exact ev_ireturn dX10_oaths_17 rfl (rx_ret_i h)
  · replace h := rx_if_f c4 h
    refine ev_iload_n (i := 1) 6 dX10_oaths_5 rfl rfl rfl ?_
    refine ev_bipush (v := 24) 8 dX10_oaths_6 (by decide) rfl ?_
    refine ev_icmp_gt 16 11 dX10_oaths_8 rfl rfl (fun c5 => ?_) (fun c5 => ?_)
    · replace h := rx_if_t c5 h
      refine ev_iconst (v := (-1)) 17 dX10_oaths_16 (by decide) rfl ?_
      exact ev_ireturn dX10_oaths_17 rfl (rx_ret_i h)
    · replace h := rx_if_f c5 h
      refine ev_iload_n (i := 2) 12 dX10_oaths_11 rfl rfl rfl ?_
      refine ev_iconst (v := (-1)) 13 dX10_oaths_12 (by decide) rfl ?_
      refine ev_icmp_ge 18 16 dX10_oaths_13 rfl rfl (fun c6 => ?_) (fun c6 => ?_)
      · replace h := rx_if_t c6 h
        refine ev_iconst (v := 0) 19 dX10_oaths_18 (by decide) rfl ?_
        refine ev_istore_n (ls' := [some (.ref 0), some (.int x1), some (.int x2), some (.int 0)]) 20 dX10_oaths_19 rfl (Nat.le_of_ble_eq_true rfl) rfl rfl ?_
        obtain ⟨J52_1, eJ52_1, h⟩ := rx_let_o h
        have hJ52_1 : ∀ (x7 : Int32) (S8 : rx_S), J52_1 x7 S8 = some (zr, zS) → EV gC (d + 7) mX10_oaths 52 [some (.ref 0), none, some (.int x7), none] [] S8 (rx_pi zr zS) := by
          intro x7 S8 h
          subst eJ52_1
          refine ev_aload_n (i := 0) 53 dX10_oaths_52 rfl rfl rfl ?_
          refine ev_get (v := .ref 88) 56 dX10_oaths_53 dk_0 fl_10_63 (by decide) rfl rfl rfl ?_
          refine ev_iload_n (i := 2) 57 dX10_oaths_56 rfl rfl rfl ?_
          obtain ⟨x10, S9, g11, h⟩ := rx_bd_o h
          refine ev_cVi1 60 dX10_oaths_57 (em_X0_restingOaths g11) mm_X0_restingOaths mv_X0_restingOaths lk_10_240 dk_88 (by decide) rfl (Nat.le_of_ble_eq_true rfl) (Nat.le_of_ble_eq_true rfl) rfl ?_
          exact ev_ireturn dX10_oaths_60 rfl (rx_ret_i h)
        exact (em_X10_oaths_L20 hJ52_1 _ _ _ _ _ h).fewer (rx_le_s (rx_le_s (rx_le_s (rx_le_s rx_le_0))))
      · replace h := rx_if_f c6 h
        refine ev_iconst (v := (-1)) 17 dX10_oaths_16 (by decide) rfl ?_
        exact ev_ireturn dX10_oaths_17 rfl (rx_ret_i h)

def f_X10_year_L40 (N : Nat) : Nat → Int32 → Int32 → Int32 → Int32 → Int32 → rx_S → Option (Int32 × rx_S)
  | 0, _, _, _, _, _, _ => none
  | n + 1, x13, x14, x15, x16, x17, S18 => if x15 ≤ x17 then (some (x16, S18)) else (rx_bd (f_X0_weeksToPart N x13 x14 ((S18.1 2 10) + x17) S18) (fun x21 S20 => if x21 = (-2) then (rx_let (x17 + 1) (fun x24 => f_X10_year_L40 N n x13 x14 x15 x16 x24 S20)) else (rx_let (x16 + 1) (fun x25 => rx_let (x17 + 1) (fun x26 => f_X10_year_L40 N n x13 x14 x15 x25 x26 S20)))))
def f_X10_year (N : Nat) (x1 : Int32) (x2 : Int32) (x3 : Int32) (S0 : rx_S) : Option (Int32 × rx_S) := rx_bd (f_X8_hasCouple 2 x1 S0) (fun x6 S5 => if x6 = 0 then (some ((-1), S5)) else (if x2 < 0 then (some ((-1), S5)) else (if (60 : Int32) < x2 then (some ((-1), S5)) else (if x3 < 1 then (some ((-1), S5)) else (if x3 ≤ 20 then (f_X10_year_L40 N N x1 x2 x3 0 0 S5) else (some ((-1), S5)))))))
set_option maxHeartbeats 4000000 in
set_option maxRecDepth 20000 in
theorem em_X10_year_L40 {d N : Nat} {zr : Int32} {zS : rx_S} : ∀ (n : Nat) (x13 : Int32) (x14 : Int32) (x15 : Int32) (x16 : Int32) (x17 : Int32) (S18 : rx_S), f_X10_year_L40 N n x13 x14 x15 x16 x17 S18 = some (zr, zS) → EV gC (d + 7) mX10_year 40 [some (.ref 0), some (.int x13), some (.int x14), some (.int x15), some (.int x16), some (.int x17)] [] S18 (rx_pi zr zS) := by
  intro n
  induction n with
  | zero => intro x13 x14 x15 x16 x17 S18 h; cases h
  | succ n ih =>
    intro x13 x14 x15 x16 x17 S18 h
    rw [f_X10_year_L40] at h
    refine ev_iload 42 dX10_year_40 rfl rfl ?_
    refine ev_iload_n (i := 3) 43 dX10_year_42 rfl rfl rfl ?_
    refine ev_icmp_ge 83 46 dX10_year_43 rfl rfl (fun c19 => ?_) (fun c19 => ?_)
    · replace h := rx_if_t c19 h
      refine ev_iload 85 dX10_year_83 rfl rfl ?_
      exact ev_ireturn dX10_year_85 rfl (rx_ret_i h)
    · replace h := rx_if_f c19 h
      refine ev_aload_n (i := 0) 47 dX10_year_46 rfl rfl rfl ?_
      refine ev_get (v := .ref 88) 50 dX10_year_47 dk_0 fl_10_63 (by decide) rfl rfl rfl ?_
      refine ev_aload_n (i := 0) 51 dX10_year_50 rfl rfl rfl ?_
      refine ev_get (v := .ref 32) 54 dX10_year_51 dk_0 fl_10_31 (by decide) rfl rfl rfl ?_
      refine ev_iload_n (i := 1) 55 dX10_year_54 rfl rfl rfl ?_
      refine ev_iload_n (i := 2) 56 dX10_year_55 rfl rfl rfl ?_
      refine ev_aload_n (i := 0) 57 dX10_year_56 rfl rfl rfl ?_
      refine ev_get (v := .ref 2) 60 dX10_year_57 dk_0 fl_10_20 (by decide) rfl rfl rfl ?_
      refine ev_get (v := .int (S18.1 2 10)) 63 dX10_year_60 dk_2 fl_10_167 (by decide) rfl rfl rfl ?_
      refine ev_iload 65 dX10_year_63 rfl rfl ?_
      refine ev_iadd 66 dX10_year_65 rfl ?_
      obtain ⟨x21, S20, g22, h⟩ := rx_bd_o h
      refine ev_cVi4 69 dX10_year_66 (em_X0_weeksToPart g22) mm_X0_weeksToPart mv_X0_weeksToPart lk_10_233 dk_88 (by decide) rfl (Nat.le_of_ble_eq_true rfl) (Nat.le_of_ble_eq_true rfl) rfl ?_
      refine ev_bipush (v := (-2)) 71 dX10_year_69 (by decide) rfl ?_
      refine ev_icmp_eq 77 74 dX10_year_71 rfl rfl (fun c23 => ?_) (fun c23 => ?_)
      · replace h := rx_if_t c23 h
        obtain ⟨x24, ex24, h⟩ := rx_let_o h
        refine ev_iinc (v := x24) (ls' := [some (.ref 0), some (.int x13), some (.int x14), some (.int x15), some (.int x16), some (.int x24)]) 80 dX10_year_77 rfl (by rw [ex24]; rfl) (Nat.le_of_ble_eq_true rfl) rfl rfl ?_
        refine ev_goto 40 dX10_year_80 rfl ?_
        exact (ih _ _ _ _ _ _ h).fewer (rx_le_s (rx_le_s (rx_le_s (rx_le_s (rx_le_s (rx_le_s rx_le_0))))))
      · replace h := rx_if_f c23 h
        obtain ⟨x25, ex25, h⟩ := rx_let_o h
        refine ev_iinc (v := x25) (ls' := [some (.ref 0), some (.int x13), some (.int x14), some (.int x15), some (.int x25), some (.int x17)]) 77 dX10_year_74 rfl (by rw [ex25]; rfl) (Nat.le_of_ble_eq_true rfl) rfl rfl ?_
        obtain ⟨x26, ex26, h⟩ := rx_let_o h
        refine ev_iinc (v := x26) (ls' := [some (.ref 0), some (.int x13), some (.int x14), some (.int x15), some (.int x25), some (.int x26)]) 80 dX10_year_77 rfl (by rw [ex26]; rfl) (Nat.le_of_ble_eq_true rfl) rfl rfl ?_
        refine ev_goto 40 dX10_year_80 rfl ?_
        exact (ih _ _ _ _ _ _ h).fewer (rx_le_s (rx_le_s (rx_le_s (rx_le_s (rx_le_s (rx_le_s rx_le_0))))))

set_option maxHeartbeats 4000000 in
set_option maxRecDepth 20000 in
theorem em_X10_year {d N : Nat} {x1 : Int32} {x2 : Int32} {x3 : Int32} {S0 : rx_S} {zr : Int32} {zS : rx_S} (h : f_X10_year N x1 x2 x3 S0 = some (zr, zS)) : EM gC (d + 7) mX10_year [.ref 0, .int x1, .int x2, .int x3] S0 (rx_pi zr zS) := by
  unfold f_X10_year at h
  show EV gC (d + 7) mX10_year 0 [some (.ref 0), some (.int x1), some (.int x2), some (.int x3), none, none] [] S0 (rx_pi zr zS)
  refine ev_aload_n (i := 0) 1 dX10_year_0 rfl rfl rfl ?_
  refine ev_get (v := .ref 2) 4 dX10_year_1 dk_0 fl_10_20 (by decide) rfl rfl rfl ?_
  refine ev_iload_n (i := 1) 5 dX10_year_4 rfl rfl rfl ?_
  obtain ⟨x6, S5, g7, h⟩ := rx_bd_o h
  refine ev_cVi1 8 dX10_year_5 (em_X8_hasCouple_2 g7) mm_X8_hasCouple mv_X8_hasCouple lk_10_117 dk_2 (by decide) rfl (Nat.le_of_ble_eq_true rfl) (Nat.le_of_ble_eq_true rfl) rfl ?_
  refine ev_if_eq 32 11 dX10_year_8 rfl rfl (fun c8 => ?_) (fun c8 => ?_)
  · replace h := rx_if_t c8 h
    refine ev_iconst (v := (-1)) 33 dX10_year_32 (by decide) rfl ?_
    exact ev_ireturn dX10_year_33 rfl (rx_ret_i h)
  · replace h := rx_if_f c8 h
    refine ev_iload_n (i := 2) 12 dX10_year_11 rfl rfl rfl ?_
    refine ev_if_lt 32 15 dX10_year_12 rfl rfl (fun c9 => ?_) (fun c9 => ?_)
    · replace h := rx_if_t c9 h
      refine ev_iconst (v := (-1)) 33 dX10_year_32 (by decide) rfl ?_
      exact ev_ireturn dX10_year_33 rfl (rx_ret_i h)
    · replace h := rx_if_f c9 h
      refine ev_iload_n (i := 2) 16 dX10_year_15 rfl rfl rfl ?_
      refine ev_bipush (v := 60) 18 dX10_year_16 (by decide) rfl ?_
      refine ev_icmp_gt 32 21 dX10_year_18 rfl rfl (fun c10 => ?_) (fun c10 => ?_)
      · replace h := rx_if_t c10 h
        refine ev_iconst (v := (-1)) 33 dX10_year_32 (by decide) rfl ?_
        exact ev_ireturn dX10_year_33 rfl (rx_ret_i h)
      · replace h := rx_if_f c10 h
        refine ev_iload_n (i := 3) 22 dX10_year_21 rfl rfl rfl ?_
        refine ev_iconst (v := 1) 23 dX10_year_22 (by decide) rfl ?_
        refine ev_icmp_lt 32 26 dX10_year_23 rfl rfl (fun c11 => ?_) (fun c11 => ?_)
        · replace h := rx_if_t c11 h
          refine ev_iconst (v := (-1)) 33 dX10_year_32 (by decide) rfl ?_
          exact ev_ireturn dX10_year_33 rfl (rx_ret_i h)
        · replace h := rx_if_f c11 h
          refine ev_iload_n (i := 3) 27 dX10_year_26 rfl rfl rfl ?_
          refine ev_bipush (v := 20) 29 dX10_year_27 (by decide) rfl ?_
          refine ev_icmp_le 34 32 dX10_year_29 rfl rfl (fun c12 => ?_) (fun c12 => ?_)
          · replace h := rx_if_t c12 h
            refine ev_iconst (v := 0) 35 dX10_year_34 (by decide) rfl ?_
            refine ev_istore (ls' := [some (.ref 0), some (.int x1), some (.int x2), some (.int x3), some (.int 0), none]) 37 dX10_year_35 (Nat.le_of_ble_eq_true rfl) rfl rfl ?_
            refine ev_iconst (v := 0) 38 dX10_year_37 (by decide) rfl ?_
            refine ev_istore (ls' := [some (.ref 0), some (.int x1), some (.int x2), some (.int x3), some (.int 0), some (.int 0)]) 40 dX10_year_38 (Nat.le_of_ble_eq_true rfl) rfl rfl ?_
            exact (em_X10_year_L40 _ _ _ _ _ _ _ h).fewer (rx_le_s (rx_le_s (rx_le_s (rx_le_s (rx_le_s (rx_le_s rx_le_0))))))
          · replace h := rx_if_f c12 h
            refine ev_iconst (v := (-1)) 33 dX10_year_32 (by decide) rfl ?_
            exact ev_ireturn dX10_year_33 rfl (rx_ret_i h)

def f_X10_tell (N : Nat) (x1 : Int32) (x2 : Int32) (S0 : rx_S) : Option (Int32 × rx_S) := rx_bd (f_X10_isWord x1 S0) (fun x5 S4 => if x5 = 0 then (some ((-1), S4)) else (rx_bd (f_X5_isRow N x2 S4) (fun x9 S8 => if x9 = 0 then (some ((-1), S8)) else (rx_bd (f_X5_size N x2 S8) (fun x13 S12 => if x13 ≤ 1 then (rx_bd (f_X1_add x1 x2 S12) (fun x17 S16 => some (x17, S16))) else (some ((-1), S12)))))))
set_option maxHeartbeats 4000000 in
set_option maxRecDepth 20000 in
theorem em_X10_tell {d N : Nat} {x1 : Int32} {x2 : Int32} {S0 : rx_S} {zr : Int32} {zS : rx_S} (h : f_X10_tell N x1 x2 S0 = some (zr, zS)) : EM gC (d + 2) mX10_tell [.ref 0, .int x1, .int x2] S0 (rx_pi zr zS) := by
  unfold f_X10_tell at h
  show EV gC (d + 2) mX10_tell 0 [some (.ref 0), some (.int x1), some (.int x2)] [] S0 (rx_pi zr zS)
  refine ev_iload_n (i := 1) 1 dX10_tell_0 rfl rfl rfl ?_
  obtain ⟨x5, S4, g6, h⟩ := rx_bd_o h
  refine ev_cSi1 4 dX10_tell_1 (em_X10_isWord g6) mm_X10_isWord ms_X10_isWord lk_10_185 (Nat.le_of_ble_eq_true rfl) (Nat.le_of_ble_eq_true rfl) rfl ?_
  refine ev_if_eq 22 7 dX10_tell_4 rfl rfl (fun c7 => ?_) (fun c7 => ?_)
  · replace h := rx_if_t c7 h
    refine ev_iconst (v := (-1)) 23 dX10_tell_22 (by decide) rfl ?_
    exact ev_ireturn dX10_tell_23 rfl (rx_ret_i h)
  · replace h := rx_if_f c7 h
    refine ev_iload_n (i := 2) 8 dX10_tell_7 rfl rfl rfl ?_
    obtain ⟨x9, S8, g10, h⟩ := rx_bd_o h
    refine ev_cSi1 11 dX10_tell_8 (em_X5_isRow g10) mm_X5_isRow ms_X5_isRow lk_10_195 (Nat.le_of_ble_eq_true rfl) (Nat.le_of_ble_eq_true rfl) rfl ?_
    refine ev_if_eq 22 14 dX10_tell_11 rfl rfl (fun c11 => ?_) (fun c11 => ?_)
    · replace h := rx_if_t c11 h
      refine ev_iconst (v := (-1)) 23 dX10_tell_22 (by decide) rfl ?_
      exact ev_ireturn dX10_tell_23 rfl (rx_ret_i h)
    · replace h := rx_if_f c11 h
      refine ev_iload_n (i := 2) 15 dX10_tell_14 rfl rfl rfl ?_
      obtain ⟨x13, S12, g14, h⟩ := rx_bd_o h
      refine ev_cSi1 18 dX10_tell_15 (em_X5_size g14) mm_X5_size ms_X5_size lk_10_243 (Nat.le_of_ble_eq_true rfl) (Nat.le_of_ble_eq_true rfl) rfl ?_
      refine ev_iconst (v := 1) 19 dX10_tell_18 (by decide) rfl ?_
      refine ev_icmp_le 24 22 dX10_tell_19 rfl rfl (fun c15 => ?_) (fun c15 => ?_)
      · replace h := rx_if_t c15 h
        refine ev_aload_n (i := 0) 25 dX10_tell_24 rfl rfl rfl ?_
        refine ev_get (v := .ref 91) 28 dX10_tell_25 dk_0 fl_10_70 (by decide) rfl rfl rfl ?_
        refine ev_iload_n (i := 1) 29 dX10_tell_28 rfl rfl rfl ?_
        refine ev_iload_n (i := 2) 30 dX10_tell_29 rfl rfl rfl ?_
        obtain ⟨x17, S16, g18, h⟩ := rx_bd_o h
        refine ev_cVi2 33 dX10_tell_30 (em_X1_add g18) mm_X1_add mv_X1_add lk_10_245 dk_91 (by decide) rfl (Nat.le_of_ble_eq_true rfl) (Nat.le_of_ble_eq_true rfl) rfl ?_
        exact ev_ireturn dX10_tell_33 rfl (rx_ret_i h)
      · replace h := rx_if_f c15 h
        refine ev_iconst (v := (-1)) 23 dX10_tell_22 (by decide) rfl ?_
        exact ev_ireturn dX10_tell_23 rfl (rx_ret_i h)

def f_X10_forget (S0 : rx_S) : Option (Int32 × rx_S) := rx_let (S0.1 91 4) (fun x2 => rx_bd (f_X1_clear S0) (fun x4 S3 => some (x2, S3)))
set_option maxHeartbeats 4000000 in
set_option maxRecDepth 20000 in
theorem em_X10_forget {d : Nat} {S0 : rx_S} {zr : Int32} {zS : rx_S} (h : f_X10_forget S0 = some (zr, zS)) : EM gC (d + 1) mX10_forget [.ref 0] S0 (rx_pi zr zS) := by
  unfold f_X10_forget at h
  show EV gC (d + 1) mX10_forget 0 [some (.ref 0), none] [] S0 (rx_pi zr zS)
  refine ev_aload_n (i := 0) 1 dX10_forget_0 rfl rfl rfl ?_
  refine ev_get (v := .ref 91) 4 dX10_forget_1 dk_0 fl_10_70 (by decide) rfl rfl rfl ?_
  refine ev_get (v := .int (S0.1 91 4)) 7 dX10_forget_4 dk_91 fl_10_154 (by decide) rfl rfl rfl ?_
  obtain ⟨x2, ex2, h⟩ := rx_let_o h
  refine ev_nm ex2 ?_
  refine ev_istore_n (ls' := [some (.ref 0), some (.int x2)]) 8 dX10_forget_7 rfl (Nat.le_of_ble_eq_true rfl) rfl rfl ?_
  refine ev_aload_n (i := 0) 9 dX10_forget_8 rfl rfl rfl ?_
  refine ev_get (v := .ref 91) 12 dX10_forget_9 dk_0 fl_10_70 (by decide) rfl rfl rfl ?_
  obtain ⟨x4, S3, g5, h⟩ := rx_bd_o h
  refine ev_cVv0 15 dX10_forget_12 (em_X1_clear g5) mm_X1_clear mv_X1_clear lk_10_105 dk_91 (by decide) rfl (Nat.le_of_ble_eq_true rfl) (Nat.le_of_ble_eq_true rfl) rfl ?_
  refine ev_iload_n (i := 1) 16 dX10_forget_15 rfl rfl rfl ?_
  exact ev_ireturn dX10_forget_16 rfl (rx_ret_i h)

def f_X10_who (N : Nat) (x1 : Int32) (S0 : rx_S) : Option (Int32 × rx_S) := rx_bd (f_X1_isKnown x1 S0) (fun x4 S3 => if x4 = 0 then (some ((-1), S3)) else (rx_bd (f_X1_candidates N x1 S3) (fun x8 S7 => some (x8, S7))))
set_option maxHeartbeats 4000000 in
set_option maxRecDepth 20000 in
theorem em_X10_who {d N : Nat} {x1 : Int32} {S0 : rx_S} {zr : Int32} {zS : rx_S} (h : f_X10_who N x1 S0 = some (zr, zS)) : EM gC (d + 6) mX10_who [.ref 0, .int x1] S0 (rx_pi zr zS) := by
  unfold f_X10_who at h
  show EV gC (d + 6) mX10_who 0 [some (.ref 0), some (.int x1)] [] S0 (rx_pi zr zS)
  refine ev_aload_n (i := 0) 1 dX10_who_0 rfl rfl rfl ?_
  refine ev_get (v := .ref 91) 4 dX10_who_1 dk_0 fl_10_70 (by decide) rfl rfl rfl ?_
  refine ev_iload_n (i := 1) 5 dX10_who_4 rfl rfl rfl ?_
  obtain ⟨x4, S3, g5, h⟩ := rx_bd_o h
  refine ev_cVi1 8 dX10_who_5 (em_X1_isKnown g5) mm_X1_isKnown mv_X1_isKnown lk_10_248 dk_91 (by decide) rfl (Nat.le_of_ble_eq_true rfl) (Nat.le_of_ble_eq_true rfl) rfl ?_
  refine ev_if_eq 26 11 dX10_who_8 rfl rfl (fun c6 => ?_) (fun c6 => ?_)
  · replace h := rx_if_t c6 h
    refine ev_iconst (v := (-1)) 27 dX10_who_26 (by decide) rfl ?_
    exact ev_ireturn dX10_who_27 rfl (rx_ret_i h)
  · replace h := rx_if_f c6 h
    refine ev_aload_n (i := 0) 12 dX10_who_11 rfl rfl rfl ?_
    refine ev_get (v := .ref 91) 15 dX10_who_12 dk_0 fl_10_70 (by decide) rfl rfl rfl ?_
    refine ev_aload_n (i := 0) 16 dX10_who_15 rfl rfl rfl ?_
    refine ev_get (v := .ref 32) 19 dX10_who_16 dk_0 fl_10_31 (by decide) rfl rfl rfl ?_
    refine ev_iload_n (i := 1) 20 dX10_who_19 rfl rfl rfl ?_
    obtain ⟨x8, S7, g9, h⟩ := rx_bd_o h
    refine ev_cVi2 23 dX10_who_20 (em_X1_candidates g9) mm_X1_candidates mv_X1_candidates lk_10_251 dk_91 (by decide) rfl (Nat.le_of_ble_eq_true rfl) (Nat.le_of_ble_eq_true rfl) rfl ?_
    refine ev_goto 27 dX10_who_23 rfl ?_
    exact ev_ireturn dX10_who_27 rfl (rx_ret_i h)

def f_X10_ask (N : Nat) (x1 : Int32) (S0 : rx_S) : Option (Int32 × rx_S) := rx_bd (f_X1_isKnown x1 S0) (fun x4 S3 => if x4 = 0 then (some ((-1), S3)) else (rx_bd (f_X1_bestWord N x1 S3) (fun x8 S7 => some (x8, S7))))
set_option maxHeartbeats 4000000 in
set_option maxRecDepth 20000 in
theorem em_X10_ask {d N : Nat} {x1 : Int32} {S0 : rx_S} {zr : Int32} {zS : rx_S} (h : f_X10_ask N x1 S0 = some (zr, zS)) : EM gC (d + 7) mX10_ask [.ref 0, .int x1] S0 (rx_pi zr zS) := by
  unfold f_X10_ask at h
  show EV gC (d + 7) mX10_ask 0 [some (.ref 0), some (.int x1)] [] S0 (rx_pi zr zS)
  refine ev_aload_n (i := 0) 1 dX10_ask_0 rfl rfl rfl ?_
  refine ev_get (v := .ref 91) 4 dX10_ask_1 dk_0 fl_10_70 (by decide) rfl rfl rfl ?_
  refine ev_iload_n (i := 1) 5 dX10_ask_4 rfl rfl rfl ?_
  obtain ⟨x4, S3, g5, h⟩ := rx_bd_o h
  refine ev_cVi1 8 dX10_ask_5 (em_X1_isKnown g5) mm_X1_isKnown mv_X1_isKnown lk_10_248 dk_91 (by decide) rfl (Nat.le_of_ble_eq_true rfl) (Nat.le_of_ble_eq_true rfl) rfl ?_
  refine ev_if_eq 26 11 dX10_ask_8 rfl rfl (fun c6 => ?_) (fun c6 => ?_)
  · replace h := rx_if_t c6 h
    refine ev_iconst (v := (-1)) 27 dX10_ask_26 (by decide) rfl ?_
    exact ev_ireturn dX10_ask_27 rfl (rx_ret_i h)
  · replace h := rx_if_f c6 h
    refine ev_aload_n (i := 0) 12 dX10_ask_11 rfl rfl rfl ?_
    refine ev_get (v := .ref 91) 15 dX10_ask_12 dk_0 fl_10_70 (by decide) rfl rfl rfl ?_
    refine ev_aload_n (i := 0) 16 dX10_ask_15 rfl rfl rfl ?_
    refine ev_get (v := .ref 32) 19 dX10_ask_16 dk_0 fl_10_31 (by decide) rfl rfl rfl ?_
    refine ev_iload_n (i := 1) 20 dX10_ask_19 rfl rfl rfl ?_
    obtain ⟨x8, S7, g9, h⟩ := rx_bd_o h
    refine ev_cVi2 23 dX10_ask_20 (em_X1_bestWord g9) mm_X1_bestWord mv_X1_bestWord lk_10_254 dk_91 (by decide) rfl (Nat.le_of_ble_eq_true rfl) (Nat.le_of_ble_eq_true rfl) rfl ?_
    refine ev_goto 27 dX10_ask_23 rfl ?_
    exact ev_ireturn dX10_ask_27 rfl (rx_ret_i h)

