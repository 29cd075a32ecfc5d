def f_X4_readCouple (N : Nat) (S0 : rx_S) : Option (Int32 × rx_S) := if (S0.1 19 7) < 3 then (rx_bd (f_X4_take 129 S0) (fun x4 S3 => if x4 = 0 then (some (0, S3)) else (rx_bd (f_X4_take 2 S3) (fun x8 S7 => if x8 = 0 then (some (0, S7)) else (rx_bd (f_X4_namedSpouse N S7) (fun x12 S11 => rx_bd (f_X4_take 2 S11) (fun x15 S14 => if x15 = 0 then (some (0, S14)) else (rx_bd (f_X4_namedSpouse N S14) (fun x19 S18 => rx_let (fun (x21 : Int32) (x22 : Int32) (S23 : rx_S) => rx_bd (f_X8_addCouple 19 x21 x22 S23) (fun x25 S24 => rx_bd (f_X4_take 59 S24) (fun x28 S27 => rx_bl x28 (some (x28, S27))))) (fun J72_1 => if x12 = (-1) then (J72_1 x12 x19 S18) else (if x12 = x19 then (rx_bd (f_X4_blame 3 S18) (fun x34 S33 => J72_1 x12 x19 S33)) else (J72_1 x12 x19 S18)))))))))))) else (rx_bd (f_X4_refuse 2 S0) (fun x37 S36 => rx_bl x37 (some (x37, S36))))
set_option maxHeartbeats 4000000 in
set_option maxRecDepth 20000 in
theorem em_X4_readCouple {d N : Nat} {S0 : rx_S} {zr : Int32} {zS : rx_S} (h : f_X4_readCouple N S0 = some (zr, zS)) : EM gC (d + 3) mX4_readCouple [.ref 13] S0 (rx_pi zr zS) := by
  unfold f_X4_readCouple at h
  show EV gC (d + 3) mX4_readCouple 0 [some (.ref 13), none, none] [] S0 (rx_pi zr zS)
  refine ev_aload_n (i := 0) 1 dX4_readCouple_0 rfl rfl rfl ?_
  refine ev_get (v := .ref 19) 4 dX4_readCouple_1 dk_13 fl_4_21 (by decide) rfl rfl rfl ?_
  refine ev_get (v := .int (S0.1 19 7)) 7 dX4_readCouple_4 dk_19 fl_4_130 (by decide) rfl rfl rfl ?_
  refine ev_iconst (v := 3) 8 dX4_readCouple_7 (by decide) rfl ?_
  refine ev_icmp_lt 17 11 dX4_readCouple_8 rfl rfl (fun c2 => ?_) (fun c2 => ?_)
  · replace h := rx_if_t c2 h
    refine ev_aload_n (i := 0) 18 dX4_readCouple_17 rfl rfl rfl ?_
    refine ev_sipush (v := 129) 21 dX4_readCouple_18 (by decide) rfl ?_
    obtain ⟨x4, S3, g5, h⟩ := rx_bd_o h
    refine ev_cVi1 24 dX4_readCouple_21 (em_X4_take g5) mm_X4_take mv_X4_take lk_4_73 dk_13 (by decide) rfl (Nat.le_of_ble_eq_true rfl) (Nat.le_of_ble_eq_true rfl) rfl ?_
    refine ev_if_eq 35 27 dX4_readCouple_24 rfl rfl (fun c6 => ?_) (fun c6 => ?_)
    · replace h := rx_if_t c6 h
      refine ev_iconst (v := 0) 36 dX4_readCouple_35 (by decide) rfl ?_
      exact ev_zreturn dX4_readCouple_36 rfl (by decide) (rx_ret_i h)
    · replace h := rx_if_f c6 h
      refine ev_aload_n (i := 0) 28 dX4_readCouple_27 rfl rfl rfl ?_
      refine ev_iconst (v := 2) 29 dX4_readCouple_28 (by decide) rfl ?_
      obtain ⟨x8, S7, g9, h⟩ := rx_bd_o h
      refine ev_cVi1 32 dX4_readCouple_29 (em_X4_take g9) mm_X4_take mv_X4_take lk_4_73 dk_13 (by decide) rfl (Nat.le_of_ble_eq_true rfl) (Nat.le_of_ble_eq_true rfl) rfl ?_
      refine ev_if_ne 37 35 dX4_readCouple_32 rfl rfl (fun c10 => ?_) (fun c10 => ?_)
      · replace h := rx_if_f c10 h
        refine ev_aload_n (i := 0) 38 dX4_readCouple_37 rfl rfl rfl ?_
        obtain ⟨x12, S11, g13, h⟩ := rx_bd_o h
        refine ev_cVi0 41 dX4_readCouple_38 (em_X4_namedSpouse g13) mm_X4_namedSpouse mv_X4_namedSpouse lk_4_133 dk_13 (by decide) rfl (Nat.le_of_ble_eq_true rfl) (Nat.le_of_ble_eq_true rfl) rfl ?_
        refine ev_istore_n (ls' := [some (.ref 13), some (.int x12), none]) 42 dX4_readCouple_41 rfl (Nat.le_of_ble_eq_true rfl) rfl rfl ?_
        refine ev_aload_n (i := 0) 43 dX4_readCouple_42 rfl rfl rfl ?_
        refine ev_iconst (v := 2) 44 dX4_readCouple_43 (by decide) rfl ?_
        obtain ⟨x15, S14, g16, h⟩ := rx_bd_o h
        refine ev_cVi1 47 dX4_readCouple_44 (em_X4_take g16) mm_X4_take mv_X4_take lk_4_73 dk_13 (by decide) rfl (Nat.le_of_ble_eq_true rfl) (Nat.le_of_ble_eq_true rfl) rfl ?_
        refine ev_if_ne 52 50 dX4_readCouple_47 rfl rfl (fun c17 => ?_) (fun c17 => ?_)
        · replace h := rx_if_f c17 h
          refine ev_aload_n (i := 0) 53 dX4_readCouple_52 rfl rfl rfl ?_
          obtain ⟨x19, S18, g20, h⟩ := rx_bd_o h
          refine ev_cVi0 56 dX4_readCouple_53 (em_X4_namedSpouse g20) mm_X4_namedSpouse mv_X4_namedSpouse lk_4_133 dk_13 (by decide) rfl (Nat.le_of_ble_eq_true rfl) (Nat.le_of_ble_eq_true rfl) rfl ?_
          refine ev_istore_n (ls' := [some (.ref 13), some (.int x12), some (.int x19)]) 57 dX4_readCouple_56 rfl (Nat.le_of_ble_eq_true rfl) rfl rfl ?_
          refine ev_iload_n (i := 1) 58 dX4_readCouple_57 rfl rfl rfl ?_
          refine ev_iconst (v := (-1)) 59 dX4_readCouple_58 (by decide) rfl ?_
          obtain ⟨J72_1, eJ72_1, h⟩ := rx_let_o h
          have hJ72_1 : ∀ (x21 : Int32) (x22 : Int32) (S23 : rx_S), J72_1 x21 x22 S23 = some (zr, zS) → EV gC (d + 3) mX4_readCouple 72 [some (.ref 13), some (.int x21), some (.int x22)] [] S23 (rx_pi zr zS) := by
            intro x21 x22 S23 h
            subst eJ72_1
            refine ev_aload_n (i := 0) 73 dX4_readCouple_72 rfl rfl rfl ?_
            refine ev_get (v := .ref 19) 76 dX4_readCouple_73 dk_13 fl_4_21 (by decide) rfl rfl rfl ?_
            refine ev_iload_n (i := 1) 77 dX4_readCouple_76 rfl rfl rfl ?_
            refine ev_iload_n (i := 2) 78 dX4_readCouple_77 rfl rfl rfl ?_
            obtain ⟨x25, S24, g26, h⟩ := rx_bd_o h
            refine ev_cVv2 81 dX4_readCouple_78 (em_X8_addCouple_19 g26) mm_X8_addCouple mv_X8_addCouple lk_4_136 dk_19 (by decide) rfl (Nat.le_of_ble_eq_true rfl) (Nat.le_of_ble_eq_true rfl) rfl ?_
            refine ev_aload_n (i := 0) 82 dX4_readCouple_81 rfl rfl rfl ?_
            refine ev_bipush (v := 59) 84 dX4_readCouple_82 (by decide) rfl ?_
            obtain ⟨x28, S27, g29, h⟩ := rx_bd_o h
            refine ev_cVi1 87 dX4_readCouple_84 (em_X4_take g29) mm_X4_take mv_X4_take lk_4_73 dk_13 (by decide) rfl (Nat.le_of_ble_eq_true rfl) (Nat.le_of_ble_eq_true rfl) rfl ?_
            obtain ⟨g30, h⟩ := rx_bl_o h
            exact ev_zreturn dX4_readCouple_87 rfl (rx_nb g30) (rx_ret_i h)
          refine ev_icmp_eq 72 62 dX4_readCouple_59 rfl rfl (fun c31 => ?_) (fun c31 => ?_)
          · replace h := rx_if_t c31 h
            exact (hJ72_1 _ _ _ h).fewer (rx_le_s (rx_le_s (rx_le_s rx_le_0)))
          · replace h := rx_if_f c31 h
            refine ev_iload_n (i := 1) 63 dX4_readCouple_62 rfl rfl rfl ?_
            refine ev_iload_n (i := 2) 64 dX4_readCouple_63 rfl rfl rfl ?_
            refine ev_icmp_ne 72 67 dX4_readCouple_64 rfl rfl (fun c32 => ?_) (fun c32 => ?_)
            · replace h := rx_if_f c32 h
              exact (hJ72_1 _ _ _ h).fewer (rx_le_s (rx_le_s (rx_le_s rx_le_0)))
            · replace h := rx_if_t c32 h
              refine ev_aload_n (i := 0) 68 dX4_readCouple_67 rfl rfl rfl ?_
              refine ev_iconst (v := 3) 69 dX4_readCouple_68 (by decide) rfl ?_
              obtain ⟨x34, S33, g35, h⟩ := rx_bd_o h
              refine ev_cVv1 72 dX4_readCouple_69 (em_X4_blame g35) mm_X4_blame mv_X4_blame lk_4_80 dk_13 (by decide) rfl (Nat.le_of_ble_eq_true rfl) (Nat.le_of_ble_eq_true rfl) rfl ?_
              exact (hJ72_1 _ _ _ h).fewer (rx_le_s (rx_le_s (rx_le_s rx_le_0)))
        · replace h := rx_if_t c17 h
          refine ev_iconst (v := 0) 51 dX4_readCouple_50 (by decide) rfl ?_
          exact ev_zreturn dX4_readCouple_51 rfl (by decide) (rx_ret_i h)
      · replace h := rx_if_t c10 h
        refine ev_iconst (v := 0) 36 dX4_readCouple_35 (by decide) rfl ?_
        exact ev_zreturn dX4_readCouple_36 rfl (by decide) (rx_ret_i h)
  · replace h := rx_if_f c2 h
    refine ev_aload_n (i := 0) 12 dX4_readCouple_11 rfl rfl rfl ?_
    refine ev_iconst (v := 2) 13 dX4_readCouple_12 (by decide) rfl ?_
    obtain ⟨x37, S36, g38, h⟩ := rx_bd_o h
    refine ev_cVi1 16 dX4_readCouple_13 (em_X4_refuse g38) mm_X4_refuse mv_X4_refuse lk_4_104 dk_13 (by decide) rfl (Nat.le_of_ble_eq_true rfl) (Nat.le_of_ble_eq_true rfl) rfl ?_
    obtain ⟨g39, h⟩ := rx_bl_o h
    exact ev_zreturn dX4_readCouple_16 rfl (rx_nb g39) (rx_ret_i h)

def f_X8_addSpouse (k : Nat) (x1 : Int32) (S0 : rx_S) : Option (Unit × rx_S) := if (6 : Int32) ≤ (S0.1 k 6) then (some ((), S0)) else (rx_gd (S0.1 k 6) 6 (rx_let (rx_ui S0 (k + 6) (Int32.toNatClampNeg (S0.1 k 6)) x1) (fun S5 => rx_gd (S5.1 k 6) 6 (rx_let (rx_ui S5 (k + 7) (Int32.toNatClampNeg (S5.1 k 6)) (-2)) (fun S7 => rx_let (rx_ui S7 k 6 ((S7.1 k 6) + 1)) (fun S8 => some ((), S8)))))))
set_option maxHeartbeats 4000000 in
set_option maxRecDepth 20000 in
theorem em_X8_addSpouse_2 {d : Nat} {x1 : Int32} {S0 : rx_S} {zr : Unit} {zS : rx_S} (h : f_X8_addSpouse 2 x1 S0 = some (zr, zS)) : EM gC d mX8_addSpouse [.ref 2, .int x1] S0 (rx_pv zS) := by
  unfold f_X8_addSpouse at h
  show EV gC d mX8_addSpouse 0 [some (.ref 2), some (.int x1)] [] S0 (rx_pv zS)
  refine ev_aload_n (i := 0) 1 dX8_addSpouse_0 rfl rfl rfl ?_
  refine ev_get (v := .int (S0.1 2 6)) 4 dX8_addSpouse_1 dk_2 fl_8_37 (by decide) rfl rfl rfl ?_
  refine ev_bipush (v := 6) 6 dX8_addSpouse_4 (by decide) rfl ?_
  refine ev_icmp_ge 40 9 dX8_addSpouse_6 rfl rfl (fun c3 => ?_) (fun c3 => ?_)
  · replace h := rx_if_t c3 h
    exact ev_return dX8_addSpouse_40 rfl (rx_ret_v h)
  · replace h := rx_if_f c3 h
    refine ev_aload_n (i := 0) 10 dX8_addSpouse_9 rfl rfl rfl ?_
    refine ev_get (v := .ref 8) 13 dX8_addSpouse_10 dk_2 fl_8_18 (by decide) rfl rfl rfl ?_
    refine ev_aload_n (i := 0) 14 dX8_addSpouse_13 rfl rfl rfl ?_
    refine ev_get (v := .int (S0.1 2 6)) 17 dX8_addSpouse_14 dk_2 fl_8_37 (by decide) rfl rfl rfl ?_
    refine ev_iload_n (i := 1) 18 dX8_addSpouse_17 rfl rfl rfl ?_
    obtain ⟨g4, h⟩ := rx_gd_o h
    obtain ⟨S5, eS5, h⟩ := rx_let_o h
    refine ex_iast _ 19 dX8_addSpouse_18 dk_8 g4 rfl rfl eS5 ?_
    refine ev_aload_n (i := 0) 20 dX8_addSpouse_19 rfl rfl rfl ?_
    refine ev_get (v := .ref 9) 23 dX8_addSpouse_20 dk_2 fl_8_22 (by decide) rfl rfl rfl ?_
    refine ev_aload_n (i := 0) 24 dX8_addSpouse_23 rfl rfl rfl ?_
    refine ev_get (v := .int (S5.1 2 6)) 27 dX8_addSpouse_24 dk_2 fl_8_37 (by decide) rfl rfl rfl ?_
    refine ev_bipush (v := (-2)) 29 dX8_addSpouse_27 (by decide) rfl ?_
    obtain ⟨g6, h⟩ := rx_gd_o h
    obtain ⟨S7, eS7, h⟩ := rx_let_o h
    refine ex_iast _ 30 dX8_addSpouse_29 dk_9 g6 rfl rfl eS7 ?_
    refine ev_aload_n (i := 0) 31 dX8_addSpouse_30 rfl rfl rfl ?_
    refine ev_dup 32 dX8_addSpouse_31 rfl rfl ?_
    refine ev_get (v := .int (S7.1 2 6)) 35 dX8_addSpouse_32 dk_2 fl_8_37 (by decide) rfl rfl rfl ?_
    refine ev_iconst (v := 1) 36 dX8_addSpouse_35 (by decide) rfl ?_
    refine ev_iadd 37 dX8_addSpouse_36 rfl ?_
    obtain ⟨S8, eS8, h⟩ := rx_let_o h
    refine ex_put 40 dX8_addSpouse_37 dk_2 fl_8_37 pp_8_6 (by decide) rfl rfl rfl rfl eS8 ?_
    exact ev_return dX8_addSpouse_40 rfl (rx_ret_v h)

set_option maxHeartbeats 4000000 in
set_option maxRecDepth 20000 in
theorem em_X8_addSpouse_19 {d : Nat} {x1 : Int32} {S0 : rx_S} {zr : Unit} {zS : rx_S} (h : f_X8_addSpouse 19 x1 S0 = some (zr, zS)) : EM gC d mX8_addSpouse [.ref 19, .int x1] S0 (rx_pv zS) := by
  unfold f_X8_addSpouse at h
  show EV gC d mX8_addSpouse 0 [some (.ref 19), some (.int x1)] [] S0 (rx_pv zS)
  refine ev_aload_n (i := 0) 1 dX8_addSpouse_0 rfl rfl rfl ?_
  refine ev_get (v := .int (S0.1 19 6)) 4 dX8_addSpouse_1 dk_19 fl_8_37 (by decide) rfl rfl rfl ?_
  refine ev_bipush (v := 6) 6 dX8_addSpouse_4 (by decide) rfl ?_
  refine ev_icmp_ge 40 9 dX8_addSpouse_6 rfl rfl (fun c3 => ?_) (fun c3 => ?_)
  · replace h := rx_if_t c3 h
    exact ev_return dX8_addSpouse_40 rfl (rx_ret_v h)
  · replace h := rx_if_f c3 h
    refine ev_aload_n (i := 0) 10 dX8_addSpouse_9 rfl rfl rfl ?_
    refine ev_get (v := .ref 25) 13 dX8_addSpouse_10 dk_19 fl_8_18 (by decide) rfl rfl rfl ?_
    refine ev_aload_n (i := 0) 14 dX8_addSpouse_13 rfl rfl rfl ?_
    refine ev_get (v := .int (S0.1 19 6)) 17 dX8_addSpouse_14 dk_19 fl_8_37 (by decide) rfl rfl rfl ?_
    refine ev_iload_n (i := 1) 18 dX8_addSpouse_17 rfl rfl rfl ?_
    obtain ⟨g4, h⟩ := rx_gd_o h
    obtain ⟨S5, eS5, h⟩ := rx_let_o h
    refine ex_iast _ 19 dX8_addSpouse_18 dk_25 g4 rfl rfl eS5 ?_
    refine ev_aload_n (i := 0) 20 dX8_addSpouse_19 rfl rfl rfl ?_
    refine ev_get (v := .ref 26) 23 dX8_addSpouse_20 dk_19 fl_8_22 (by decide) rfl rfl rfl ?_
    refine ev_aload_n (i := 0) 24 dX8_addSpouse_23 rfl rfl rfl ?_
    refine ev_get (v := .int (S5.1 19 6)) 27 dX8_addSpouse_24 dk_19 fl_8_37 (by decide) rfl rfl rfl ?_
    refine ev_bipush (v := (-2)) 29 dX8_addSpouse_27 (by decide) rfl ?_
    obtain ⟨g6, h⟩ := rx_gd_o h
    obtain ⟨S7, eS7, h⟩ := rx_let_o h
    refine ex_iast _ 30 dX8_addSpouse_29 dk_26 g6 rfl rfl eS7 ?_
    refine ev_aload_n (i := 0) 31 dX8_addSpouse_30 rfl rfl rfl ?_
    refine ev_dup 32 dX8_addSpouse_31 rfl rfl ?_
    refine ev_get (v := .int (S7.1 19 6)) 35 dX8_addSpouse_32 dk_19 fl_8_37 (by decide) rfl rfl rfl ?_
    refine ev_iconst (v := 1) 36 dX8_addSpouse_35 (by decide) rfl ?_
    refine ev_iadd 37 dX8_addSpouse_36 rfl ?_
    obtain ⟨S8, eS8, h⟩ := rx_let_o h
    refine ex_put 40 dX8_addSpouse_37 dk_19 fl_8_37 pp_8_6 (by decide) rfl rfl rfl rfl eS8 ?_
    exact ev_return dX8_addSpouse_40 rfl (rx_ret_v h)

def f_X4_readSpouse (N : Nat) (S0 : rx_S) : Option (Int32 × rx_S) := if (S0.1 19 6) < 6 then (rx_bd (f_X4_take 128 S0) (fun x4 S3 => if x4 = 0 then (some (0, S3)) else (rx_bd (f_X4_takeNewName N (S3.1 19 6) S3) (fun x8 S7 => if x8 = 0 then (some (0, S7)) else (rx_bd (f_X4_takeNumber 99 S7) (fun x12 S11 => if x12 = 0 then (some (0, S11)) else (rx_bd (f_X4_taken S11) (fun x16 S15 => rx_bd (f_X8_addSpouse 19 x16 S15) (fun x19 S18 => rx_bd (f_X4_take 59 S18) (fun x22 S21 => rx_bl x22 (some (x22, S21)))))))))))) else (rx_bd (f_X4_refuse 2 S0) (fun x26 S25 => rx_bl x26 (some (x26, S25))))
set_option maxHeartbeats 4000000 in
set_option maxRecDepth 20000 in
theorem em_X4_readSpouse {d N : Nat} {S0 : rx_S} {zr : Int32} {zS : rx_S} (h : f_X4_readSpouse N S0 = some (zr, zS)) : EM gC (d + 3) mX4_readSpouse [.ref 13] S0 (rx_pi zr zS) := by
  unfold f_X4_readSpouse at h
  show EV gC (d + 3) mX4_readSpouse 0 [some (.ref 13)] [] S0 (rx_pi zr zS)
  refine ev_aload_n (i := 0) 1 dX4_readSpouse_0 rfl rfl rfl ?_
  refine ev_get (v := .ref 19) 4 dX4_readSpouse_1 dk_13 fl_4_21 (by decide) rfl rfl rfl ?_
  refine ev_get (v := .int (S0.1 19 6)) 7 dX4_readSpouse_4 dk_19 fl_4_107 (by decide) rfl rfl rfl ?_
  refine ev_bipush (v := 6) 9 dX4_readSpouse_7 (by decide) rfl ?_
  refine ev_icmp_lt 18 12 dX4_readSpouse_9 rfl rfl (fun c2 => ?_) (fun c2 => ?_)
  · replace h := rx_if_t c2 h
    refine ev_aload_n (i := 0) 19 dX4_readSpouse_18 rfl rfl rfl ?_
    refine ev_sipush (v := 128) 22 dX4_readSpouse_19 (by decide) rfl ?_
    obtain ⟨x4, S3, g5, h⟩ := rx_bd_o h
    refine ev_cVi1 25 dX4_readSpouse_22 (em_X4_take g5) mm_X4_take mv_X4_take lk_4_73 dk_13 (by decide) rfl (Nat.le_of_ble_eq_true rfl) (Nat.le_of_ble_eq_true rfl) rfl ?_
    refine ev_if_eq 51 28 dX4_readSpouse_25 rfl rfl (fun c6 => ?_) (fun c6 => ?_)
    · replace h := rx_if_t c6 h
      refine ev_iconst (v := 0) 52 dX4_readSpouse_51 (by decide) rfl ?_
      exact ev_zreturn dX4_readSpouse_52 rfl (by decide) (rx_ret_i h)
    · replace h := rx_if_f c6 h
      refine ev_aload_n (i := 0) 29 dX4_readSpouse_28 rfl rfl rfl ?_
      refine ev_aload_n (i := 0) 30 dX4_readSpouse_29 rfl rfl rfl ?_
      refine ev_get (v := .ref 19) 33 dX4_readSpouse_30 dk_13 fl_4_21 (by decide) rfl rfl rfl ?_
      refine ev_get (v := .int (S3.1 19 6)) 36 dX4_readSpouse_33 dk_19 fl_4_107 (by decide) rfl rfl rfl ?_
      obtain ⟨x8, S7, g9, h⟩ := rx_bd_o h
      refine ev_cVi1 39 dX4_readSpouse_36 (em_X4_takeNewName g9) mm_X4_takeNewName mv_X4_takeNewName lk_4_110 dk_13 (by decide) rfl (Nat.le_of_ble_eq_true rfl) (Nat.le_of_ble_eq_true rfl) rfl ?_
      refine ev_if_eq 51 42 dX4_readSpouse_39 rfl rfl (fun c10 => ?_) (fun c10 => ?_)
      · replace h := rx_if_t c10 h
        refine ev_iconst (v := 0) 52 dX4_readSpouse_51 (by decide) rfl ?_
        exact ev_zreturn dX4_readSpouse_52 rfl (by decide) (rx_ret_i h)
      · replace h := rx_if_f c10 h
        refine ev_aload_n (i := 0) 43 dX4_readSpouse_42 rfl rfl rfl ?_
        refine ev_bipush (v := 99) 45 dX4_readSpouse_43 (by decide) rfl ?_
        obtain ⟨x12, S11, g13, h⟩ := rx_bd_o h
        refine ev_cVi1 48 dX4_readSpouse_45 (em_X4_takeNumber g13) mm_X4_takeNumber mv_X4_takeNumber lk_4_113 dk_13 (by decide) rfl (Nat.le_of_ble_eq_true rfl) (Nat.le_of_ble_eq_true rfl) rfl ?_
        refine ev_if_ne 53 51 dX4_readSpouse_48 rfl rfl (fun c14 => ?_) (fun c14 => ?_)
        · replace h := rx_if_f c14 h
          refine ev_aload_n (i := 0) 54 dX4_readSpouse_53 rfl rfl rfl ?_
          refine ev_get (v := .ref 19) 57 dX4_readSpouse_54 dk_13 fl_4_21 (by decide) rfl rfl rfl ?_
          refine ev_aload_n (i := 0) 58 dX4_readSpouse_57 rfl rfl rfl ?_
          obtain ⟨x16, S15, g17, h⟩ := rx_bd_o h
          refine ev_cVi0 61 dX4_readSpouse_58 (em_X4_taken g17) mm_X4_taken mv_X4_taken lk_4_76 dk_13 (by decide) rfl (Nat.le_of_ble_eq_true rfl) (Nat.le_of_ble_eq_true rfl) rfl ?_
          obtain ⟨x19, S18, g20, h⟩ := rx_bd_o h
          refine ev_cVv1 64 dX4_readSpouse_61 (em_X8_addSpouse_19 g20) mm_X8_addSpouse mv_X8_addSpouse lk_4_116 dk_19 (by decide) rfl (Nat.le_of_ble_eq_true rfl) (Nat.le_of_ble_eq_true rfl) rfl ?_
          refine ev_aload_n (i := 0) 65 dX4_readSpouse_64 rfl rfl rfl ?_
          refine ev_bipush (v := 59) 67 dX4_readSpouse_65 (by decide) rfl ?_
          obtain ⟨x22, S21, g23, h⟩ := rx_bd_o h
          refine ev_cVi1 70 dX4_readSpouse_67 (em_X4_take g23) mm_X4_take mv_X4_take lk_4_73 dk_13 (by decide) rfl (Nat.le_of_ble_eq_true rfl) (Nat.le_of_ble_eq_true rfl) rfl ?_
          obtain ⟨g24, h⟩ := rx_bl_o h
          exact ev_zreturn dX4_readSpouse_70 rfl (rx_nb g24) (rx_ret_i h)
        · replace h := rx_if_t c14 h
          refine ev_iconst (v := 0) 52 dX4_readSpouse_51 (by decide) rfl ?_
          exact ev_zreturn dX4_readSpouse_52 rfl (by decide) (rx_ret_i h)
  · replace h := rx_if_f c2 h
    refine ev_aload_n (i := 0) 13 dX4_readSpouse_12 rfl rfl rfl ?_
    refine ev_iconst (v := 2) 14 dX4_readSpouse_13 (by decide) rfl ?_
    obtain ⟨x26, S25, g27, h⟩ := rx_bd_o h
    refine ev_cVi1 17 dX4_readSpouse_14 (em_X4_refuse g27) mm_X4_refuse mv_X4_refuse lk_4_104 dk_13 (by decide) rfl (Nat.le_of_ble_eq_true rfl) (Nat.le_of_ble_eq_true rfl) rfl ?_
    obtain ⟨g28, h⟩ := rx_bl_o h
    exact ev_zreturn dX4_readSpouse_17 rfl (rx_nb g28) (rx_ret_i h)

def f_X4_readFact (N : Nat) (x1 : Int32) (S0 : rx_S) : Option (Int32 × rx_S) := rx_let (fun (S3 : rx_S) => rx_bd (f_X4_refuse 1 S3) (fun x5 S4 => rx_bl x5 (some (x5, S4)))) (fun J89_1 => if x1 = 128 then (rx_bd (f_X4_readSpouse N S0) (fun x10 S9 => rx_bl x10 (some (x10, S9)))) else (if x1 = 129 then (rx_bd (f_X4_readCouple N S0) (fun x15 S14 => rx_bl x15 (some (x15, S14)))) else (if x1 = 130 then (rx_bd (f_X4_readThird N S0) (fun x20 S19 => rx_bl x20 (some (x20, S19)))) else (if x1 = 131 then (J89_1 S0) else (if x1 = 132 then (J89_1 S0) else (if x1 = 133 then (J89_1 S0) else (if x1 = 134 then (J89_1 S0) else (if x1 = 135 then (J89_1 S0) else (if x1 = 136 then (J89_1 S0) else (if x1 = 137 then (J89_1 S0) else (if x1 = 138 then (rx_bd (f_X4_readFine S0) (fun x32 S31 => rx_bl x32 (some (x32, S31)))) else (if x1 = 139 then (rx_bd (f_X4_readSeed S0) (fun x37 S36 => rx_bl x37 (some (x37, S36)))) else (J89_1 S0)))))))))))))
set_option maxHeartbeats 4000000 in
set_option maxRecDepth 20000 in
theorem em_X4_readFact {d N : Nat} {x1 : Int32} {S0 : rx_S} {zr : Int32} {zS : rx_S} (h : f_X4_readFact N x1 S0 = some (zr, zS)) : EM gC (d + 4) mX4_readFact [.ref 13, .int x1] S0 (rx_pi zr zS) := by
  unfold f_X4_readFact at h
  show EV gC (d + 4) mX4_readFact 0 [some (.ref 13), some (.int x1)] [] S0 (rx_pi zr zS)
  refine ev_iload_n (i := 1) 1 dX4_readFact_0 rfl rfl rfl ?_
  obtain ⟨J89_1, eJ89_1, h⟩ := rx_let_o h
  have hJ89_1 : ∀ (S3 : rx_S), J89_1 S3 = some (zr, zS) → EV gC (d + 4) mX4_readFact 89 [some (.ref 13), none] [] S3 (rx_pi zr zS) := by
    intro S3 h
    subst eJ89_1
    refine ev_aload_n (i := 0) 90 dX4_readFact_89 rfl rfl rfl ?_
    refine ev_iconst (v := 1) 91 dX4_readFact_90 (by decide) rfl ?_
    obtain ⟨x5, S4, g6, h⟩ := rx_bd_o h
    refine ev_cVi1 94 dX4_readFact_91 (em_X4_refuse g6) mm_X4_refuse mv_X4_refuse lk_4_104 dk_13 (by decide) rfl (Nat.le_of_ble_eq_true rfl) (Nat.le_of_ble_eq_true rfl) rfl ?_
    obtain ⟨g7, h⟩ := rx_bl_o h
    exact ev_zreturn dX4_readFact_94 rfl (rx_nb g7) (rx_ret_i h)
  by_cases c8 : x1 = 128
  · replace h := rx_if_t c8 h
    refine ev_tableIn 64 dX4_readFact_1 (by rw [c8]; decide) (by rw [c8]; decide) (off := 63) (by rw [c8]; rfl) rfl ?_
    refine ev_aload_n (i := 0) 65 dX4_readFact_64 rfl rfl rfl ?_
    obtain ⟨x10, S9, g11, h⟩ := rx_bd_o h
    refine ev_cVi0 68 dX4_readFact_65 (em_X4_readSpouse g11) mm_X4_readSpouse mv_X4_readSpouse lk_4_88 dk_13 (by decide) rfl (Nat.le_of_ble_eq_true rfl) (Nat.le_of_ble_eq_true rfl) rfl ?_
    obtain ⟨g12, h⟩ := rx_bl_o h
    exact ev_zreturn dX4_readFact_68 rfl (rx_nb g12) (rx_ret_i h)
  · replace h := rx_if_f c8 h
    by_cases c13 : x1 = 129
    · replace h := rx_if_t c13 h
      refine ev_tableIn 69 dX4_readFact_1 (by rw [c13]; decide) (by rw [c13]; decide) (off := 68) (by rw [c13]; rfl) rfl ?_
      refine ev_aload_n (i := 0) 70 dX4_readFact_69 rfl rfl rfl ?_
      obtain ⟨x15, S14, g16, h⟩ := rx_bd_o h
      refine ev_cVi0 73 dX4_readFact_70 (em_X4_readCouple g16) mm_X4_readCouple mv_X4_readCouple lk_4_92 dk_13 (by decide) rfl (Nat.le_of_ble_eq_true rfl) (Nat.le_of_ble_eq_true rfl) rfl ?_
      obtain ⟨g17, h⟩ := rx_bl_o h
      exact ev_zreturn dX4_readFact_73 rfl (rx_nb g17) (rx_ret_i h)
    · replace h := rx_if_f c13 h
      by_cases c18 : x1 = 130
      · replace h := rx_if_t c18 h
        refine ev_tableIn 74 dX4_readFact_1 (by rw [c18]; decide) (by rw [c18]; decide) (off := 73) (by rw [c18]; rfl) rfl ?_
        refine ev_aload_n (i := 0) 75 dX4_readFact_74 rfl rfl rfl ?_
        obtain ⟨x20, S19, g21, h⟩ := rx_bd_o h
        refine ev_cVi0 78 dX4_readFact_75 (em_X4_readThird g21) mm_X4_readThird mv_X4_readThird lk_4_95 dk_13 (by decide) rfl (Nat.le_of_ble_eq_true rfl) (Nat.le_of_ble_eq_true rfl) rfl ?_
        obtain ⟨g22, h⟩ := rx_bl_o h
        exact ev_zreturn dX4_readFact_78 rfl (rx_nb g22) (rx_ret_i h)
      · replace h := rx_if_f c18 h
        by_cases c23 : x1 = 131
        · replace h := rx_if_t c23 h
          refine ev_tableIn 89 dX4_readFact_1 (by rw [c23]; decide) (by rw [c23]; decide) (off := 88) (by rw [c23]; rfl) rfl ?_
          exact (hJ89_1 _ h).fewer (rx_le_s (rx_le_n rx_le_0))
        · replace h := rx_if_f c23 h
          by_cases c24 : x1 = 132
          · replace h := rx_if_t c24 h
            refine ev_tableIn 89 dX4_readFact_1 (by rw [c24]; decide) (by rw [c24]; decide) (off := 88) (by rw [c24]; rfl) rfl ?_
            exact (hJ89_1 _ h).fewer (rx_le_s (rx_le_n rx_le_0))
          · replace h := rx_if_f c24 h
            by_cases c25 : x1 = 133
            · replace h := rx_if_t c25 h
              refine ev_tableIn 89 dX4_readFact_1 (by rw [c25]; decide) (by rw [c25]; decide) (off := 88) (by rw [c25]; rfl) rfl ?_
              exact (hJ89_1 _ h).fewer (rx_le_s (rx_le_n rx_le_0))
            · replace h := rx_if_f c25 h
              by_cases c26 : x1 = 134
              · replace h := rx_if_t c26 h
                refine ev_tableIn 89 dX4_readFact_1 (by rw [c26]; decide) (by rw [c26]; decide) (off := 88) (by rw [c26]; rfl) rfl ?_
                exact (hJ89_1 _ h).fewer (rx_le_s (rx_le_n rx_le_0))
              · replace h := rx_if_f c26 h
                by_cases c27 : x1 = 135
                · replace h := rx_if_t c27 h
                  refine ev_tableIn 89 dX4_readFact_1 (by rw [c27]; decide) (by rw [c27]; decide) (off := 88) (by rw [c27]; rfl) rfl ?_
                  exact (hJ89_1 _ h).fewer (rx_le_s (rx_le_n rx_le_0))
                · replace h := rx_if_f c27 h
                  by_cases c28 : x1 = 136
                  · replace h := rx_if_t c28 h
                    refine ev_tableIn 89 dX4_readFact_1 (by rw [c28]; decide) (by rw [c28]; decide) (off := 88) (by rw [c28]; rfl) rfl ?_
                    exact (hJ89_1 _ h).fewer (rx_le_s (rx_le_n rx_le_0))
                  · replace h := rx_if_f c28 h
                    by_cases c29 : x1 = 137
                    · replace h := rx_if_t c29 h
                      refine ev_tableIn 89 dX4_readFact_1 (by rw [c29]; decide) (by rw [c29]; decide) (off := 88) (by rw [c29]; rfl) rfl ?_
                      exact (hJ89_1 _ h).fewer (rx_le_s (rx_le_n rx_le_0))
                    · replace h := rx_if_f c29 h
                      by_cases c30 : x1 = 138
                      · replace h := rx_if_t c30 h
                        refine ev_tableIn 79 dX4_readFact_1 (by rw [c30]; decide) (by rw [c30]; decide) (off := 78) (by rw [c30]; rfl) rfl ?_
                        refine ev_aload_n (i := 0) 80 dX4_readFact_79 rfl rfl rfl ?_
                        obtain ⟨x32, S31, g33, h⟩ := rx_bd_o h
                        refine ev_cVi0 83 dX4_readFact_80 (em_X4_readFine g33) mm_X4_readFine mv_X4_readFine lk_4_98 dk_13 (by decide) rfl (Nat.le_of_ble_eq_true rfl) (Nat.le_of_ble_eq_true rfl) rfl ?_
                        obtain ⟨g34, h⟩ := rx_bl_o h
                        exact ev_zreturn dX4_readFact_83 rfl (rx_nb g34) (rx_ret_i h)
                      · replace h := rx_if_f c30 h
                        by_cases c35 : x1 = 139
                        · replace h := rx_if_t c35 h
                          refine ev_tableIn 84 dX4_readFact_1 (by rw [c35]; decide) (by rw [c35]; decide) (off := 83) (by rw [c35]; rfl) rfl ?_
                          refine ev_aload_n (i := 0) 85 dX4_readFact_84 rfl rfl rfl ?_
                          obtain ⟨x37, S36, g38, h⟩ := rx_bd_o h
                          refine ev_cVi0 88 dX4_readFact_85 (em_X4_readSeed g38) mm_X4_readSeed mv_X4_readSeed lk_4_101 dk_13 (by decide) rfl (Nat.le_of_ble_eq_true rfl) (Nat.le_of_ble_eq_true rfl) rfl ?_
                          obtain ⟨g39, h⟩ := rx_bl_o h
                          exact ev_zreturn dX4_readFact_88 rfl (rx_nb g39) (rx_ret_i h)
                        · replace h := rx_if_f c35 h
                          refine ev_tableOut 89 dX4_readFact_1 (by have q0 := rx_ne c8 (z := 128) (by decide); have q1 := rx_ne c13 (z := 129) (by decide); have q2 := rx_ne c18 (z := 130) (by decide); have q3 := rx_ne c23 (z := 131) (by decide); have q4 := rx_ne c24 (z := 132) (by decide); have q5 := rx_ne c25 (z := 133) (by decide); have q6 := rx_ne c26 (z := 134) (by decide); have q7 := rx_ne c27 (z := 135) (by decide); have q8 := rx_ne c28 (z := 136) (by decide); have q9 := rx_ne c29 (z := 137) (by decide); have q10 := rx_ne c30 (z := 138) (by decide); have q11 := rx_ne c35 (z := 139) (by decide); omega) rfl ?_
                          exact (hJ89_1 _ h).fewer (rx_le_s (rx_le_n rx_le_0))

def f_X4_readUnit (rec : Int32 → rx_S → Option (Int32 × rx_S)) (N : Nat) (x1 : Int32) (S0 : rx_S) : Option (Int32 × rx_S) := rx_bd (f_X9_kindAt (S0.1 13 5) S0) (fun x4 S3 => if x4 = 40 then (if x1 < 6 then (rx_bd (f_X4_take 40 S3) (fun x34 S33 => if x34 = 0 then (some (0, S33)) else (rx_bd (rec (x1 + 1) S33) (fun x38 S37 => if x38 = 0 then (some (0, S37)) else (rx_bd (f_X4_take 41 S37) (fun x42 S41 => if x42 = 0 then (some (0, S41)) else (some (1, S41)))))))) else (rx_bd (f_X4_refuse 2 S3) (fun x46 S45 => rx_bl x46 (some (x46, S45))))) else (rx_let (fun (x7 : Int32) (x8 : Int32) (S9 : rx_S) => rx_let (fun (x10 : Int32) (x11 : Int32) (x12 : Int32) (S13 : rx_S) => rx_bd (f_X4_take x12 S13) (fun x15 S14 => if x15 = 0 then (some (0, S14)) else (rx_let (fun (x18 : Int32) (S19 : rx_S) => rx_bd (f_X2_add 20 x18 S19) (fun x21 S20 => some (1, S20))) (fun J127_3 => if x11 = 0 then (rx_bd (f_X4_taken S14) (fun x25 S24 => J127_3 x25 S24)) else (J127_3 (((-1) : Int32) - (x10 - 143)) S14))))) (fun J94_2 => if x8 = 0 then (J94_2 x7 x8 3 S9) else (J94_2 x7 x8 x7 S9))) (fun J83_1 => rx_let (fun (x28 : Int32) (S29 : rx_S) => J83_1 x28 0 S29) (fun J82_4 => if x4 < 143 then (J82_4 x4 S3) else (if (152 : Int32) ≤ x4 then (J82_4 x4 S3) else (J83_1 x4 1 S3))))))
set_option maxHeartbeats 4000000 in
set_option maxRecDepth 20000 in
theorem em_X4_readUnit {d N : Nat} {rec : Int32 → rx_S → Option (Int32 × rx_S)} (hrec : ∀ (x : Int32) (S T : rx_S) (z : Int32), rec x S = some (z, T) → EM gC (d + 6) mX4_readSum [.ref 13, .int x] S (rx_pi z T)) {x1 : Int32} {S0 : rx_S} {zr : Int32} {zS : rx_S} (h : f_X4_readUnit rec N x1 S0 = some (zr, zS)) : EM gC (d + 7) mX4_readUnit [.ref 13, .int x1] S0 (rx_pi zr zS) := by
  unfold f_X4_readUnit at h
  show EV gC (d + 7) mX4_readUnit 0 [some (.ref 13), some (.int x1), none, none] [] S0 (rx_pi zr zS)
  refine ev_aload_n (i := 0) 1 dX4_readUnit_0 rfl rfl rfl ?_
  refine ev_get (v := .ref 14) 4 dX4_readUnit_1 dk_13 fl_4_12 (by decide) rfl rfl rfl ?_
  refine ev_aload_n (i := 0) 5 dX4_readUnit_4 rfl rfl rfl ?_
  refine ev_get (v := .int (S0.1 13 5)) 8 dX4_readUnit_5 dk_13 fl_4_44 (by decide) rfl rfl rfl ?_
  obtain ⟨x4, S3, g5, h⟩ := rx_bd_o h
  refine ev_cVi1 11 dX4_readUnit_8 (em_X9_kindAt g5) mm_X9_kindAt mv_X9_kindAt lk_4_56 dk_14 (by decide) rfl (Nat.le_of_ble_eq_true rfl) (Nat.le_of_ble_eq_true rfl) rfl ?_
  refine ev_istore_n (ls' := [some (.ref 13), some (.int x1), some (.int x4), none]) 12 dX4_readUnit_11 rfl (Nat.le_of_ble_eq_true rfl) rfl rfl ?_
  refine ev_iload_n (i := 2) 13 dX4_readUnit_12 rfl rfl rfl ?_
  refine ev_bipush (v := 40) 15 dX4_readUnit_13 (by decide) rfl ?_
  refine ev_icmp_ne 64 18 dX4_readUnit_15 rfl rfl (fun c6 => ?_) (fun c6 => ?_)
  · replace h := rx_if_f c6 h
    refine ev_iload_n (i := 2) 65 dX4_readUnit_64 rfl rfl rfl ?_
    refine ev_sipush (v := 143) 68 dX4_readUnit_65 (by decide) rfl ?_
    obtain ⟨J83_1, eJ83_1, h⟩ := rx_let_o h
    have hJ83_1 : ∀ (x7 : Int32) (x8 : Int32) (S9 : rx_S), J83_1 x7 x8 S9 = some (zr, zS) → EV gC (d + 7) mX4_readUnit 83 [some (.ref 13), none, some (.int x7), none] [.int x8] S9 (rx_pi zr zS) := by
      intro x7 x8 S9 h
      subst eJ83_1
      refine ev_istore_n (ls' := [some (.ref 13), none, some (.int x7), some (.int x8)]) 84 dX4_readUnit_83 rfl (Nat.le_of_ble_eq_true rfl) rfl rfl ?_
      refine ev_aload_n (i := 0) 85 dX4_readUnit_84 rfl rfl rfl ?_
      refine ev_iload_n (i := 3) 86 dX4_readUnit_85 rfl rfl rfl ?_
      obtain ⟨J94_2, eJ94_2, h⟩ := rx_let_o h
      have hJ94_2 : ∀ (x10 : Int32) (x11 : Int32) (x12 : Int32) (S13 : rx_S), J94_2 x10 x11 x12 S13 = some (zr, zS) → EV gC (d + 7) mX4_readUnit 94 [some (.ref 13), none, some (.int x10), some (.int x11)] [.int x12, .ref 13] S13 (rx_pi zr zS) := by
        intro x10 x11 x12 S13 h
        subst eJ94_2
        obtain ⟨x15, S14, g16, h⟩ := rx_bd_o h
        refine ev_cVi1 97 dX4_readUnit_94 (em_X4_take g16) mm_X4_take mv_X4_take lk_4_73 dk_13 (by decide) rfl (Nat.le_of_ble_eq_true rfl) (Nat.le_of_ble_eq_true rfl) rfl ?_
        refine ev_if_ne 102 100 dX4_readUnit_97 rfl rfl (fun c17 => ?_) (fun c17 => ?_)
        · replace h := rx_if_f c17 h
          refine ev_aload_n (i := 0) 103 dX4_readUnit_102 rfl rfl rfl ?_
          refine ev_get (v := .ref 19) 106 dX4_readUnit_103 dk_13 fl_4_21 (by decide) rfl rfl rfl ?_
          refine ev_get (v := .ref 20) 109 dX4_readUnit_106 dk_19 fl_4_151 (by decide) rfl rfl rfl ?_
          refine ev_iload_n (i := 3) 110 dX4_readUnit_109 rfl rfl rfl ?_
          obtain ⟨J127_3, eJ127_3, h⟩ := rx_let_o h
          have hJ127_3 : ∀ (x18 : Int32) (S19 : rx_S), J127_3 x18 S19 = some (zr, zS) → EV gC (d + 7) mX4_readUnit 127 [some (.ref 13), none, none, none] [.int x18, .ref 20] S19 (rx_pi zr zS) := by
            intro x18 S19 h
            subst eJ127_3
            obtain ⟨x21, S20, g22, h⟩ := rx_bd_o h
            refine ev_cVi1 130 dX4_readUnit_127 (em_X2_add_20 g22) mm_X2_add mv_X2_add lk_4_163 dk_20 (by decide) rfl (Nat.le_of_ble_eq_true rfl) (Nat.le_of_ble_eq_true rfl) rfl ?_
            refine ev_pop 131 dX4_readUnit_130 rfl rfl ?_
            refine ev_iconst (v := 1) 132 dX4_readUnit_131 (by decide) rfl ?_
            exact ev_zreturn dX4_readUnit_132 rfl (by decide) (rx_ret_i h)
          refine ev_if_eq 123 113 dX4_readUnit_110 rfl rfl (fun c23 => ?_) (fun c23 => ?_)
          · replace h := rx_if_t c23 h
            refine ev_aload_n (i := 0) 124 dX4_readUnit_123 rfl rfl rfl ?_
            obtain ⟨x25, S24, g26, h⟩ := rx_bd_o h
            refine ev_cVi0 127 dX4_readUnit_124 (em_X4_taken g26) mm_X4_taken mv_X4_taken lk_4_76 dk_13 (by decide) rfl (Nat.le_of_ble_eq_true rfl) (Nat.le_of_ble_eq_true rfl) rfl ?_
            exact (hJ127_3 _ _ h).fewer (rx_le_s (rx_le_n (rx_le_n (rx_le_n rx_le_0))))
          · replace h := rx_if_f c23 h
            refine ev_iconst (v := (-1)) 114 dX4_readUnit_113 (by decide) rfl ?_
            refine ev_iload_n (i := 2) 115 dX4_readUnit_114 rfl rfl rfl ?_
            refine ev_sipush (v := 143) 118 dX4_readUnit_115 (by decide) rfl ?_
            refine ev_isub 119 dX4_readUnit_118 rfl ?_
            refine ev_isub 120 dX4_readUnit_119 rfl ?_
            refine ev_goto 127 dX4_readUnit_120 rfl ?_
            exact (hJ127_3 _ _ h).fewer (rx_le_s (rx_le_n (rx_le_n (rx_le_n rx_le_0))))
        · replace h := rx_if_t c17 h
          refine ev_iconst (v := 0) 101 dX4_readUnit_100 (by decide) rfl ?_
          exact ev_zreturn dX4_readUnit_101 rfl (by decide) (rx_ret_i h)
      refine ev_if_eq 93 89 dX4_readUnit_86 rfl rfl (fun c27 => ?_) (fun c27 => ?_)
      · replace h := rx_if_t c27 h
        refine ev_iconst (v := 3) 94 dX4_readUnit_93 (by decide) rfl ?_
        exact (hJ94_2 _ _ _ _ h).fewer (rx_le_s (rx_le_n (rx_le_s (rx_le_s rx_le_0))))
      · replace h := rx_if_f c27 h
        refine ev_iload_n (i := 2) 90 dX4_readUnit_89 rfl rfl rfl ?_
        refine ev_goto 94 dX4_readUnit_90 rfl ?_
        exact (hJ94_2 _ _ _ _ h).fewer (rx_le_s (rx_le_n (rx_le_s (rx_le_s rx_le_0))))
    obtain ⟨J82_4, eJ82_4, h⟩ := rx_let_o h
    have hJ82_4 : ∀ (x28 : Int32) (S29 : rx_S), J82_4 x28 S29 = some (zr, zS) → EV gC (d + 7) mX4_readUnit 82 [some (.ref 13), none, some (.int x28), none] [] S29 (rx_pi zr zS) := by
      intro x28 S29 h
      subst eJ82_4
      refine ev_iconst (v := 0) 83 dX4_readUnit_82 (by decide) rfl ?_
      exact (hJ83_1 _ _ _ h).fewer (rx_le_s (rx_le_n (rx_le_s (rx_le_n rx_le_0))))
    refine ev_icmp_lt 82 71 dX4_readUnit_68 rfl rfl (fun c30 => ?_) (fun c30 => ?_)
    · replace h := rx_if_t c30 h
      exact (hJ82_4 _ _ h).fewer (rx_le_s (rx_le_n (rx_le_s (rx_le_n rx_le_0))))
    · replace h := rx_if_f c30 h
      refine ev_iload_n (i := 2) 72 dX4_readUnit_71 rfl rfl rfl ?_
      refine ev_sipush (v := 152) 75 dX4_readUnit_72 (by decide) rfl ?_
      refine ev_icmp_ge 82 78 dX4_readUnit_75 rfl rfl (fun c31 => ?_) (fun c31 => ?_)
      · replace h := rx_if_t c31 h
        exact (hJ82_4 _ _ h).fewer (rx_le_s (rx_le_n (rx_le_s (rx_le_n rx_le_0))))
      · replace h := rx_if_f c31 h
        refine ev_iconst (v := 1) 79 dX4_readUnit_78 (by decide) rfl ?_
        refine ev_goto 83 dX4_readUnit_79 rfl ?_
        exact (hJ83_1 _ _ _ h).fewer (rx_le_s (rx_le_n (rx_le_s (rx_le_n rx_le_0))))
  · replace h := rx_if_t c6 h
    refine ev_iload_n (i := 1) 19 dX4_readUnit_18 rfl rfl rfl ?_
    refine ev_bipush (v := 6) 21 dX4_readUnit_19 (by decide) rfl ?_
    refine ev_icmp_lt 30 24 dX4_readUnit_21 rfl rfl (fun c32 => ?_) (fun c32 => ?_)
    · replace h := rx_if_t c32 h
      refine ev_aload_n (i := 0) 31 dX4_readUnit_30 rfl rfl rfl ?_
      refine ev_bipush (v := 40) 33 dX4_readUnit_31 (by decide) rfl ?_
      obtain ⟨x34, S33, g35, h⟩ := rx_bd_o h
      refine ev_cVi1 36 dX4_readUnit_33 (em_X4_take g35) mm_X4_take mv_X4_take lk_4_73 dk_13 (by decide) rfl (Nat.le_of_ble_eq_true rfl) (Nat.le_of_ble_eq_true rfl) rfl ?_
      refine ev_if_eq 62 39 dX4_readUnit_36 rfl rfl (fun c36 => ?_) (fun c36 => ?_)
      · replace h := rx_if_t c36 h
        refine ev_iconst (v := 0) 63 dX4_readUnit_62 (by decide) rfl ?_
        exact ev_zreturn dX4_readUnit_63 rfl (by decide) (rx_ret_i h)
      · replace h := rx_if_f c36 h
        refine ev_aload_n (i := 0) 40 dX4_readUnit_39 rfl rfl rfl ?_
        refine ev_iload_n (i := 1) 41 dX4_readUnit_40 rfl rfl rfl ?_
        refine ev_iconst (v := 1) 42 dX4_readUnit_41 (by decide) rfl ?_
        refine ev_iadd 43 dX4_readUnit_42 rfl ?_
        obtain ⟨x38, S37, g39, h⟩ := rx_bd_o h
        refine ev_cVi1 46 dX4_readUnit_43 (hrec _ _ _ _ g39) mm_X4_readSum mv_X4_readSum lk_4_160 dk_13 (by decide) rfl (Nat.le_of_ble_eq_true rfl) (Nat.le_of_ble_eq_true rfl) rfl ?_
        refine ev_if_eq 62 49 dX4_readUnit_46 rfl rfl (fun c40 => ?_) (fun c40 => ?_)
        · replace h := rx_if_t c40 h
          refine ev_iconst (v := 0) 63 dX4_readUnit_62 (by decide) rfl ?_
          exact ev_zreturn dX4_readUnit_63 rfl (by decide) (rx_ret_i h)
        · replace h := rx_if_f c40 h
          refine ev_aload_n (i := 0) 50 dX4_readUnit_49 rfl rfl rfl ?_
          refine ev_bipush (v := 41) 52 dX4_readUnit_50 (by decide) rfl ?_
          obtain ⟨x42, S41, g43, h⟩ := rx_bd_o h
          refine ev_cVi1 55 dX4_readUnit_52 (em_X4_take g43) mm_X4_take mv_X4_take lk_4_73 dk_13 (by decide) rfl (Nat.le_of_ble_eq_true rfl) (Nat.le_of_ble_eq_true rfl) rfl ?_
          refine ev_if_eq 62 58 dX4_readUnit_55 rfl rfl (fun c44 => ?_) (fun c44 => ?_)
          · replace h := rx_if_t c44 h
            refine ev_iconst (v := 0) 63 dX4_readUnit_62 (by decide) rfl ?_
            exact ev_zreturn dX4_readUnit_63 rfl (by decide) (rx_ret_i h)
          · replace h := rx_if_f c44 h
            refine ev_iconst (v := 1) 59 dX4_readUnit_58 (by decide) rfl ?_
            refine ev_goto 63 dX4_readUnit_59 rfl ?_
            exact ev_zreturn dX4_readUnit_63 rfl (by decide) (rx_ret_i h)
    · replace h := rx_if_f c32 h
      refine ev_aload_n (i := 0) 25 dX4_readUnit_24 rfl rfl rfl ?_
      refine ev_iconst (v := 2) 26 dX4_readUnit_25 (by decide) rfl ?_
      obtain ⟨x46, S45, g47, h⟩ := rx_bd_o h
      refine ev_cVi1 29 dX4_readUnit_26 (em_X4_refuse g47) mm_X4_refuse mv_X4_refuse lk_4_104 dk_13 (by decide) rfl (Nat.le_of_ble_eq_true rfl) (Nat.le_of_ble_eq_true rfl) rfl ?_
      obtain ⟨g48, h⟩ := rx_bl_o h
      exact ev_zreturn dX4_readUnit_29 rfl (rx_nb g48) (rx_ret_i h)

def f_X4_readProduct_L12 (rec : Int32 → rx_S → Option (Int32 × rx_S)) (N : Nat) : Nat → Int32 → Int32 → rx_S → Option (Int32 × rx_S)
  | 0, _, _, _ => none
  | n + 1, x7, x8, S9 => if (400 : Int32) < x8 then (some (0, S9)) else (rx_bd (f_X9_kindAt (S9.1 13 5) S9) (fun x12 S11 => rx_let (fun (x14 : Int32) (x15 : Int32) (x16 : Int32) (S17 : rx_S) => rx_bd (f_X4_take x16 S17) (fun x19 S18 => if x19 = 0 then (some (0, S18)) else (rx_bd (f_X4_readUnit rec N x14 S18) (fun x23 S22 => if x23 = 0 then (some (0, S22)) else (rx_let (fun (x26 : Int32) (x27 : Int32) (x28 : Int32) (S29 : rx_S) => rx_bd (f_X2_add 20 x28 S29) (fun x31 S30 => rx_let (x27 + 1) (fun x33 => f_X4_readProduct_L12 rec N n x26 x33 S30))) (fun J83_2 => if x16 = 42 then (J83_2 x14 x15 (-12) S22) else (J83_2 x14 x15 (-13) S22))))))) (fun J45_1 => if x12 = 42 then (J45_1 x7 x8 x12 S11) else (if x12 = 47 then (J45_1 x7 x8 x12 S11) else (some (1, S11))))))
def f_X4_readProduct (rec : Int32 → rx_S → Option (Int32 × rx_S)) (N : Nat) (x1 : Int32) (S0 : rx_S) : Option (Int32 × rx_S) := rx_bd (f_X4_readUnit rec N x1 S0) (fun x4 S3 => if x4 = 0 then (some (0, S3)) else (f_X4_readProduct_L12 rec N N x1 0 S3))
set_option maxHeartbeats 4000000 in
set_option maxRecDepth 20000 in
theorem em_X4_readProduct_L12 {d N : Nat} {rec : Int32 → rx_S → Option (Int32 × rx_S)} (hrec : ∀ (x : Int32) (S T : rx_S) (z : Int32), rec x S = some (z, T) → EM gC (d + 6) mX4_readSum [.ref 13, .int x] S (rx_pi z T)) {zr : Int32} {zS : rx_S} : ∀ (n : Nat) (x7 : Int32) (x8 : Int32) (S9 : rx_S), f_X4_readProduct_L12 rec N n x7 x8 S9 = some (zr, zS) → EV gC (d + 8) mX4_readProduct 12 [some (.ref 13), some (.int x7), some (.int x8), none] [] S9 (rx_pi zr zS) := by
  intro n
  induction n with
  | zero => intro x7 x8 S9 h; cases h
  | succ n ih =>
    intro x7 x8 S9 h
    rw [f_X4_readProduct_L12] at h
    refine ev_iload_n (i := 2) 13 dX4_readProduct_12 rfl rfl rfl ?_
    refine ev_sipush (v := 400) 16 dX4_readProduct_13 (by decide) rfl ?_
    refine ev_icmp_gt 93 19 dX4_readProduct_16 rfl rfl (fun c10 => ?_) (fun c10 => ?_)
    · replace h := rx_if_t c10 h
      refine ev_iconst (v := 0) 94 dX4_readProduct_93 (by decide) rfl ?_
      exact ev_zreturn dX4_readProduct_94 rfl (by decide) (rx_ret_i h)
    · replace h := rx_if_f c10 h
      refine ev_aload_n (i := 0) 20 dX4_readProduct_19 rfl rfl rfl ?_
      refine ev_get (v := .ref 14) 23 dX4_readProduct_20 dk_13 fl_4_12 (by decide) rfl rfl rfl ?_
      refine ev_aload_n (i := 0) 24 dX4_readProduct_23 rfl rfl rfl ?_
      refine ev_get (v := .int (S9.1 13 5)) 27 dX4_readProduct_24 dk_13 fl_4_44 (by decide) rfl rfl rfl ?_
      obtain ⟨x12, S11, g13, h⟩ := rx_bd_o h
      refine ev_cVi1 30 dX4_readProduct_27 (em_X9_kindAt g13) mm_X9_kindAt mv_X9_kindAt lk_4_56 dk_14 (by decide) rfl (Nat.le_of_ble_eq_true rfl) (Nat.le_of_ble_eq_true rfl) rfl ?_
      refine ev_istore_n (ls' := [some (.ref 13), some (.int x7), some (.int x8), some (.int x12)]) 31 dX4_readProduct_30 rfl (Nat.le_of_ble_eq_true rfl) rfl rfl ?_
      refine ev_iload_n (i := 3) 32 dX4_readProduct_31 rfl rfl rfl ?_
      refine ev_bipush (v := 42) 34 dX4_readProduct_32 (by decide) rfl ?_
      obtain ⟨J45_1, eJ45_1, h⟩ := rx_let_o h
      have hJ45_1 : ∀ (x14 : Int32) (x15 : Int32) (x16 : Int32) (S17 : rx_S), J45_1 x14 x15 x16 S17 = some (zr, zS) → EV gC (d + 8) mX4_readProduct 45 [some (.ref 13), some (.int x14), some (.int x15), some (.int x16)] [] S17 (rx_pi zr zS) := by
        intro x14 x15 x16 S17 h
        subst eJ45_1
        refine ev_aload_n (i := 0) 46 dX4_readProduct_45 rfl rfl rfl ?_
        refine ev_iload_n (i := 3) 47 dX4_readProduct_46 rfl rfl rfl ?_
        obtain ⟨x19, S18, g20, h⟩ := rx_bd_o h
        refine ev_cVi1 50 dX4_readProduct_47 (em_X4_take g20) mm_X4_take mv_X4_take lk_4_73 dk_13 (by decide) rfl (Nat.le_of_ble_eq_true rfl) (Nat.le_of_ble_eq_true rfl) rfl ?_
        refine ev_if_eq 61 53 dX4_readProduct_50 rfl rfl (fun c21 => ?_) (fun c21 => ?_)
        · replace h := rx_if_t c21 h
          refine ev_iconst (v := 0) 62 dX4_readProduct_61 (by decide) rfl ?_
          exact ev_zreturn dX4_readProduct_62 rfl (by decide) (rx_ret_i h)
        · replace h := rx_if_f c21 h
          refine ev_aload_n (i := 0) 54 dX4_readProduct_53 rfl rfl rfl ?_
          refine ev_iload_n (i := 1) 55 dX4_readProduct_54 rfl rfl rfl ?_
          obtain ⟨x23, S22, g24, h⟩ := rx_bd_o h
          refine ev_cVi1 58 dX4_readProduct_55 (em_X4_readUnit hrec g24) mm_X4_readUnit mv_X4_readUnit lk_4_172 dk_13 (by decide) rfl (Nat.le_of_ble_eq_true rfl) (Nat.le_of_ble_eq_true rfl) rfl ?_
          refine ev_if_ne 63 61 dX4_readProduct_58 rfl rfl (fun c25 => ?_) (fun c25 => ?_)
          · replace h := rx_if_f c25 h
            refine ev_aload_n (i := 0) 64 dX4_readProduct_63 rfl rfl rfl ?_
            refine ev_get (v := .ref 19) 67 dX4_readProduct_64 dk_13 fl_4_21 (by decide) rfl rfl rfl ?_
            refine ev_get (v := .ref 20) 70 dX4_readProduct_67 dk_19 fl_4_151 (by decide) rfl rfl rfl ?_
            refine ev_iload_n (i := 3) 71 dX4_readProduct_70 rfl rfl rfl ?_
            refine ev_bipush (v := 42) 73 dX4_readProduct_71 (by decide) rfl ?_
            obtain ⟨J83_2, eJ83_2, h⟩ := rx_let_o h
            have hJ83_2 : ∀ (x26 : Int32) (x27 : Int32) (x28 : Int32) (S29 : rx_S), J83_2 x26 x27 x28 S29 = some (zr, zS) → EV gC (d + 8) mX4_readProduct 83 [some (.ref 13), some (.int x26), some (.int x27), none] [.int x28, .ref 20] S29 (rx_pi zr zS) := by
              intro x26 x27 x28 S29 h
              subst eJ83_2
              obtain ⟨x31, S30, g32, h⟩ := rx_bd_o h
              refine ev_cVi1 86 dX4_readProduct_83 (em_X2_add_20 g32) mm_X2_add mv_X2_add lk_4_163 dk_20 (by decide) rfl (Nat.le_of_ble_eq_true rfl) (Nat.le_of_ble_eq_true rfl) rfl ?_
              refine ev_pop 87 dX4_readProduct_86 rfl rfl ?_
              obtain ⟨x33, ex33, h⟩ := rx_let_o h
              refine ev_iinc (v := x33) (ls' := [some (.ref 13), some (.int x26), some (.int x33), none]) 90 dX4_readProduct_87 rfl (by rw [ex33]; rfl) (Nat.le_of_ble_eq_true rfl) rfl rfl ?_
              refine ev_goto 12 dX4_readProduct_90 rfl ?_
              exact (ih _ _ _ h).fewer (rx_le_s (rx_le_s (rx_le_s (rx_le_n rx_le_0))))
            refine ev_icmp_ne 81 76 dX4_readProduct_73 rfl rfl (fun c34 => ?_) (fun c34 => ?_)
            · replace h := rx_if_f c34 h
              refine ev_bipush (v := (-13)) 83 dX4_readProduct_81 (by decide) rfl ?_
              exact (hJ83_2 _ _ _ _ h).fewer (rx_le_s (rx_le_s (rx_le_s (rx_le_n rx_le_0))))
            · replace h := rx_if_t c34 h
              refine ev_bipush (v := (-12)) 78 dX4_readProduct_76 (by decide) rfl ?_
              refine ev_goto 83 dX4_readProduct_78 rfl ?_
              exact (hJ83_2 _ _ _ _ h).fewer (rx_le_s (rx_le_s (rx_le_s (rx_le_n rx_le_0))))
          · replace h := rx_if_t c25 h
            refine ev_iconst (v := 0) 62 dX4_readProduct_61 (by decide) rfl ?_
            exact ev_zreturn dX4_readProduct_62 rfl (by decide) (rx_ret_i h)
      refine ev_icmp_eq 45 37 dX4_readProduct_34 rfl rfl (fun c35 => ?_) (fun c35 => ?_)
      · replace h := rx_if_t c35 h
        exact (hJ45_1 _ _ _ _ h).fewer (rx_le_s (rx_le_s (rx_le_s (rx_le_s rx_le_0))))
      · replace h := rx_if_f c35 h
        refine ev_iload_n (i := 3) 38 dX4_readProduct_37 rfl rfl rfl ?_
        refine ev_bipush (v := 47) 40 dX4_readProduct_38 (by decide) rfl ?_
        refine ev_icmp_eq 45 43 dX4_readProduct_40 rfl rfl (fun c36 => ?_) (fun c36 => ?_)
        · replace h := rx_if_t c36 h
          exact (hJ45_1 _ _ _ _ h).fewer (rx_le_s (rx_le_s (rx_le_s (rx_le_s rx_le_0))))
        · replace h := rx_if_f c36 h
          refine ev_iconst (v := 1) 44 dX4_readProduct_43 (by decide) rfl ?_
          exact ev_zreturn dX4_readProduct_44 rfl (by decide) (rx_ret_i h)

set_option maxHeartbeats 4000000 in
set_option maxRecDepth 20000 in
theorem em_X4_readProduct {d N : Nat} {rec : Int32 → rx_S → Option (Int32 × rx_S)} (hrec : ∀ (x : Int32) (S T : rx_S) (z : Int32), rec x S = some (z, T) → EM gC (d + 6) mX4_readSum [.ref 13, .int x] S (rx_pi z T)) {x1 : Int32} {S0 : rx_S} {zr : Int32} {zS : rx_S} (h : f_X4_readProduct rec N x1 S0 = some (zr, zS)) : EM gC (d + 8) mX4_readProduct [.ref 13, .int x1] S0 (rx_pi zr zS) := by
  unfold f_X4_readProduct at h
  show EV gC (d + 8) mX4_readProduct 0 [some (.ref 13), some (.int x1), none, none] [] S0 (rx_pi zr zS)
  refine ev_aload_n (i := 0) 1 dX4_readProduct_0 rfl rfl rfl ?_
  refine ev_iload_n (i := 1) 2 dX4_readProduct_1 rfl rfl rfl ?_
  obtain ⟨x4, S3, g5, h⟩ := rx_bd_o h
  refine ev_cVi1 5 dX4_readProduct_2 (em_X4_readUnit hrec g5) mm_X4_readUnit mv_X4_readUnit lk_4_172 dk_13 (by decide) rfl (Nat.le_of_ble_eq_true rfl) (Nat.le_of_ble_eq_true rfl) rfl ?_
  refine ev_if_ne 10 8 dX4_readProduct_5 rfl rfl (fun c6 => ?_) (fun c6 => ?_)
  · replace h := rx_if_f c6 h
    refine ev_iconst (v := 0) 11 dX4_readProduct_10 (by decide) rfl ?_
    refine ev_istore_n (ls' := [some (.ref 13), some (.int x1), some (.int 0), none]) 12 dX4_readProduct_11 rfl (Nat.le_of_ble_eq_true rfl) rfl rfl ?_
    exact (em_X4_readProduct_L12 hrec _ _ _ _ h).fewer (rx_le_s (rx_le_s (rx_le_s (rx_le_n rx_le_0))))
  · replace h := rx_if_t c6 h
    refine ev_iconst (v := 0) 9 dX4_readProduct_8 (by decide) rfl ?_
    exact ev_zreturn dX4_readProduct_9 rfl (by decide) (rx_ret_i h)

def f_X4_readSum1_L12 (rec : Int32 → rx_S → Option (Int32 × rx_S)) (N : Nat) : Nat → Int32 → Int32 → rx_S → Option (Int32 × rx_S)
  | 0, _, _, _ => none
  | n + 1, x7, x8, S9 => if (400 : Int32) < x8 then (some (0, S9)) else (rx_bd (f_X9_kindAt (S9.1 13 5) S9) (fun x12 S11 => rx_let (fun (x14 : Int32) (x15 : Int32) (x16 : Int32) (S17 : rx_S) => rx_bd (f_X4_take x16 S17) (fun x19 S18 => if x19 = 0 then (some (0, S18)) else (rx_bd (f_X4_readProduct rec N x14 S18) (fun x23 S22 => if x23 = 0 then (some (0, S22)) else (rx_let (fun (x26 : Int32) (x27 : Int32) (x28 : Int32) (S29 : rx_S) => rx_bd (f_X2_add 20 x28 S29) (fun x31 S30 => rx_let (x27 + 1) (fun x33 => f_X4_readSum1_L12 rec N n x26 x33 S30))) (fun J83_2 => if x16 = 43 then (J83_2 x14 x15 (-10) S22) else (J83_2 x14 x15 (-11) S22))))))) (fun J45_1 => if x12 = 43 then (J45_1 x7 x8 x12 S11) else (if x12 = 45 then (J45_1 x7 x8 x12 S11) else (some (1, S11))))))
def f_X4_readSum1 (rec : Int32 → rx_S → Option (Int32 × rx_S)) (N : Nat) (x1 : Int32) (S0 : rx_S) : Option (Int32 × rx_S) := rx_bd (f_X4_readProduct rec N x1 S0) (fun x4 S3 => if x4 = 0 then (some (0, S3)) else (f_X4_readSum1_L12 rec N N x1 0 S3))
set_option maxHeartbeats 4000000 in
set_option maxRecDepth 20000 in
theorem em_X4_readSum1_L12 {d N : Nat} {rec : Int32 → rx_S → Option (Int32 × rx_S)} (hrec : ∀ (x : Int32) (S T : rx_S) (z : Int32), rec x S = some (z, T) → EM gC (d + 6) mX4_readSum [.ref 13, .int x] S (rx_pi z T)) {zr : Int32} {zS : rx_S} : ∀ (n : Nat) (x7 : Int32) (x8 : Int32) (S9 : rx_S), f_X4_readSum1_L12 rec N n x7 x8 S9 = some (zr, zS) → EV gC (d + 9) mX4_readSum 12 [some (.ref 13), some (.int x7), some (.int x8), none] [] S9 (rx_pi zr zS) := by
  intro n
  induction n with
  | zero => intro x7 x8 S9 h; cases h
  | succ n ih =>
    intro x7 x8 S9 h
    rw [f_X4_readSum1_L12] at h
    refine ev_iload_n (i := 2) 13 dX4_readSum_12 rfl rfl rfl ?_
    refine ev_sipush (v := 400) 16 dX4_readSum_13 (by decide) rfl ?_
    refine ev_icmp_gt 93 19 dX4_readSum_16 rfl rfl (fun c10 => ?_) (fun c10 => ?_)
    · replace h := rx_if_t c10 h
      refine ev_iconst (v := 0) 94 dX4_readSum_93 (by decide) rfl ?_
      exact ev_zreturn dX4_readSum_94 rfl (by decide) (rx_ret_i h)
    · replace h := rx_if_f c10 h
      refine ev_aload_n (i := 0) 20 dX4_readSum_19 rfl rfl rfl ?_
      refine ev_get (v := .ref 14) 23 dX4_readSum_20 dk_13 fl_4_12 (by decide) rfl rfl rfl ?_
      refine ev_aload_n (i := 0) 24 dX4_readSum_23 rfl rfl rfl ?_
      refine ev_get (v := .int (S9.1 13 5)) 27 dX4_readSum_24 dk_13 fl_4_44 (by decide) rfl rfl rfl ?_
      obtain ⟨x12, S11, g13, h⟩ := rx_bd_o h
      refine ev_cVi1 30 dX4_readSum_27 (em_X9_kindAt g13) mm_X9_kindAt mv_X9_kindAt lk_4_56 dk_14 (by decide) rfl (Nat.le_of_ble_eq_true rfl) (Nat.le_of_ble_eq_true rfl) rfl ?_
      refine ev_istore_n (ls' := [some (.ref 13), some (.int x7), some (.int x8), some (.int x12)]) 31 dX4_readSum_30 rfl (Nat.le_of_ble_eq_true rfl) rfl rfl ?_
      refine ev_iload_n (i := 3) 32 dX4_readSum_31 rfl rfl rfl ?_
      refine ev_bipush (v := 43) 34 dX4_readSum_32 (by decide) rfl ?_
      obtain ⟨J45_1, eJ45_1, h⟩ := rx_let_o h
      have hJ45_1 : ∀ (x14 : Int32) (x15 : Int32) (x16 : Int32) (S17 : rx_S), J45_1 x14 x15 x16 S17 = some (zr, zS) → EV gC (d + 9) mX4_readSum 45 [some (.ref 13), some (.int x14), some (.int x15), some (.int x16)] [] S17 (rx_pi zr zS) := by
        intro x14 x15 x16 S17 h
        subst eJ45_1
        refine ev_aload_n (i := 0) 46 dX4_readSum_45 rfl rfl rfl ?_
        refine ev_iload_n (i := 3) 47 dX4_readSum_46 rfl rfl rfl ?_
        obtain ⟨x19, S18, g20, h⟩ := rx_bd_o h
        refine ev_cVi1 50 dX4_readSum_47 (em_X4_take g20) mm_X4_take mv_X4_take lk_4_73 dk_13 (by decide) rfl (Nat.le_of_ble_eq_true rfl) (Nat.le_of_ble_eq_true rfl) rfl ?_
        refine ev_if_eq 61 53 dX4_readSum_50 rfl rfl (fun c21 => ?_) (fun c21 => ?_)
        · replace h := rx_if_t c21 h
          refine ev_iconst (v := 0) 62 dX4_readSum_61 (by decide) rfl ?_
          exact ev_zreturn dX4_readSum_62 rfl (by decide) (rx_ret_i h)
        · replace h := rx_if_f c21 h
          refine ev_aload_n (i := 0) 54 dX4_readSum_53 rfl rfl rfl ?_
          refine ev_iload_n (i := 1) 55 dX4_readSum_54 rfl rfl rfl ?_
          obtain ⟨x23, S22, g24, h⟩ := rx_bd_o h
          refine ev_cVi1 58 dX4_readSum_55 (em_X4_readProduct hrec g24) mm_X4_readProduct mv_X4_readProduct lk_4_169 dk_13 (by decide) rfl (Nat.le_of_ble_eq_true rfl) (Nat.le_of_ble_eq_true rfl) rfl ?_
          refine ev_if_ne 63 61 dX4_readSum_58 rfl rfl (fun c25 => ?_) (fun c25 => ?_)
          · replace h := rx_if_f c25 h
            refine ev_aload_n (i := 0) 64 dX4_readSum_63 rfl rfl rfl ?_
            refine ev_get (v := .ref 19) 67 dX4_readSum_64 dk_13 fl_4_21 (by decide) rfl rfl rfl ?_
            refine ev_get (v := .ref 20) 70 dX4_readSum_67 dk_19 fl_4_151 (by decide) rfl rfl rfl ?_
            refine ev_iload_n (i := 3) 71 dX4_readSum_70 rfl rfl rfl ?_
            refine ev_bipush (v := 43) 73 dX4_readSum_71 (by decide) rfl ?_
            obtain ⟨J83_2, eJ83_2, h⟩ := rx_let_o h
            have hJ83_2 : ∀ (x26 : Int32) (x27 : Int32) (x28 : Int32) (S29 : rx_S), J83_2 x26 x27 x28 S29 = some (zr, zS) → EV gC (d + 9) mX4_readSum 83 [some (.ref 13), some (.int x26), some (.int x27), none] [.int x28, .ref 20] S29 (rx_pi zr zS) := by
              intro x26 x27 x28 S29 h
              subst eJ83_2
              obtain ⟨x31, S30, g32, h⟩ := rx_bd_o h
              refine ev_cVi1 86 dX4_readSum_83 (em_X2_add_20 g32) mm_X2_add mv_X2_add lk_4_163 dk_20 (by decide) rfl (Nat.le_of_ble_eq_true rfl) (Nat.le_of_ble_eq_true rfl) rfl ?_
              refine ev_pop 87 dX4_readSum_86 rfl rfl ?_
              obtain ⟨x33, ex33, h⟩ := rx_let_o h
              refine ev_iinc (v := x33) (ls' := [some (.ref 13), some (.int x26), some (.int x33), none]) 90 dX4_readSum_87 rfl (by rw [ex33]; rfl) (Nat.le_of_ble_eq_true rfl) rfl rfl ?_
              refine ev_goto 12 dX4_readSum_90 rfl ?_
              exact (ih _ _ _ h).fewer (rx_le_s (rx_le_s (rx_le_s (rx_le_n rx_le_0))))
            refine ev_icmp_ne 81 76 dX4_readSum_73 rfl rfl (fun c34 => ?_) (fun c34 => ?_)
            · replace h := rx_if_f c34 h
              refine ev_bipush (v := (-11)) 83 dX4_readSum_81 (by decide) rfl ?_
              exact (hJ83_2 _ _ _ _ h).fewer (rx_le_s (rx_le_s (rx_le_s (rx_le_n rx_le_0))))
            · replace h := rx_if_t c34 h
              refine ev_bipush (v := (-10)) 78 dX4_readSum_76 (by decide) rfl ?_
              refine ev_goto 83 dX4_readSum_78 rfl ?_
              exact (hJ83_2 _ _ _ _ h).fewer (rx_le_s (rx_le_s (rx_le_s (rx_le_n rx_le_0))))
          · replace h := rx_if_t c25 h
            refine ev_iconst (v := 0) 62 dX4_readSum_61 (by decide) rfl ?_
            exact ev_zreturn dX4_readSum_62 rfl (by decide) (rx_ret_i h)
      refine ev_icmp_eq 45 37 dX4_readSum_34 rfl rfl (fun c35 => ?_) (fun c35 => ?_)
      · replace h := rx_if_t c35 h
        exact (hJ45_1 _ _ _ _ h).fewer (rx_le_s (rx_le_s (rx_le_s (rx_le_s rx_le_0))))
      · replace h := rx_if_f c35 h
        refine ev_iload_n (i := 3) 38 dX4_readSum_37 rfl rfl rfl ?_
        refine ev_bipush (v := 45) 40 dX4_readSum_38 (by decide) rfl ?_
        refine ev_icmp_eq 45 43 dX4_readSum_40 rfl rfl (fun c36 => ?_) (fun c36 => ?_)
        · replace h := rx_if_t c36 h
          exact (hJ45_1 _ _ _ _ h).fewer (rx_le_s (rx_le_s (rx_le_s (rx_le_s rx_le_0))))
        · replace h := rx_if_f c36 h
          refine ev_iconst (v := 1) 44 dX4_readSum_43 (by decide) rfl ?_
          exact ev_zreturn dX4_readSum_44 rfl (by decide) (rx_ret_i h)

set_option maxHeartbeats 4000000 in
set_option maxRecDepth 20000 in
theorem em_X4_readSum1 {d N : Nat} {rec : Int32 → rx_S → Option (Int32 × rx_S)} (hrec : ∀ (x : Int32) (S T : rx_S) (z : Int32), rec x S = some (z, T) → EM gC (d + 6) mX4_readSum [.ref 13, .int x] S (rx_pi z T)) {x1 : Int32} {S0 : rx_S} {zr : Int32} {zS : rx_S} (h : f_X4_readSum1 rec N x1 S0 = some (zr, zS)) : EM gC (d + 9) mX4_readSum [.ref 13, .int x1] S0 (rx_pi zr zS) := by
  unfold f_X4_readSum1 at h
  show EV gC (d + 9) mX4_readSum 0 [some (.ref 13), some (.int x1), none, none] [] S0 (rx_pi zr zS)
  refine ev_aload_n (i := 0) 1 dX4_readSum_0 rfl rfl rfl ?_
  refine ev_iload_n (i := 1) 2 dX4_readSum_1 rfl rfl rfl ?_
  obtain ⟨x4, S3, g5, h⟩ := rx_bd_o h
  refine ev_cVi1 5 dX4_readSum_2 (em_X4_readProduct hrec g5) mm_X4_readProduct mv_X4_readProduct lk_4_169 dk_13 (by decide) rfl (Nat.le_of_ble_eq_true rfl) (Nat.le_of_ble_eq_true rfl) rfl ?_
  refine ev_if_ne 10 8 dX4_readSum_5 rfl rfl (fun c6 => ?_) (fun c6 => ?_)
  · replace h := rx_if_f c6 h
    refine ev_iconst (v := 0) 11 dX4_readSum_10 (by decide) rfl ?_
    refine ev_istore_n (ls' := [some (.ref 13), some (.int x1), some (.int 0), none]) 12 dX4_readSum_11 rfl (Nat.le_of_ble_eq_true rfl) rfl rfl ?_
    exact (em_X4_readSum1_L12 hrec _ _ _ _ h).fewer (rx_le_s (rx_le_s (rx_le_s (rx_le_n rx_le_0))))
  · replace h := rx_if_t c6 h
    refine ev_iconst (v := 0) 9 dX4_readSum_8 (by decide) rfl ?_
    exact ev_zreturn dX4_readSum_9 rfl (by decide) (rx_ret_i h)

def f_X4_readSum : Nat → Nat → Int32 → rx_S → Option (Int32 × rx_S)
  | 0, _, _, _ => none
  | D + 1, N, x1, S0 => f_X4_readSum1 (f_X4_readSum D N) N x1 S0
set_option maxHeartbeats 4000000 in
set_option maxRecDepth 20000 in
theorem em_X4_readSum : ∀ (D : Nat) {d N : Nat} {x1 : Int32} {S0 : rx_S} {zr : Int32} {zS : rx_S} (h : f_X4_readSum D N x1 S0 = some (zr, zS)), EM gC (d + (3 * D + 6)) mX4_readSum [.ref 13, .int x1] S0 (rx_pi zr zS) := by
  intro D
  induction D with
  | zero => intro d N x1 S0 zr zS h; cases h
  | succ D ih =>
    intro d N x1 S0 zr zS h
    rw [f_X4_readSum] at h
    have e : d + (3 * (D + 1) + 6) = d + 3 * D + 9 := by omega
    rw [e]
    exact em_X4_readSum1 (fun x S T z g => by have g2 := ih (d := d) g; rw [show d + (3 * D + 6) = d + 3 * D + 6 by omega] at g2; exact g2) h
set_option maxHeartbeats 4000000 in
set_option maxRecDepth 20000 in
theorem em_X4_readSum8 {d N : Nat} {x1 : Int32} {S0 : rx_S} {zr : Int32} {zS : rx_S} (h : f_X4_readSum 8 N x1 S0 = some (zr, zS)) : EM gC (d + 30) mX4_readSum [.ref 13, .int x1] S0 (rx_pi zr zS) := em_X4_readSum 8 h
def f_X4_readLaw_L36 (N : Nat) (K63 : rx_S → Option (Int32 × rx_S)) (K179 : rx_S → Option (Int32 × rx_S)) : Nat → Int32 → rx_S → Option (Int32 × rx_S)
  | 0, _, _ => none
  | n + 1, x31, S32 => if (4 : Int32) < x31 then (K179 S32) else (rx_bd (f_X9_kindAt (S32.1 13 5) S32) (fun x37 S36 => if x37 = 140 then (if x31 = 4 then (K63 S36) else (rx_bd (f_X4_take 140 S36) (fun x42 S41 => if x42 = 0 then (some (0, S41)) else (rx_bd (f_X4_readSum 8 N 0 S41) (fun x46 S45 => if x46 = 0 then (some (0, S45)) else (rx_bd (f_X4_take 60 S45) (fun x50 S49 => if x50 = 0 then (some (0, S49)) else (rx_bd (f_X4_readSum 8 N 0 S49) (fun x54 S53 => if x54 = 0 then (some (0, S53)) else (rx_bd (f_X4_take 141 S53) (fun x58 S57 => if x58 = 0 then (some (0, S57)) else (rx_bd (f_X2_add 20 (-100) S57) (fun x62 S61 => rx_bd (f_X4_readSum 8 N 0 S61) (fun x65 S64 => if x65 = 0 then (some (0, S64)) else (rx_bd (f_X4_take 142 S64) (fun x69 S68 => if x69 = 0 then (some (0, S68)) else (rx_bd (f_X2_add 20 (-14) S68) (fun x73 S72 => rx_bd (f_X2_jumpHere 20 x62 S72) (fun x76 S75 => rx_let (x31 + 1) (fun x78 => f_X4_readLaw_L36 N K63 K179 n x78 S75)))))))))))))))))))) else (K179 S36)))
def f_X4_readLaw (N : Nat) (x1 : Int32) (S0 : rx_S) : Option (Int32 × rx_S) := rx_bd (f_X4_take x1 S0) (fun x4 S3 => if x4 = 0 then (some (0, S3)) else (rx_bd (f_X4_take 61 S3) (fun x8 S7 => if x8 = 0 then (some (0, S7)) else (rx_bd (f_X2_begin 20 (x1 - 131) S7) (fun x12 S11 => rx_let (fun (S14 : rx_S) => rx_bd (f_X4_readSum 8 N 0 S14) (fun x16 S15 => if x16 = 0 then (some (0, S15)) else (rx_bd (f_X2_add 20 (-14) S15) (fun x20 S19 => rx_bd (f_X4_take 59 S19) (fun x23 S22 => rx_bl x23 (some (x23, S22))))))) (fun J179_1 => rx_let (fun (S26 : rx_S) => rx_bd (f_X4_refuse 2 S26) (fun x28 S27 => rx_bl x28 (some (x28, S27)))) (fun J63_2 => f_X4_readLaw_L36 N J63_2 J179_1 N 0 S11)))))))
set_option maxHeartbeats 4000000 in
set_option maxRecDepth 20000 in
theorem em_X4_readLaw_L36 {d N : Nat} {K63 : rx_S → Option (Int32 × rx_S)} {K179 : rx_S → Option (Int32 × rx_S)} {zr : Int32} {zS : rx_S} (hK63 : ∀ (S33 : rx_S), K63 S33 = some (zr, zS) → EV gC (d + 31) mX4_readLaw 63 [some (.ref 13), none, none, none] [] S33 (rx_pi zr zS)) (hK179 : ∀ (S34 : rx_S), K179 S34 = some (zr, zS) → EV gC (d + 31) mX4_readLaw 179 [some (.ref 13), none, none, none] [] S34 (rx_pi zr zS)) : ∀ (n : Nat) (x31 : Int32) (S32 : rx_S), f_X4_readLaw_L36 N K63 K179 n x31 S32 = some (zr, zS) → EV gC (d + 31) mX4_readLaw 36 [some (.ref 13), none, some (.int x31), none] [] S32 (rx_pi zr zS) := by
  intro n
  induction n with
  | zero => intro x31 S32 h; cases h
  | succ n ih =>
    intro x31 S32 h
    rw [f_X4_readLaw_L36] at h
    refine ev_iload_n (i := 2) 37 dX4_readLaw_36 rfl rfl rfl ?_
    refine ev_iconst (v := 4) 38 dX4_readLaw_37 (by decide) rfl ?_
    refine ev_icmp_gt 179 41 dX4_readLaw_38 rfl rfl (fun c35 => ?_) (fun c35 => ?_)
    · replace h := rx_if_t c35 h
      exact (hK179 _ h).fewer (rx_le_s (rx_le_n (rx_le_n (rx_le_n rx_le_0))))
    · replace h := rx_if_f c35 h
      refine ev_aload_n (i := 0) 42 dX4_readLaw_41 rfl rfl rfl ?_
      refine ev_get (v := .ref 14) 45 dX4_readLaw_42 dk_13 fl_4_12 (by decide) rfl rfl rfl ?_
      refine ev_aload_n (i := 0) 46 dX4_readLaw_45 rfl rfl rfl ?_
      refine ev_get (v := .int (S32.1 13 5)) 49 dX4_readLaw_46 dk_13 fl_4_44 (by decide) rfl rfl rfl ?_
      obtain ⟨x37, S36, g38, h⟩ := rx_bd_o h
      refine ev_cVi1 52 dX4_readLaw_49 (em_X9_kindAt g38) mm_X9_kindAt mv_X9_kindAt lk_4_56 dk_14 (by decide) rfl (Nat.le_of_ble_eq_true rfl) (Nat.le_of_ble_eq_true rfl) rfl ?_
      refine ev_sipush (v := 140) 55 dX4_readLaw_52 (by decide) rfl ?_
      refine ev_icmp_ne 179 58 dX4_readLaw_55 rfl rfl (fun c39 => ?_) (fun c39 => ?_)
      · replace h := rx_if_f c39 h
        exact (hK179 _ h).fewer (rx_le_s (rx_le_n (rx_le_n (rx_le_n rx_le_0))))
      · replace h := rx_if_t c39 h
        refine ev_iload_n (i := 2) 59 dX4_readLaw_58 rfl rfl rfl ?_
        refine ev_iconst (v := 4) 60 dX4_readLaw_59 (by decide) rfl ?_
        refine ev_icmp_ne 69 63 dX4_readLaw_60 rfl rfl (fun c40 => ?_) (fun c40 => ?_)
        · replace h := rx_if_f c40 h
          refine ev_aload_n (i := 0) 70 dX4_readLaw_69 rfl rfl rfl ?_
          refine ev_sipush (v := 140) 73 dX4_readLaw_70 (by decide) rfl ?_
          obtain ⟨x42, S41, g43, h⟩ := rx_bd_o h
          refine ev_cVi1 76 dX4_readLaw_73 (em_X4_take g43) mm_X4_take mv_X4_take lk_4_73 dk_13 (by decide) rfl (Nat.le_of_ble_eq_true rfl) (Nat.le_of_ble_eq_true rfl) rfl ?_
          refine ev_if_eq 114 79 dX4_readLaw_76 rfl rfl (fun c44 => ?_) (fun c44 => ?_)
          · replace h := rx_if_t c44 h
            refine ev_iconst (v := 0) 115 dX4_readLaw_114 (by decide) rfl ?_
            exact ev_zreturn dX4_readLaw_115 rfl (by decide) (rx_ret_i h)
          · replace h := rx_if_f c44 h
            refine ev_aload_n (i := 0) 80 dX4_readLaw_79 rfl rfl rfl ?_
            refine ev_iconst (v := 0) 81 dX4_readLaw_80 (by decide) rfl ?_
            obtain ⟨x46, S45, g47, h⟩ := rx_bd_o h
            refine ev_cVi1 84 dX4_readLaw_81 (em_X4_readSum8 g47) mm_X4_readSum mv_X4_readSum lk_4_160 dk_13 (by decide) rfl (Nat.le_of_ble_eq_true rfl) (Nat.le_of_ble_eq_true rfl) rfl ?_
            refine ev_if_eq 114 87 dX4_readLaw_84 rfl rfl (fun c48 => ?_) (fun c48 => ?_)
            · replace h := rx_if_t c48 h
              refine ev_iconst (v := 0) 115 dX4_readLaw_114 (by decide) rfl ?_
              exact ev_zreturn dX4_readLaw_115 rfl (by decide) (rx_ret_i h)
            · replace h := rx_if_f c48 h
              refine ev_aload_n (i := 0) 88 dX4_readLaw_87 rfl rfl rfl ?_
              refine ev_bipush (v := 60) 90 dX4_readLaw_88 (by decide) rfl ?_
              obtain ⟨x50, S49, g51, h⟩ := rx_bd_o h
              refine ev_cVi1 93 dX4_readLaw_90 (em_X4_take g51) mm_X4_take mv_X4_take lk_4_73 dk_13 (by decide) rfl (Nat.le_of_ble_eq_true rfl) (Nat.le_of_ble_eq_true rfl) rfl ?_
              refine ev_if_eq 114 96 dX4_readLaw_93 rfl rfl (fun c52 => ?_) (fun c52 => ?_)
              · replace h := rx_if_t c52 h
                refine ev_iconst (v := 0) 115 dX4_readLaw_114 (by decide) rfl ?_
                exact ev_zreturn dX4_readLaw_115 rfl (by decide) (rx_ret_i h)
              · replace h := rx_if_f c52 h
                refine ev_aload_n (i := 0) 97 dX4_readLaw_96 rfl rfl rfl ?_
                refine ev_iconst (v := 0) 98 dX4_readLaw_97 (by decide) rfl ?_
                obtain ⟨x54, S53, g55, h⟩ := rx_bd_o h
                refine ev_cVi1 101 dX4_readLaw_98 (em_X4_readSum8 g55) mm_X4_readSum mv_X4_readSum lk_4_160 dk_13 (by decide) rfl (Nat.le_of_ble_eq_true rfl) (Nat.le_of_ble_eq_true rfl) rfl ?_
                refine ev_if_eq 114 104 dX4_readLaw_101 rfl rfl (fun c56 => ?_) (fun c56 => ?_)
                · replace h := rx_if_t c56 h
                  refine ev_iconst (v := 0) 115 dX4_readLaw_114 (by decide) rfl ?_
                  exact ev_zreturn dX4_readLaw_115 rfl (by decide) (rx_ret_i h)
                · replace h := rx_if_f c56 h
                  refine ev_aload_n (i := 0) 105 dX4_readLaw_104 rfl rfl rfl ?_
                  refine ev_sipush (v := 141) 108 dX4_readLaw_105 (by decide) rfl ?_
                  obtain ⟨x58, S57, g59, h⟩ := rx_bd_o h
                  refine ev_cVi1 111 dX4_readLaw_108 (em_X4_take g59) mm_X4_take mv_X4_take lk_4_73 dk_13 (by decide) rfl (Nat.le_of_ble_eq_true rfl) (Nat.le_of_ble_eq_true rfl) rfl ?_
                  refine ev_if_ne 116 114 dX4_readLaw_111 rfl rfl (fun c60 => ?_) (fun c60 => ?_)
                  · replace h := rx_if_f c60 h
                    refine ev_aload_n (i := 0) 117 dX4_readLaw_116 rfl rfl rfl ?_
                    refine ev_get (v := .ref 19) 120 dX4_readLaw_117 dk_13 fl_4_21 (by decide) rfl rfl rfl ?_
                    refine ev_get (v := .ref 20) 123 dX4_readLaw_120 dk_19 fl_4_151 (by decide) rfl rfl rfl ?_
                    refine ev_bipush (v := (-100)) 125 dX4_readLaw_123 (by decide) rfl ?_
                    obtain ⟨x62, S61, g63, h⟩ := rx_bd_o h
                    refine ev_cVi1 128 dX4_readLaw_125 (em_X2_add_20 g63) mm_X2_add mv_X2_add lk_4_163 dk_20 (by decide) rfl (Nat.le_of_ble_eq_true rfl) (Nat.le_of_ble_eq_true rfl) rfl ?_
                    refine ev_istore_n (ls' := [some (.ref 13), none, some (.int x31), some (.int x62)]) 129 dX4_readLaw_128 rfl (Nat.le_of_ble_eq_true rfl) rfl rfl ?_
                    refine ev_aload_n (i := 0) 130 dX4_readLaw_129 rfl rfl rfl ?_
                    refine ev_iconst (v := 0) 131 dX4_readLaw_130 (by decide) rfl ?_
                    obtain ⟨x65, S64, g66, h⟩ := rx_bd_o h
                    refine ev_cVi1 134 dX4_readLaw_131 (em_X4_readSum8 g66) mm_X4_readSum mv_X4_readSum lk_4_160 dk_13 (by decide) rfl (Nat.le_of_ble_eq_true rfl) (Nat.le_of_ble_eq_true rfl) rfl ?_
                    refine ev_if_eq 147 137 dX4_readLaw_134 rfl rfl (fun c67 => ?_) (fun c67 => ?_)
                    · replace h := rx_if_t c67 h
                      refine ev_iconst (v := 0) 148 dX4_readLaw_147 (by decide) rfl ?_
                      exact ev_zreturn dX4_readLaw_148 rfl (by decide) (rx_ret_i h)
                    · replace h := rx_if_f c67 h
                      refine ev_aload_n (i := 0) 138 dX4_readLaw_137 rfl rfl rfl ?_
                      refine ev_sipush (v := 142) 141 dX4_readLaw_138 (by decide) rfl ?_
                      obtain ⟨x69, S68, g70, h⟩ := rx_bd_o h
                      refine ev_cVi1 144 dX4_readLaw_141 (em_X4_take g70) mm_X4_take mv_X4_take lk_4_73 dk_13 (by decide) rfl (Nat.le_of_ble_eq_true rfl) (Nat.le_of_ble_eq_true rfl) rfl ?_
                      refine ev_if_ne 149 147 dX4_readLaw_144 rfl rfl (fun c71 => ?_) (fun c71 => ?_)
                      · replace h := rx_if_f c71 h
                        refine ev_aload_n (i := 0) 150 dX4_readLaw_149 rfl rfl rfl ?_
                        refine ev_get (v := .ref 19) 153 dX4_readLaw_150 dk_13 fl_4_21 (by decide) rfl rfl rfl ?_
                        refine ev_get (v := .ref 20) 156 dX4_readLaw_153 dk_19 fl_4_151 (by decide) rfl rfl rfl ?_
                        refine ev_bipush (v := (-14)) 158 dX4_readLaw_156 (by decide) rfl ?_
                        obtain ⟨x73, S72, g74, h⟩ := rx_bd_o h
                        refine ev_cVi1 161 dX4_readLaw_158 (em_X2_add_20 g74) mm_X2_add mv_X2_add lk_4_163 dk_20 (by decide) rfl (Nat.le_of_ble_eq_true rfl) (Nat.le_of_ble_eq_true rfl) rfl ?_
                        refine ev_pop 162 dX4_readLaw_161 rfl rfl ?_
                        refine ev_aload_n (i := 0) 163 dX4_readLaw_162 rfl rfl rfl ?_
                        refine ev_get (v := .ref 19) 166 dX4_readLaw_163 dk_13 fl_4_21 (by decide) rfl rfl rfl ?_
                        refine ev_get (v := .ref 20) 169 dX4_readLaw_166 dk_19 fl_4_151 (by decide) rfl rfl rfl ?_
                        refine ev_iload_n (i := 3) 170 dX4_readLaw_169 rfl rfl rfl ?_
                        obtain ⟨x76, S75, g77, h⟩ := rx_bd_o h
                        refine ev_cVv1 173 dX4_readLaw_170 (em_X2_jumpHere_20 g77) mm_X2_jumpHere mv_X2_jumpHere lk_4_166 dk_20 (by decide) rfl (Nat.le_of_ble_eq_true rfl) (Nat.le_of_ble_eq_true rfl) rfl ?_
                        obtain ⟨x78, ex78, h⟩ := rx_let_o h
                        refine ev_iinc (v := x78) (ls' := [some (.ref 13), none, some (.int x78), some (.int x62)]) 176 dX4_readLaw_173 rfl (by rw [ex78]; rfl) (Nat.le_of_ble_eq_true rfl) rfl rfl ?_
                        refine ev_goto 36 dX4_readLaw_176 rfl ?_
                        exact (ih _ _ h).fewer (rx_le_s (rx_le_n (rx_le_s (rx_le_n rx_le_0))))
                      · replace h := rx_if_t c71 h
                        refine ev_iconst (v := 0) 148 dX4_readLaw_147 (by decide) rfl ?_
                        exact ev_zreturn dX4_readLaw_148 rfl (by decide) (rx_ret_i h)
                  · replace h := rx_if_t c60 h
                    refine ev_iconst (v := 0) 115 dX4_readLaw_114 (by decide) rfl ?_
                    exact ev_zreturn dX4_readLaw_115 rfl (by decide) (rx_ret_i h)
        · replace h := rx_if_t c40 h
          exact (hK63 _ h).fewer (rx_le_s (rx_le_n (rx_le_n (rx_le_n rx_le_0))))

set_option maxHeartbeats 4000000 in
set_option maxRecDepth 20000 in
theorem em_X4_readLaw {d N : Nat} {x1 : Int32} {S0 : rx_S} {zr : Int32} {zS : rx_S} (h : f_X4_readLaw N x1 S0 = some (zr, zS)) : EM gC (d + 31) mX4_readLaw [.ref 13, .int x1] S0 (rx_pi zr zS) := by
  unfold f_X4_readLaw at h
  show EV gC (d + 31) mX4_readLaw 0 [some (.ref 13), some (.int x1), none, none] [] S0 (rx_pi zr zS)
  refine ev_aload_n (i := 0) 1 dX4_readLaw_0 rfl rfl rfl ?_
  refine ev_iload_n (i := 1) 2 dX4_readLaw_1 rfl rfl rfl ?_
  obtain ⟨x4, S3, g5, h⟩ := rx_bd_o h
  refine ev_cVi1 5 dX4_readLaw_2 (em_X4_take g5) mm_X4_take mv_X4_take lk_4_73 dk_13 (by decide) rfl (Nat.le_of_ble_eq_true rfl) (Nat.le_of_ble_eq_true rfl) rfl ?_
  refine ev_if_eq 17 8 dX4_readLaw_5 rfl rfl (fun c6 => ?_) (fun c6 => ?_)
  · replace h := rx_if_t c6 h
    refine ev_iconst (v := 0) 18 dX4_readLaw_17 (by decide) rfl ?_
    exact ev_zreturn dX4_readLaw_18 rfl (by decide) (rx_ret_i h)
  · replace h := rx_if_f c6 h
    refine ev_aload_n (i := 0) 9 dX4_readLaw_8 rfl rfl rfl ?_
    refine ev_bipush (v := 61) 11 dX4_readLaw_9 (by decide) rfl ?_
    obtain ⟨x8, S7, g9, h⟩ := rx_bd_o h
    refine ev_cVi1 14 dX4_readLaw_11 (em_X4_take g9) mm_X4_take mv_X4_take lk_4_73 dk_13 (by decide) rfl (Nat.le_of_ble_eq_true rfl) (Nat.le_of_ble_eq_true rfl) rfl ?_
    refine ev_if_ne 19 17 dX4_readLaw_14 rfl rfl (fun c10 => ?_) (fun c10 => ?_)
    · replace h := rx_if_f c10 h
      refine ev_aload_n (i := 0) 20 dX4_readLaw_19 rfl rfl rfl ?_
      refine ev_get (v := .ref 19) 23 dX4_readLaw_20 dk_13 fl_4_21 (by decide) rfl rfl rfl ?_
      refine ev_get (v := .ref 20) 26 dX4_readLaw_23 dk_19 fl_4_151 (by decide) rfl rfl rfl ?_
      refine ev_iload_n (i := 1) 27 dX4_readLaw_26 rfl rfl rfl ?_
      refine ev_sipush (v := 131) 30 dX4_readLaw_27 (by decide) rfl ?_
      refine ev_isub 31 dX4_readLaw_30 rfl ?_
      obtain ⟨x12, S11, g13, h⟩ := rx_bd_o h
      refine ev_cVv1 34 dX4_readLaw_31 (em_X2_begin_20 g13) mm_X2_begin mv_X2_begin lk_4_155 dk_20 (by decide) rfl (Nat.le_of_ble_eq_true rfl) (Nat.le_of_ble_eq_true rfl) rfl ?_
      refine ev_iconst (v := 0) 35 dX4_readLaw_34 (by decide) rfl ?_
      refine ev_istore_n (ls' := [some (.ref 13), some (.int x1), some (.int 0), none]) 36 dX4_readLaw_35 rfl (Nat.le_of_ble_eq_true rfl) rfl rfl ?_
      obtain ⟨J179_1, eJ179_1, h⟩ := rx_let_o h
      have hJ179_1 : ∀ (S14 : rx_S), J179_1 S14 = some (zr, zS) → EV gC (d + 31) mX4_readLaw 179 [some (.ref 13), none, none, none] [] S14 (rx_pi zr zS) := by
        intro S14 h
        subst eJ179_1
        refine ev_aload_n (i := 0) 180 dX4_readLaw_179 rfl rfl rfl ?_
        refine ev_iconst (v := 0) 181 dX4_readLaw_180 (by decide) rfl ?_
        obtain ⟨x16, S15, g17, h⟩ := rx_bd_o h
        refine ev_cVi1 184 dX4_readLaw_181 (em_X4_readSum8 g17) mm_X4_readSum mv_X4_readSum lk_4_160 dk_13 (by decide) rfl (Nat.le_of_ble_eq_true rfl) (Nat.le_of_ble_eq_true rfl) rfl ?_
        refine ev_if_ne 189 187 dX4_readLaw_184 rfl rfl (fun c18 => ?_) (fun c18 => ?_)
        · replace h := rx_if_f c18 h
          refine ev_aload_n (i := 0) 190 dX4_readLaw_189 rfl rfl rfl ?_
          refine ev_get (v := .ref 19) 193 dX4_readLaw_190 dk_13 fl_4_21 (by decide) rfl rfl rfl ?_
          refine ev_get (v := .ref 20) 196 dX4_readLaw_193 dk_19 fl_4_151 (by decide) rfl rfl rfl ?_
          refine ev_bipush (v := (-14)) 198 dX4_readLaw_196 (by decide) rfl ?_
          obtain ⟨x20, S19, g21, h⟩ := rx_bd_o h
          refine ev_cVi1 201 dX4_readLaw_198 (em_X2_add_20 g21) mm_X2_add mv_X2_add lk_4_163 dk_20 (by decide) rfl (Nat.le_of_ble_eq_true rfl) (Nat.le_of_ble_eq_true rfl) rfl ?_
          refine ev_pop 202 dX4_readLaw_201 rfl rfl ?_
          refine ev_aload_n (i := 0) 203 dX4_readLaw_202 rfl rfl rfl ?_
          refine ev_bipush (v := 59) 205 dX4_readLaw_203 (by decide) rfl ?_
          obtain ⟨x23, S22, g24, h⟩ := rx_bd_o h
          refine ev_cVi1 208 dX4_readLaw_205 (em_X4_take g24) mm_X4_take mv_X4_take lk_4_73 dk_13 (by decide) rfl (Nat.le_of_ble_eq_true rfl) (Nat.le_of_ble_eq_true rfl) rfl ?_
          obtain ⟨g25, h⟩ := rx_bl_o h
          exact ev_zreturn dX4_readLaw_208 rfl (rx_nb g25) (rx_ret_i h)
        · replace h := rx_if_t c18 h
          refine ev_iconst (v := 0) 188 dX4_readLaw_187 (by decide) rfl ?_
          exact ev_zreturn dX4_readLaw_188 rfl (by decide) (rx_ret_i h)
      obtain ⟨J63_2, eJ63_2, h⟩ := rx_let_o h
      have hJ63_2 : ∀ (S26 : rx_S), J63_2 S26 = some (zr, zS) → EV gC (d + 31) mX4_readLaw 63 [some (.ref 13), none, none, none] [] S26 (rx_pi zr zS) := by
        intro S26 h
        subst eJ63_2
        refine ev_aload_n (i := 0) 64 dX4_readLaw_63 rfl rfl rfl ?_
        refine ev_iconst (v := 2) 65 dX4_readLaw_64 (by decide) rfl ?_
        obtain ⟨x28, S27, g29, h⟩ := rx_bd_o h
        refine ev_cVi1 68 dX4_readLaw_65 (em_X4_refuse g29) mm_X4_refuse mv_X4_refuse lk_4_104 dk_13 (by decide) rfl (Nat.le_of_ble_eq_true rfl) (Nat.le_of_ble_eq_true rfl) rfl ?_
        obtain ⟨g30, h⟩ := rx_bl_o h
        exact ev_zreturn dX4_readLaw_68 rfl (rx_nb g30) (rx_ret_i h)
      exact (em_X4_readLaw_L36 hJ63_2 hJ179_1 _ _ _ h).fewer (rx_le_s (rx_le_n (rx_le_s (rx_le_n rx_le_0))))
    · replace h := rx_if_t c10 h
      refine ev_iconst (v := 0) 18 dX4_readLaw_17 (by decide) rfl ?_
      exact ev_zreturn dX4_readLaw_18 rfl (by decide) (rx_ret_i h)

def f_X5_isRow (N : Nat) (x0 : Int32) (S0 : rx_S) : Option (Int32 × rx_S) := rx_bd (f_X5_size N x0 S0) (fun x3 S2 => if x3 = (-1) then (some (0, S2)) else (some (1, S2)))
set_option maxHeartbeats 4000000 in
set_option maxRecDepth 20000 in
theorem em_X5_isRow {d N : Nat} {x0 : Int32} {S0 : rx_S} {zr : Int32} {zS : rx_S} (h : f_X5_isRow N x0 S0 = some (zr, zS)) : EM gC (d + 1) mX5_isRow [.int x0] S0 (rx_pi zr zS) := by
  unfold f_X5_isRow at h
  show EV gC (d + 1) mX5_isRow 0 [some (.int x0)] [] S0 (rx_pi zr zS)
  refine ev_iload_n (i := 0) 1 dX5_isRow_0 rfl rfl rfl ?_
  obtain ⟨x3, S2, g4, h⟩ := rx_bd_o h
  refine ev_cSi1 4 dX5_isRow_1 (em_X5_size g4) mm_X5_size ms_X5_size lk_5_15 (Nat.le_of_ble_eq_true rfl) (Nat.le_of_ble_eq_true rfl) rfl ?_
  refine ev_iconst (v := (-1)) 5 dX5_isRow_4 (by decide) rfl ?_
  refine ev_icmp_eq 12 8 dX5_isRow_5 rfl rfl (fun c5 => ?_) (fun c5 => ?_)
  · replace h := rx_if_t c5 h
    refine ev_iconst (v := 0) 13 dX5_isRow_12 (by decide) rfl ?_
    exact ev_zreturn dX5_isRow_13 rfl (by decide) (rx_ret_i h)
  · replace h := rx_if_f c5 h
    refine ev_iconst (v := 1) 9 dX5_isRow_8 (by decide) rfl ?_
    refine ev_goto 13 dX5_isRow_9 rfl ?_
    exact ev_zreturn dX5_isRow_13 rfl (by decide) (rx_ret_i h)

def f_X5_goDown_L18 (N : Nat) : Nat → Int32 → Int32 → Int32 → Int32 → Int32 → rx_S → Option (Unit × rx_S)
  | 0, _, _, _, _, _, _ => none
  | n + 1, x8, x9, x10, x11, x12, S13 => if x10 < x12 then (some ((), S13)) else (if (6 : Int32) ≤ x12 then (some ((), S13)) else (rx_bd (f_X5_wordAt x9 x10 (x12 - 1) S13) (fun x17 S16 => rx_let (fun (x19 : Int32) (x20 : Int32) (x21 : Int32) (x22 : Int32) (x23 : Int32) (x24 : Int32) (S25 : rx_S) => rx_let (x23 + x24) (fun x26 => rx_gd x22 6 (rx_let (S25.1 83 (Int32.toNatClampNeg x22)) (fun x28 => rx_gd x22 6 (rx_gd (x22 - 1) 6 (rx_gd x22 6 (rx_let (rx_ui S25 83 (Int32.toNatClampNeg x22) (if ((1 : Int32) + (if (S25.1 83 (Int32.toNatClampNeg (x22 - 1))) < (S25.1 83 (Int32.toNatClampNeg x22)) then (S25.1 83 (Int32.toNatClampNeg (x22 - 1))) else (S25.1 83 (Int32.toNatClampNeg x22)))) < x26 then ((1 : Int32) + (if (S25.1 83 (Int32.toNatClampNeg (x22 - 1))) < (S25.1 83 (Int32.toNatClampNeg x22)) then (S25.1 83 (Int32.toNatClampNeg (x22 - 1))) else (S25.1 83 (Int32.toNatClampNeg x22)))) else x26)) (fun S32 => rx_let (x22 + 1) (fun x33 => f_X5_goDown_L18 N n x19 x20 x21 x28 x33 S32))))))))) (fun J56_1 => if x17 = x8 then (J56_1 x8 x9 x10 x12 x11 0 S16) else (J56_1 x8 x9 x10 x12 x11 1 S16)))))
def f_X5_goDown (N : Nat) (x1 : Int32) (x2 : Int32) (x3 : Int32) (x4 : Int32) (S0 : rx_S) : Option (Unit × rx_S) := rx_let (S0.1 83 0) (fun x6 => rx_let (rx_ui S0 83 0 x1) (fun S7 => f_X5_goDown_L18 N N x2 x3 x4 x6 1 S7))
set_option maxHeartbeats 4000000 in
set_option maxRecDepth 20000 in
theorem em_X5_goDown_L18 {d N : Nat} {zr : Unit} {zS : rx_S} : ∀ (n : Nat) (x8 : Int32) (x9 : Int32) (x10 : Int32) (x11 : Int32) (x12 : Int32) (S13 : rx_S), f_X5_goDown_L18 N n x8 x9 x10 x11 x12 S13 = some (zr, zS) → EV gC (d + 1) mX5_goDown 18 [some (.ref 82), none, some (.int x8), some (.int x9), some (.int x10), some (.int x11), some (.int x12), none] [] S13 (rx_pv zS) := by
  intro n
  induction n with
  | zero => intro x8 x9 x10 x11 x12 S13 h; cases h
  | succ n ih =>
    intro x8 x9 x10 x11 x12 S13 h
    rw [f_X5_goDown_L18] at h
    refine ev_iload 20 dX5_goDown_18 rfl rfl ?_
    refine ev_iload 22 dX5_goDown_20 rfl rfl ?_
    refine ev_icmp_gt 107 25 dX5_goDown_22 rfl rfl (fun c14 => ?_) (fun c14 => ?_)
    · replace h := rx_if_t c14 h
      exact ev_return dX5_goDown_107 rfl (rx_ret_v h)
    · replace h := rx_if_f c14 h
      refine ev_iload 27 dX5_goDown_25 rfl rfl ?_
      refine ev_aload_n (i := 0) 28 dX5_goDown_27 rfl rfl rfl ?_
      refine ev_get (v := .ref 83) 31 dX5_goDown_28 dk_82 fl_5_9 (by decide) rfl rfl rfl ?_
      refine ev_alen (v := 6) 32 dX5_goDown_31 dk_83 (by decide) (by decide) rfl ?_
      refine ev_icmp_ge 107 35 dX5_goDown_32 rfl rfl (fun c15 => ?_) (fun c15 => ?_)
      · replace h := rx_if_t c15 h
        exact ev_return dX5_goDown_107 rfl (rx_ret_v h)
      · replace h := rx_if_f c15 h
        refine ev_iload 37 dX5_goDown_35 rfl rfl ?_
        refine ev_iload_n (i := 3) 38 dX5_goDown_37 rfl rfl rfl ?_
        refine ev_iload 40 dX5_goDown_38 rfl rfl ?_
        refine ev_iload 42 dX5_goDown_40 rfl rfl ?_
        refine ev_iconst (v := 1) 43 dX5_goDown_42 (by decide) rfl ?_
        refine ev_isub 44 dX5_goDown_43 rfl ?_
        obtain ⟨x17, S16, g18, h⟩ := rx_bd_o h
        refine ev_cSi3 47 dX5_goDown_44 (em_X5_wordAt g18) mm_X5_wordAt ms_X5_wordAt lk_5_19 (Nat.le_of_ble_eq_true rfl) (Nat.le_of_ble_eq_true rfl) rfl ?_
        refine ev_iload_n (i := 2) 48 dX5_goDown_47 rfl rfl rfl ?_
        obtain ⟨J56_1, eJ56_1, h⟩ := rx_let_o h
        have hJ56_1 : ∀ (x19 : Int32) (x20 : Int32) (x21 : Int32) (x22 : Int32) (x23 : Int32) (x24 : Int32) (S25 : rx_S), J56_1 x19 x20 x21 x22 x23 x24 S25 = some (zr, zS) → EV gC (d + 1) mX5_goDown 56 [some (.ref 82), none, some (.int x19), some (.int x20), some (.int x21), none, some (.int x22), none] [.int x24, .int x23] S25 (rx_pv zS) := by
          intro x19 x20 x21 x22 x23 x24 S25 h
          subst eJ56_1
          refine ev_iadd 57 dX5_goDown_56 rfl ?_
          obtain ⟨x26, ex26, h⟩ := rx_let_o h
          refine ev_nm ex26 ?_
          refine ev_istore (ls' := [some (.ref 82), none, some (.int x19), some (.int x20), some (.int x21), none, some (.int x22), some (.int x26)]) 59 dX5_goDown_57 (Nat.le_of_ble_eq_true rfl) rfl rfl ?_
          refine ev_aload_n (i := 0) 60 dX5_goDown_59 rfl rfl rfl ?_
          refine ev_get (v := .ref 83) 63 dX5_goDown_60 dk_82 fl_5_9 (by decide) rfl rfl rfl ?_
          refine ev_iload 65 dX5_goDown_63 rfl rfl ?_
          obtain ⟨g27, h⟩ := rx_gd_o h
          refine ex_iald _ 66 dX5_goDown_65 dk_83 g27 rfl rfl ?_
          obtain ⟨x28, ex28, h⟩ := rx_let_o h
          refine ev_nm ex28 ?_
          refine ev_istore (ls' := [some (.ref 82), none, some (.int x19), some (.int x20), some (.int x21), some (.int x28), some (.int x22), some (.int x26)]) 68 dX5_goDown_66 (Nat.le_of_ble_eq_true rfl) rfl rfl ?_
          refine ev_aload_n (i := 0) 69 dX5_goDown_68 rfl rfl rfl ?_
          refine ev_get (v := .ref 83) 72 dX5_goDown_69 dk_82 fl_5_9 (by decide) rfl rfl rfl ?_
          refine ev_iload 74 dX5_goDown_72 rfl rfl ?_
          refine ev_iload 76 dX5_goDown_74 rfl rfl ?_
          refine ev_iconst (v := 1) 77 dX5_goDown_76 (by decide) rfl ?_
          refine ev_aload_n (i := 0) 78 dX5_goDown_77 rfl rfl rfl ?_
          refine ev_get (v := .ref 83) 81 dX5_goDown_78 dk_82 fl_5_9 (by decide) rfl rfl rfl ?_
          refine ev_iload 83 dX5_goDown_81 rfl rfl ?_
          obtain ⟨g29, h⟩ := rx_gd_o h
          refine ex_iald _ 84 dX5_goDown_83 dk_83 g29 rfl rfl ?_
          refine ev_aload_n (i := 0) 85 dX5_goDown_84 rfl rfl rfl ?_
          refine ev_get (v := .ref 83) 88 dX5_goDown_85 dk_82 fl_5_9 (by decide) rfl rfl rfl ?_
          refine ev_iload 90 dX5_goDown_88 rfl rfl ?_
          refine ev_iconst (v := 1) 91 dX5_goDown_90 (by decide) rfl ?_
          refine ev_isub 92 dX5_goDown_91 rfl ?_
          obtain ⟨g30, h⟩ := rx_gd_o h
          refine ex_iald _ 93 dX5_goDown_92 dk_83 g30 rfl rfl ?_
          refine ev_min 96 dX5_goDown_93 lk_5_27 w_min (Nat.le_of_ble_eq_true rfl) rfl ?_
          refine ev_iadd 97 dX5_goDown_96 rfl ?_
          refine ev_min 100 dX5_goDown_97 lk_5_27 w_min (Nat.le_of_ble_eq_true rfl) rfl ?_
          obtain ⟨g31, h⟩ := rx_gd_o h
          obtain ⟨S32, eS32, h⟩ := rx_let_o h
          refine ex_iast _ 101 dX5_goDown_100 dk_83 g31 rfl rfl eS32 ?_
          obtain ⟨x33, ex33, h⟩ := rx_let_o h
          refine ev_iinc (v := x33) (ls' := [some (.ref 82), none, some (.int x19), some (.int x20), some (.int x21), some (.int x28), some (.int x33), some (.int x26)]) 104 dX5_goDown_101 rfl (by rw [ex33]; rfl) (Nat.le_of_ble_eq_true rfl) rfl rfl ?_
          refine ev_goto 18 dX5_goDown_104 rfl ?_
          exact (ih _ _ _ _ _ _ h).fewer (rx_le_s (rx_le_n (rx_le_s (rx_le_s (rx_le_s (rx_le_s (rx_le_s (rx_le_n rx_le_0))))))))
        refine ev_icmp_ne 55 51 dX5_goDown_48 rfl rfl (fun c34 => ?_) (fun c34 => ?_)
        · replace h := rx_if_f c34 h
          refine ev_iconst (v := 1) 56 dX5_goDown_55 (by decide) rfl ?_
          exact (hJ56_1 _ _ _ _ _ _ _ h).fewer (rx_le_s (rx_le_n (rx_le_s (rx_le_s (rx_le_s (rx_le_n (rx_le_s (rx_le_n rx_le_0))))))))
        · replace h := rx_if_t c34 h
          refine ev_iconst (v := 0) 52 dX5_goDown_51 (by decide) rfl ?_
          refine ev_goto 56 dX5_goDown_52 rfl ?_
          exact (hJ56_1 _ _ _ _ _ _ _ h).fewer (rx_le_s (rx_le_n (rx_le_s (rx_le_s (rx_le_s (rx_le_n (rx_le_s (rx_le_n rx_le_0))))))))

set_option maxHeartbeats 4000000 in
set_option maxRecDepth 20000 in
theorem em_X5_goDown {d N : Nat} {x1 : Int32} {x2 : Int32} {x3 : Int32} {x4 : Int32} {S0 : rx_S} {zr : Unit} {zS : rx_S} (h : f_X5_goDown N x1 x2 x3 x4 S0 = some (zr, zS)) : EM gC (d + 1) mX5_goDown [.ref 82, .int x1, .int x2, .int x3, .int x4] S0 (rx_pv zS) := by
  unfold f_X5_goDown at h
  show EV gC (d + 1) mX5_goDown 0 [some (.ref 82), some (.int x1), some (.int x2), some (.int x3), some (.int x4), none, none, none] [] S0 (rx_pv zS)
  refine ev_aload_n (i := 0) 1 dX5_goDown_0 rfl rfl rfl ?_
  refine ev_get (v := .ref 83) 4 dX5_goDown_1 dk_82 fl_5_9 (by decide) rfl rfl rfl ?_
  refine ev_iconst (v := 0) 5 dX5_goDown_4 (by decide) rfl ?_
  refine ex_iald 0 6 dX5_goDown_5 dk_83 (rx_vin (by decide)) (by decide) rfl ?_
  obtain ⟨x6, ex6, h⟩ := rx_let_o h
  refine ev_nm ex6 ?_
  refine ev_istore (ls' := [some (.ref 82), some (.int x1), some (.int x2), some (.int x3), some (.int x4), some (.int x6), none, none]) 8 dX5_goDown_6 (Nat.le_of_ble_eq_true rfl) rfl rfl ?_
  refine ev_aload_n (i := 0) 9 dX5_goDown_8 rfl rfl rfl ?_
  refine ev_get (v := .ref 83) 12 dX5_goDown_9 dk_82 fl_5_9 (by decide) rfl rfl rfl ?_
  refine ev_iconst (v := 0) 13 dX5_goDown_12 (by decide) rfl ?_
  refine ev_iload_n (i := 1) 14 dX5_goDown_13 rfl rfl rfl ?_
  obtain ⟨S7, eS7, h⟩ := rx_let_o h
  refine ex_iast 0 15 dX5_goDown_14 dk_83 (rx_vin (by decide)) (by decide) rfl eS7 ?_
  refine ev_iconst (v := 1) 16 dX5_goDown_15 (by decide) rfl ?_
  refine ev_istore (ls' := [some (.ref 82), some (.int x1), some (.int x2), some (.int x3), some (.int x4), some (.int x6), some (.int 1), none]) 18 dX5_goDown_16 (Nat.le_of_ble_eq_true rfl) rfl rfl ?_
  exact (em_X5_goDown_L18 _ _ _ _ _ _ _ h).fewer (rx_le_s (rx_le_n (rx_le_s (rx_le_s (rx_le_s (rx_le_s (rx_le_s (rx_le_n rx_le_0))))))))

def f_X5_changes_L62 (N : Nat) (K92 : Int32 → rx_S → Option (Int32 × rx_S)) : Nat → Int32 → Int32 → Int32 → Int32 → Int32 → rx_S → Option (Int32 × rx_S)
  | 0, _, _, _, _, _, _ => none
  | n + 1, x21, x22, x23, x24, x25, S26 => if x23 < x25 then (K92 x24 S26) else (rx_bd (f_X5_wordAt x21 x23 (x25 - 1) S26) (fun x31 S30 => rx_bd (f_X5_goDown N x25 x31 x22 x24 S30) (fun x34 S33 => rx_let (x25 + 1) (fun x36 => f_X5_changes_L62 N K92 n x21 x22 x23 x24 x36 S33))))
def f_X5_changes_L27 (N : Nat) (K59 : Int32 → Int32 → Int32 → Int32 → rx_S → Option (Int32 × rx_S)) : Nat → Int32 → Int32 → Int32 → Int32 → Int32 → rx_S → Option (Int32 × rx_S)
  | 0, _, _, _, _, _, _ => none
  | n + 1, x37, x38, x39, x40, x41, S42 => if x40 < x41 then (K59 x37 x38 x39 x40 S42) else (if (6 : Int32) ≤ x41 then (K59 x37 x38 x39 x40 S42) else (rx_gd x41 6 (rx_let (rx_ui S42 83 (Int32.toNatClampNeg x41) x41) (fun S51 => rx_let (x41 + 1) (fun x52 => f_X5_changes_L27 N K59 n x37 x38 x39 x40 x52 S51)))))
def f_X5_changes (N : Nat) (x1 : Int32) (x2 : Int32) (S0 : rx_S) : Option (Int32 × rx_S) := rx_bd (f_X5_size N x1 S0) (fun x5 S4 => rx_bd (f_X5_size N x2 S4) (fun x8 S7 => if x5 = (-1) then (some ((-1), S7)) else (if x8 = (-1) then (some ((-1), S7)) else (rx_let (fun (x12 : Int32) (x13 : Int32) (x14 : Int32) (x15 : Int32) (S16 : rx_S) => rx_let (fun (x17 : Int32) (S18 : rx_S) => if (6 : Int32) ≤ x17 then (some ((-1), S18)) else (rx_gd x17 6 (some ((S18.1 83 (Int32.toNatClampNeg x17)), S18)))) (fun J92_2 => f_X5_changes_L62 N J92_2 N x12 x13 x14 x15 1 S16)) (fun J59_1 => f_X5_changes_L27 N J59_1 N x1 x2 x5 x8 0 S7)))))
set_option maxHeartbeats 4000000 in
set_option maxRecDepth 20000 in
theorem em_X5_changes_L62 {d N : Nat} {K92 : Int32 → rx_S → Option (Int32 × rx_S)} {zr : Int32} {zS : rx_S} (hK92 : ∀ (x27 : Int32) (S28 : rx_S), K92 x27 S28 = some (zr, zS) → EV gC (d + 2) mX5_changes 92 [some (.ref 82), none, none, none, some (.int x27), none] [] S28 (rx_pi zr zS)) : ∀ (n : Nat) (x21 : Int32) (x22 : Int32) (x23 : Int32) (x24 : Int32) (x25 : Int32) (S26 : rx_S), f_X5_changes_L62 N K92 n x21 x22 x23 x24 x25 S26 = some (zr, zS) → EV gC (d + 2) mX5_changes 62 [some (.ref 82), some (.int x21), some (.int x22), some (.int x23), some (.int x24), some (.int x25)] [] S26 (rx_pi zr zS) := by
  intro n
  induction n with
  | zero => intro x21 x22 x23 x24 x25 S26 h; cases h
  | succ n ih =>
    intro x21 x22 x23 x24 x25 S26 h
    rw [f_X5_changes_L62] at h
    refine ev_iload 64 dX5_changes_62 rfl rfl ?_
    refine ev_iload_n (i := 3) 65 dX5_changes_64 rfl rfl rfl ?_
    refine ev_icmp_gt 92 68 dX5_changes_65 rfl rfl (fun c29 => ?_) (fun c29 => ?_)
    · replace h := rx_if_t c29 h
      exact (hK92 _ _ h).fewer (rx_le_s (rx_le_n (rx_le_n (rx_le_n (rx_le_s (rx_le_n rx_le_0))))))
    · replace h := rx_if_f c29 h
      refine ev_aload_n (i := 0) 69 dX5_changes_68 rfl rfl rfl ?_
      refine ev_iload 71 dX5_changes_69 rfl rfl ?_
      refine ev_iload_n (i := 1) 72 dX5_changes_71 rfl rfl rfl ?_
      refine ev_iload_n (i := 3) 73 dX5_changes_72 rfl rfl rfl ?_
      refine ev_iload 75 dX5_changes_73 rfl rfl ?_
      refine ev_iconst (v := 1) 76 dX5_changes_75 (by decide) rfl ?_
      refine ev_isub 77 dX5_changes_76 rfl ?_
      obtain ⟨x31, S30, g32, h⟩ := rx_bd_o h
      refine ev_cSi3 80 dX5_changes_77 (em_X5_wordAt g32) mm_X5_wordAt ms_X5_wordAt lk_5_19 (Nat.le_of_ble_eq_true rfl) (Nat.le_of_ble_eq_true rfl) rfl ?_
      refine ev_iload_n (i := 2) 81 dX5_changes_80 rfl rfl rfl ?_
      refine ev_iload 83 dX5_changes_81 rfl rfl ?_
      obtain ⟨x34, S33, g35, h⟩ := rx_bd_o h
      refine ev_cVv4 86 dX5_changes_83 (em_X5_goDown g35) mm_X5_goDown mv_X5_goDown lk_5_23 dk_82 (by decide) rfl (Nat.le_of_ble_eq_true rfl) (Nat.le_of_ble_eq_true rfl) rfl ?_
      obtain ⟨x36, ex36, h⟩ := rx_let_o h
      refine ev_iinc (v := x36) (ls' := [some (.ref 82), some (.int x21), some (.int x22), some (.int x23), some (.int x24), some (.int x36)]) 89 dX5_changes_86 rfl (by rw [ex36]; rfl) (Nat.le_of_ble_eq_true rfl) rfl rfl ?_
      refine ev_goto 62 dX5_changes_89 rfl ?_
      exact (ih _ _ _ _ _ _ h).fewer (rx_le_s (rx_le_s (rx_le_s (rx_le_s (rx_le_s (rx_le_s rx_le_0))))))

set_option maxHeartbeats 4000000 in
set_option maxRecDepth 20000 in
theorem em_X5_changes_L27 {d N : Nat} {K59 : Int32 → Int32 → Int32 → Int32 → rx_S → Option (Int32 × rx_S)} {zr : Int32} {zS : rx_S} (hK59 : ∀ (x43 : Int32) (x44 : Int32) (x45 : Int32) (x46 : Int32) (S47 : rx_S), K59 x43 x44 x45 x46 S47 = some (zr, zS) → EV gC (d + 2) mX5_changes 59 [some (.ref 82), some (.int x43), some (.int x44), some (.int x45), some (.int x46), none] [] S47 (rx_pi zr zS)) : ∀ (n : Nat) (x37 : Int32) (x38 : Int32) (x39 : Int32) (x40 : Int32) (x41 : Int32) (S42 : rx_S), f_X5_changes_L27 N K59 n x37 x38 x39 x40 x41 S42 = some (zr, zS) → EV gC (d + 2) mX5_changes 27 [some (.ref 82), some (.int x37), some (.int x38), some (.int x39), some (.int x40), some (.int x41)] [] S42 (rx_pi zr zS) := by
  intro n
  induction n with
  | zero => intro x37 x38 x39 x40 x41 S42 h; cases h
  | succ n ih =>
    intro x37 x38 x39 x40 x41 S42 h
    rw [f_X5_changes_L27] at h
    refine ev_iload 29 dX5_changes_27 rfl rfl ?_
    refine ev_iload 31 dX5_changes_29 rfl rfl ?_
    refine ev_icmp_gt 59 34 dX5_changes_31 rfl rfl (fun c48 => ?_) (fun c48 => ?_)
    · replace h := rx_if_t c48 h
      exact (hK59 _ _ _ _ _ h).fewer (rx_le_s (rx_le_s (rx_le_s (rx_le_s (rx_le_s (rx_le_n rx_le_0))))))
    · replace h := rx_if_f c48 h
      refine ev_iload 36 dX5_changes_34 rfl rfl ?_
      refine ev_aload_n (i := 0) 37 dX5_changes_36 rfl rfl rfl ?_
      refine ev_get (v := .ref 83) 40 dX5_changes_37 dk_82 fl_5_9 (by decide) rfl rfl rfl ?_
      refine ev_alen (v := 6) 41 dX5_changes_40 dk_83 (by decide) (by decide) rfl ?_
      refine ev_icmp_ge 59 44 dX5_changes_41 rfl rfl (fun c49 => ?_) (fun c49 => ?_)
      · replace h := rx_if_t c49 h
        exact (hK59 _ _ _ _ _ h).fewer (rx_le_s (rx_le_s (rx_le_s (rx_le_s (rx_le_s (rx_le_n rx_le_0))))))
      · replace h := rx_if_f c49 h
        refine ev_aload_n (i := 0) 45 dX5_changes_44 rfl rfl rfl ?_
        refine ev_get (v := .ref 83) 48 dX5_changes_45 dk_82 fl_5_9 (by decide) rfl rfl rfl ?_
        refine ev_iload 50 dX5_changes_48 rfl rfl ?_
        refine ev_iload 52 dX5_changes_50 rfl rfl ?_
        obtain ⟨g50, h⟩ := rx_gd_o h
        obtain ⟨S51, eS51, h⟩ := rx_let_o h
        refine ex_iast _ 53 dX5_changes_52 dk_83 g50 rfl rfl eS51 ?_
        obtain ⟨x52, ex52, h⟩ := rx_let_o h
        refine ev_iinc (v := x52) (ls' := [some (.ref 82), some (.int x37), some (.int x38), some (.int x39), some (.int x40), some (.int x52)]) 56 dX5_changes_53 rfl (by rw [ex52]; rfl) (Nat.le_of_ble_eq_true rfl) rfl rfl ?_
        refine ev_goto 27 dX5_changes_56 rfl ?_
        exact (ih _ _ _ _ _ _ h).fewer (rx_le_s (rx_le_s (rx_le_s (rx_le_s (rx_le_s (rx_le_s rx_le_0))))))

set_option maxHeartbeats 4000000 in
set_option maxRecDepth 20000 in
theorem em_X5_changes {d N : Nat} {x1 : Int32} {x2 : Int32} {S0 : rx_S} {zr : Int32} {zS : rx_S} (h : f_X5_changes N x1 x2 S0 = some (zr, zS)) : EM gC (d + 2) mX5_changes [.ref 82, .int x1, .int x2] S0 (rx_pi zr zS) := by
  unfold f_X5_changes at h
  show EV gC (d + 2) mX5_changes 0 [some (.ref 82), some (.int x1), some (.int x2), none, none, none] [] S0 (rx_pi zr zS)
  refine ev_iload_n (i := 1) 1 dX5_changes_0 rfl rfl rfl ?_
  obtain ⟨x5, S4, g6, h⟩ := rx_bd_o h
  refine ev_cSi1 4 dX5_changes_1 (em_X5_size g6) mm_X5_size ms_X5_size lk_5_15 (Nat.le_of_ble_eq_true rfl) (Nat.le_of_ble_eq_true rfl) rfl ?_
  refine ev_istore_n (ls' := [some (.ref 82), some (.int x1), some (.int x2), some (.int x5), none, none]) 5 dX5_changes_4 rfl (Nat.le_of_ble_eq_true rfl) rfl rfl ?_
  refine ev_iload_n (i := 2) 6 dX5_changes_5 rfl rfl rfl ?_
  obtain ⟨x8, S7, g9, h⟩ := rx_bd_o h
  refine ev_cSi1 9 dX5_changes_6 (em_X5_size g9) mm_X5_size ms_X5_size lk_5_15 (Nat.le_of_ble_eq_true rfl) (Nat.le_of_ble_eq_true rfl) rfl ?_
  refine ev_istore (ls' := [some (.ref 82), some (.int x1), some (.int x2), some (.int x5), some (.int x8), none]) 11 dX5_changes_9 (Nat.le_of_ble_eq_true rfl) rfl rfl ?_
  refine ev_iload_n (i := 3) 12 dX5_changes_11 rfl rfl rfl ?_
  refine ev_iconst (v := (-1)) 13 dX5_changes_12 (by decide) rfl ?_
  refine ev_icmp_eq 22 16 dX5_changes_13 rfl rfl (fun c10 => ?_) (fun c10 => ?_)
  · replace h := rx_if_t c10 h
    refine ev_iconst (v := (-1)) 23 dX5_changes_22 (by decide) rfl ?_
    exact ev_ireturn dX5_changes_23 rfl (rx_ret_i h)
  · replace h := rx_if_f c10 h
    refine ev_iload 18 dX5_changes_16 rfl rfl ?_
    refine ev_iconst (v := (-1)) 19 dX5_changes_18 (by decide) rfl ?_
    refine ev_icmp_ne 24 22 dX5_changes_19 rfl rfl (fun c11 => ?_) (fun c11 => ?_)
    · replace h := rx_if_f c11 h
      refine ev_iconst (v := 0) 25 dX5_changes_24 (by decide) rfl ?_
      refine ev_istore (ls' := [some (.ref 82), some (.int x1), some (.int x2), some (.int x5), some (.int x8), some (.int 0)]) 27 dX5_changes_25 (Nat.le_of_ble_eq_true rfl) rfl rfl ?_
      obtain ⟨J59_1, eJ59_1, h⟩ := rx_let_o h
      have hJ59_1 : ∀ (x12 : Int32) (x13 : Int32) (x14 : Int32) (x15 : Int32) (S16 : rx_S), J59_1 x12 x13 x14 x15 S16 = some (zr, zS) → EV gC (d + 2) mX5_changes 59 [some (.ref 82), some (.int x12), some (.int x13), some (.int x14), some (.int x15), none] [] S16 (rx_pi zr zS) := by
        intro x12 x13 x14 x15 S16 h
        subst eJ59_1
        refine ev_iconst (v := 1) 60 dX5_changes_59 (by decide) rfl ?_
        refine ev_istore (ls' := [some (.ref 82), some (.int x12), some (.int x13), some (.int x14), some (.int x15), some (.int 1)]) 62 dX5_changes_60 (Nat.le_of_ble_eq_true rfl) rfl rfl ?_
        obtain ⟨J92_2, eJ92_2, h⟩ := rx_let_o h
        have hJ92_2 : ∀ (x17 : Int32) (S18 : rx_S), J92_2 x17 S18 = some (zr, zS) → EV gC (d + 2) mX5_changes 92 [some (.ref 82), none, none, none, some (.int x17), none] [] S18 (rx_pi zr zS) := by
          intro x17 S18 h
          subst eJ92_2
          refine ev_iload 94 dX5_changes_92 rfl rfl ?_
          refine ev_aload_n (i := 0) 95 dX5_changes_94 rfl rfl rfl ?_
          refine ev_get (v := .ref 83) 98 dX5_changes_95 dk_82 fl_5_9 (by decide) rfl rfl rfl ?_
          refine ev_alen (v := 6) 99 dX5_changes_98 dk_83 (by decide) (by decide) rfl ?_
          refine ev_icmp_ge 112 102 dX5_changes_99 rfl rfl (fun c19 => ?_) (fun c19 => ?_)
          · replace h := rx_if_t c19 h
            refine ev_iconst (v := (-1)) 113 dX5_changes_112 (by decide) rfl ?_
            exact ev_ireturn dX5_changes_113 rfl (rx_ret_i h)
          · replace h := rx_if_f c19 h
            refine ev_aload_n (i := 0) 103 dX5_changes_102 rfl rfl rfl ?_
            refine ev_get (v := .ref 83) 106 dX5_changes_103 dk_82 fl_5_9 (by decide) rfl rfl rfl ?_
            refine ev_iload 108 dX5_changes_106 rfl rfl ?_
            obtain ⟨g20, h⟩ := rx_gd_o h
            refine ex_iald _ 109 dX5_changes_108 dk_83 g20 rfl rfl ?_
            refine ev_goto 113 dX5_changes_109 rfl ?_
            exact ev_ireturn dX5_changes_113 rfl (rx_ret_i h)
        exact (em_X5_changes_L62 hJ92_2 _ _ _ _ _ _ _ h).fewer (rx_le_s (rx_le_s (rx_le_s (rx_le_s (rx_le_s (rx_le_s rx_le_0))))))
      exact (em_X5_changes_L27 hJ59_1 _ _ _ _ _ _ _ h).fewer (rx_le_s (rx_le_s (rx_le_s (rx_le_s (rx_le_s (rx_le_s rx_le_0))))))
    · replace h := rx_if_t c11 h
      refine ev_iconst (v := (-1)) 23 dX5_changes_22 (by decide) rfl ?_
      exact ev_ireturn dX5_changes_23 rfl (rx_ret_i h)

def f_X7_putRow (k : Nat) (N : Nat) (x2 : Int32) (x3 : Int32) (S0 : rx_S) : Option (Int32 × rx_S) := rx_bd (f_X7_carriedRow k N x2 x3 0 0 0 S0) (fun x6 S5 => some (x6, S5))
set_option maxHeartbeats 4000000 in
set_option maxRecDepth 20000 in
theorem em_X7_putRow_32 {d N : Nat} {x2 : Int32} {x3 : Int32} {S0 : rx_S} {zr : Int32} {zS : rx_S} (h : f_X7_putRow 32 N x2 x3 S0 = some (zr, zS)) : EM gC (d + 4) mX7_putRow [.ref 80, .ref 32, .int x2, .int x3] S0 (rx_pi zr zS) := by
  unfold f_X7_putRow at h
  show EV gC (d + 4) mX7_putRow 0 [some (.ref 80), some (.ref 32), some (.int x2), some (.int x3)] [] S0 (rx_pi zr zS)
  refine ev_aload_n (i := 0) 1 dX7_putRow_0 rfl rfl rfl ?_
  refine ev_aload_n (i := 1) 2 dX7_putRow_1 rfl rfl rfl ?_
  refine ev_iload_n (i := 2) 3 dX7_putRow_2 rfl rfl rfl ?_
  refine ev_iload_n (i := 3) 4 dX7_putRow_3 rfl rfl rfl ?_
  refine ev_iconst (v := 0) 5 dX7_putRow_4 (by decide) rfl ?_
  refine ev_iconst (v := 0) 6 dX7_putRow_5 (by decide) rfl ?_
  refine ev_iconst (v := 0) 7 dX7_putRow_6 (by decide) rfl ?_
  obtain ⟨x6, S5, g7, h⟩ := rx_bd_o h
  refine ev_cVi6 10 dX7_putRow_7 (em_X7_carriedRow_32 g7) mm_X7_carriedRow mv_X7_carriedRow lk_7_67 dk_80 (by decide) rfl (Nat.le_of_ble_eq_true rfl) (Nat.le_of_ble_eq_true rfl) rfl ?_
  exact ev_ireturn dX7_putRow_10 rfl (rx_ret_i h)

set_option maxHeartbeats 4000000 in
set_option maxRecDepth 20000 in
theorem em_X7_putRow_89 {d N : Nat} {x2 : Int32} {x3 : Int32} {S0 : rx_S} {zr : Int32} {zS : rx_S} (h : f_X7_putRow 89 N x2 x3 S0 = some (zr, zS)) : EM gC (d + 4) mX7_putRow [.ref 80, .ref 89, .int x2, .int x3] S0 (rx_pi zr zS) := by
  unfold f_X7_putRow at h
  show EV gC (d + 4) mX7_putRow 0 [some (.ref 80), some (.ref 89), some (.int x2), some (.int x3)] [] S0 (rx_pi zr zS)
  refine ev_aload_n (i := 0) 1 dX7_putRow_0 rfl rfl rfl ?_
  refine ev_aload_n (i := 1) 2 dX7_putRow_1 rfl rfl rfl ?_
  refine ev_iload_n (i := 2) 3 dX7_putRow_2 rfl rfl rfl ?_
  refine ev_iload_n (i := 3) 4 dX7_putRow_3 rfl rfl rfl ?_
  refine ev_iconst (v := 0) 5 dX7_putRow_4 (by decide) rfl ?_
  refine ev_iconst (v := 0) 6 dX7_putRow_5 (by decide) rfl ?_
  refine ev_iconst (v := 0) 7 dX7_putRow_6 (by decide) rfl ?_
  obtain ⟨x6, S5, g7, h⟩ := rx_bd_o h
  refine ev_cVi6 10 dX7_putRow_7 (em_X7_carriedRow_89 g7) mm_X7_carriedRow mv_X7_carriedRow lk_7_67 dk_80 (by decide) rfl (Nat.le_of_ble_eq_true rfl) (Nat.le_of_ble_eq_true rfl) rfl ?_
  exact ev_ireturn dX7_putRow_10 rfl (rx_ret_i h)

def f_X6_lostByTwo (N : Nat) (x2 : Int32) (x3 : Int32) (x4 : Int32) (S0 : rx_S) : Option (Int32 × rx_S) := rx_bd (f_X7_putRow 32 N x2 x4 S0) (fun x7 S6 => rx_bd (f_X7_putRow 32 N x3 x7 S6) (fun x10 S9 => rx_bd (f_X5_changes N x4 x10 S9) (fun x13 S12 => some (x13, S12))))
set_option maxHeartbeats 4000000 in
set_option maxRecDepth 20000 in
theorem em_X6_lostByTwo {d N : Nat} {x2 : Int32} {x3 : Int32} {x4 : Int32} {S0 : rx_S} {zr : Int32} {zS : rx_S} (h : f_X6_lostByTwo N x2 x3 x4 S0 = some (zr, zS)) : EM gC (d + 5) mX6_lostByTwo [.ref 81, .ref 32, .int x2, .int x3, .int x4] S0 (rx_pi zr zS) := by
  unfold f_X6_lostByTwo at h
  show EV gC (d + 5) mX6_lostByTwo 0 [some (.ref 81), some (.ref 32), some (.int x2), some (.int x3), some (.int x4)] [] S0 (rx_pi zr zS)
  refine ev_aload_n (i := 0) 1 dX6_lostByTwo_0 rfl rfl rfl ?_
  refine ev_get (v := .ref 82) 4 dX6_lostByTwo_1 dk_81 fl_6_12 (by decide) rfl rfl rfl ?_
  refine ev_iload 6 dX6_lostByTwo_4 rfl rfl ?_
  refine ev_aload_n (i := 0) 7 dX6_lostByTwo_6 rfl rfl rfl ?_
  refine ev_get (v := .ref 80) 10 dX6_lostByTwo_7 dk_81 fl_6_36 (by decide) rfl rfl rfl ?_
  refine ev_aload_n (i := 1) 11 dX6_lostByTwo_10 rfl rfl rfl ?_
  refine ev_iload_n (i := 3) 12 dX6_lostByTwo_11 rfl rfl rfl ?_
  refine ev_aload_n (i := 0) 13 dX6_lostByTwo_12 rfl rfl rfl ?_
  refine ev_get (v := .ref 80) 16 dX6_lostByTwo_13 dk_81 fl_6_36 (by decide) rfl rfl rfl ?_
  refine ev_aload_n (i := 1) 17 dX6_lostByTwo_16 rfl rfl rfl ?_
  refine ev_iload_n (i := 2) 18 dX6_lostByTwo_17 rfl rfl rfl ?_
  refine ev_iload 20 dX6_lostByTwo_18 rfl rfl ?_
  obtain ⟨x7, S6, g8, h⟩ := rx_bd_o h
  refine ev_cVi3 23 dX6_lostByTwo_20 (em_X7_putRow_32 g8) mm_X7_putRow mv_X7_putRow lk_6_40 dk_80 (by decide) rfl (Nat.le_of_ble_eq_true rfl) (Nat.le_of_ble_eq_true rfl) rfl ?_
  obtain ⟨x10, S9, g11, h⟩ := rx_bd_o h
  refine ev_cVi3 26 dX6_lostByTwo_23 (em_X7_putRow_32 g11) mm_X7_putRow mv_X7_putRow lk_6_40 dk_80 (by decide) rfl (Nat.le_of_ble_eq_true rfl) (Nat.le_of_ble_eq_true rfl) rfl ?_
  obtain ⟨x13, S12, g14, h⟩ := rx_bd_o h
  refine ev_cVi2 29 dX6_lostByTwo_26 (em_X5_changes g14) mm_X5_changes mv_X5_changes lk_6_46 dk_82 (by decide) rfl (Nat.le_of_ble_eq_true rfl) (Nat.le_of_ble_eq_true rfl) rfl ?_
  exact ev_ireturn dX6_lostByTwo_29 rfl (rx_ret_i h)

def f_X6_bestPair_L25 (N : Nat) (K75 : Int32 → Int32 → Int32 → Int32 → rx_S → Option (Int32 × rx_S)) : Nat → Int32 → Int32 → Int32 → Int32 → Int32 → rx_S → Option (Int32 × rx_S)
  | 0, _, _, _, _, _, _ => none
  | n + 1, x16, x17, x18, x19, x20, S21 => if (S21.1 2 8) ≤ x20 then (K75 x16 x17 x18 x19 S21) else (rx_bd (f_X6_lostByTwo N x19 x20 x16 S21) (fun x29 S28 => if x18 ≤ x29 then (rx_let (x20 + 1) (fun x32 => f_X6_bestPair_L25 N K75 n x16 x17 x18 x19 x32 S28)) else (rx_let (((10 : Int32) * x19) + x20) (fun x33 => rx_let (x20 + 1) (fun x34 => f_X6_bestPair_L25 N K75 n x16 x33 x29 x19 x34 S28)))))
def f_X6_bestPair_L10 (N : Nat) : Nat → Int32 → Int32 → Int32 → Int32 → rx_S → Option (Int32 × rx_S)
  | 0, _, _, _, _, _ => none
  | n + 1, x4, x5, x6, x7, S8 => if (S8.1 2 8) ≤ x7 then (some (x5, S8)) else (rx_let (fun (x10 : Int32) (x11 : Int32) (x12 : Int32) (x13 : Int32) (S14 : rx_S) => rx_let (x13 + 1) (fun x15 => f_X6_bestPair_L10 N n x10 x11 x12 x15 S14)) (fun J75_1 => f_X6_bestPair_L25 N J75_1 N x4 x5 x6 x7 0 S8))
def f_X6_bestPair (N : Nat) (x2 : Int32) (S0 : rx_S) : Option (Int32 × rx_S) := f_X6_bestPair_L10 N N x2 (-2) 1000000 0 S0
set_option maxHeartbeats 4000000 in
set_option maxRecDepth 20000 in
theorem em_X6_bestPair_L25 {d N : Nat} {K75 : Int32 → Int32 → Int32 → Int32 → rx_S → Option (Int32 × rx_S)} {zr : Int32} {zS : rx_S} (hK75 : ∀ (x22 : Int32) (x23 : Int32) (x24 : Int32) (x25 : Int32) (S26 : rx_S), K75 x22 x23 x24 x25 S26 = some (zr, zS) → EV gC (d + 6) mX6_bestPair 75 [some (.ref 81), some (.ref 32), some (.int x22), some (.int x23), some (.int x24), some (.int x25), none, none] [] S26 (rx_pi zr zS)) : ∀ (n : Nat) (x16 : Int32) (x17 : Int32) (x18 : Int32) (x19 : Int32) (x20 : Int32) (S21 : rx_S), f_X6_bestPair_L25 N K75 n x16 x17 x18 x19 x20 S21 = some (zr, zS) → EV gC (d + 6) mX6_bestPair 25 [some (.ref 81), some (.ref 32), some (.int x16), some (.int x17), some (.int x18), some (.int x19), some (.int x20), none] [] S21 (rx_pi zr zS) := by
  intro n
  induction n with
  | zero => intro x16 x17 x18 x19 x20 S21 h; cases h
  | succ n ih =>
    intro x16 x17 x18 x19 x20 S21 h
    rw [f_X6_bestPair_L25] at h
    refine ev_iload 27 dX6_bestPair_25 rfl rfl ?_
    refine ev_aload_n (i := 0) 28 dX6_bestPair_27 rfl rfl rfl ?_
    refine ev_get (v := .ref 2) 31 dX6_bestPair_28 dk_81 fl_6_32 (by decide) rfl rfl rfl ?_
    refine ev_get (v := .int (S21.1 2 8)) 34 dX6_bestPair_31 dk_2 fl_6_51 (by decide) rfl rfl rfl ?_
    refine ev_icmp_ge 75 37 dX6_bestPair_34 rfl rfl (fun c27 => ?_) (fun c27 => ?_)
    · replace h := rx_if_t c27 h
      exact (hK75 _ _ _ _ _ h).fewer (rx_le_s (rx_le_s (rx_le_s (rx_le_s (rx_le_s (rx_le_s (rx_le_n (rx_le_n rx_le_0))))))))
    · replace h := rx_if_f c27 h
      refine ev_aload_n (i := 0) 38 dX6_bestPair_37 rfl rfl rfl ?_
      refine ev_aload_n (i := 1) 39 dX6_bestPair_38 rfl rfl rfl ?_
      refine ev_iload 41 dX6_bestPair_39 rfl rfl ?_
      refine ev_iload 43 dX6_bestPair_41 rfl rfl ?_
      refine ev_iload_n (i := 2) 44 dX6_bestPair_43 rfl rfl rfl ?_
      obtain ⟨x29, S28, g30, h⟩ := rx_bd_o h
      refine ev_cVi4 47 dX6_bestPair_44 (em_X6_lostByTwo g30) mm_X6_lostByTwo mv_X6_lostByTwo lk_6_57 dk_81 (by decide) rfl (Nat.le_of_ble_eq_true rfl) (Nat.le_of_ble_eq_true rfl) rfl ?_
      refine ev_istore (ls' := [some (.ref 81), some (.ref 32), some (.int x16), some (.int x17), some (.int x18), some (.int x19), some (.int x20), some (.int x29)]) 49 dX6_bestPair_47 (Nat.le_of_ble_eq_true rfl) rfl rfl ?_
      refine ev_iload 51 dX6_bestPair_49 rfl rfl ?_
      refine ev_iload 53 dX6_bestPair_51 rfl rfl ?_
      refine ev_icmp_ge 69 56 dX6_bestPair_53 rfl rfl (fun c31 => ?_) (fun c31 => ?_)
      · replace h := rx_if_t c31 h
        obtain ⟨x32, ex32, h⟩ := rx_let_o h
        refine ev_iinc (v := x32) (ls' := [some (.ref 81), some (.ref 32), some (.int x16), some (.int x17), some (.int x18), some (.int x19), some (.int x32), some (.int x29)]) 72 dX6_bestPair_69 rfl (by rw [ex32]; rfl) (Nat.le_of_ble_eq_true rfl) rfl rfl ?_
        refine ev_goto 25 dX6_bestPair_72 rfl ?_
        exact (ih _ _ _ _ _ _ h).fewer (rx_le_s (rx_le_s (rx_le_s (rx_le_s (rx_le_s (rx_le_s (rx_le_s (rx_le_n rx_le_0))))))))
      · replace h := rx_if_f c31 h
        refine ev_iload 58 dX6_bestPair_56 rfl rfl ?_
        refine ev_istore (ls' := [some (.ref 81), some (.ref 32), some (.int x16), some (.int x17), some (.int x29), some (.int x19), some (.int x20), some (.int x29)]) 60 dX6_bestPair_58 (Nat.le_of_ble_eq_true rfl) rfl rfl ?_
        refine ev_bipush (v := 10) 62 dX6_bestPair_60 (by decide) rfl ?_
        refine ev_iload 64 dX6_bestPair_62 rfl rfl ?_
        refine ev_imul 65 dX6_bestPair_64 rfl ?_
        refine ev_iload 67 dX6_bestPair_65 rfl rfl ?_
        refine ev_iadd 68 dX6_bestPair_67 rfl ?_
        obtain ⟨x33, ex33, h⟩ := rx_let_o h
        refine ev_nm ex33 ?_
        refine ev_istore_n (ls' := [some (.ref 81), some (.ref 32), some (.int x16), some (.int x33), some (.int x29), some (.int x19), some (.int x20), some (.int x29)]) 69 dX6_bestPair_68 rfl (Nat.le_of_ble_eq_true rfl) rfl rfl ?_
        obtain ⟨x34, ex34, h⟩ := rx_let_o h
        refine ev_iinc (v := x34) (ls' := [some (.ref 81), some (.ref 32), some (.int x16), some (.int x33), some (.int x29), some (.int x19), some (.int x34), some (.int x29)]) 72 dX6_bestPair_69 rfl (by rw [ex34]; rfl) (Nat.le_of_ble_eq_true rfl) rfl rfl ?_
        refine ev_goto 25 dX6_bestPair_72 rfl ?_
        exact (ih _ _ _ _ _ _ h).fewer (rx_le_s (rx_le_s (rx_le_s (rx_le_s (rx_le_s (rx_le_s (rx_le_s (rx_le_n rx_le_0))))))))

set_option maxHeartbeats 4000000 in
set_option maxRecDepth 20000 in
theorem em_X6_bestPair_L10 {d N : Nat} {zr : Int32} {zS : rx_S} : ∀ (n : Nat) (x4 : Int32) (x5 : Int32) (x6 : Int32) (x7 : Int32) (S8 : rx_S), f_X6_bestPair_L10 N n x4 x5 x6 x7 S8 = some (zr, zS) → EV gC (d + 6) mX6_bestPair 10 [some (.ref 81), some (.ref 32), some (.int x4), some (.int x5), some (.int x6), some (.int x7), none, none] [] S8 (rx_pi zr zS) := by
  intro n
  induction n with
  | zero => intro x4 x5 x6 x7 S8 h; cases h
  | succ n ih =>
    intro x4 x5 x6 x7 S8 h
    rw [f_X6_bestPair_L10] at h
    refine ev_iload 12 dX6_bestPair_10 rfl rfl ?_
    refine ev_aload_n (i := 0) 13 dX6_bestPair_12 rfl rfl rfl ?_
    refine ev_get (v := .ref 2) 16 dX6_bestPair_13 dk_81 fl_6_32 (by decide) rfl rfl rfl ?_
    refine ev_get (v := .int (S8.1 2 8)) 19 dX6_bestPair_16 dk_2 fl_6_51 (by decide) rfl rfl rfl ?_
    refine ev_icmp_ge 81 22 dX6_bestPair_19 rfl rfl (fun c9 => ?_) (fun c9 => ?_)
    · replace h := rx_if_t c9 h
      refine ev_iload_n (i := 3) 82 dX6_bestPair_81 rfl rfl rfl ?_
      exact ev_ireturn dX6_bestPair_82 rfl (rx_ret_i h)
    · replace h := rx_if_f c9 h
      refine ev_iconst (v := 0) 23 dX6_bestPair_22 (by decide) rfl ?_
      refine ev_istore (ls' := [some (.ref 81), some (.ref 32), some (.int x4), some (.int x5), some (.int x6), some (.int x7), some (.int 0), none]) 25 dX6_bestPair_23 (Nat.le_of_ble_eq_true rfl) rfl rfl ?_
      obtain ⟨J75_1, eJ75_1, h⟩ := rx_let_o h
      have hJ75_1 : ∀ (x10 : Int32) (x11 : Int32) (x12 : Int32) (x13 : Int32) (S14 : rx_S), J75_1 x10 x11 x12 x13 S14 = some (zr, zS) → EV gC (d + 6) mX6_bestPair 75 [some (.ref 81), some (.ref 32), some (.int x10), some (.int x11), some (.int x12), some (.int x13), none, none] [] S14 (rx_pi zr zS) := by
        intro x10 x11 x12 x13 S14 h
        subst eJ75_1
        obtain ⟨x15, ex15, h⟩ := rx_let_o h
        refine ev_iinc (v := x15) (ls' := [some (.ref 81), some (.ref 32), some (.int x10), some (.int x11), some (.int x12), some (.int x15), none, none]) 78 dX6_bestPair_75 rfl (by rw [ex15]; rfl) (Nat.le_of_ble_eq_true rfl) rfl rfl ?_
        refine ev_goto 10 dX6_bestPair_78 rfl ?_
        exact (ih _ _ _ _ _ h).fewer (rx_le_s (rx_le_s (rx_le_s (rx_le_s (rx_le_s (rx_le_s (rx_le_n (rx_le_n rx_le_0))))))))
      exact (em_X6_bestPair_L25 hJ75_1 _ _ _ _ _ _ _ h).fewer (rx_le_s (rx_le_s (rx_le_s (rx_le_s (rx_le_s (rx_le_s (rx_le_s (rx_le_n rx_le_0))))))))

set_option maxHeartbeats 4000000 in
set_option maxRecDepth 20000 in
theorem em_X6_bestPair {d N : Nat} {x2 : Int32} {S0 : rx_S} {zr : Int32} {zS : rx_S} (h : f_X6_bestPair N x2 S0 = some (zr, zS)) : EM gC (d + 6) mX6_bestPair [.ref 81, .ref 32, .int x2] S0 (rx_pi zr zS) := by
  unfold f_X6_bestPair at h
  show EV gC (d + 6) mX6_bestPair 0 [some (.ref 81), some (.ref 32), some (.int x2), none, none, none, none, none] [] S0 (rx_pi zr zS)
  refine ev_bipush (v := (-2)) 2 dX6_bestPair_0 (by decide) rfl ?_
  refine ev_istore_n (ls' := [some (.ref 81), some (.ref 32), some (.int x2), some (.int (-2)), none, none, none, none]) 3 dX6_bestPair_2 rfl (Nat.le_of_ble_eq_true rfl) rfl rfl ?_
  refine ev_ldc (v := 1000000) 5 dX6_bestPair_3 rfl ct_6_50 rfl ?_
  refine ev_istore (ls' := [some (.ref 81), some (.ref 32), some (.int x2), some (.int (-2)), some (.int 1000000), none, none, none]) 7 dX6_bestPair_5 (Nat.le_of_ble_eq_true rfl) rfl rfl ?_
  refine ev_iconst (v := 0) 8 dX6_bestPair_7 (by decide) rfl ?_
  refine ev_istore (ls' := [some (.ref 81), some (.ref 32), some (.int x2), some (.int (-2)), some (.int 1000000), some (.int 0), none, none]) 10 dX6_bestPair_8 (Nat.le_of_ble_eq_true rfl) rfl rfl ?_
  exact (em_X6_bestPair_L10 _ _ _ _ _ _ h).fewer (rx_le_s (rx_le_s (rx_le_s (rx_le_s (rx_le_s (rx_le_s (rx_le_n (rx_le_n rx_le_0))))))))

def f_X6_bestThird_L10 (N : Nat) : Nat → Int32 → Int32 → Int32 → Int32 → rx_S → Option (Int32 × rx_S)
  | 0, _, _, _, _, _ => none
  | n + 1, x4, x5, x6, x7, S8 => if (S8.1 2 8) ≤ x7 then (some (x5, S8)) else (rx_bd (f_X7_putRow 32 N x7 x4 S8) (fun x11 S10 => rx_bd (f_X5_changes N x4 x11 S10) (fun x14 S13 => if x6 ≤ x14 then (rx_let (x7 + 1) (fun x17 => f_X6_bestThird_L10 N n x4 x5 x6 x17 S13)) else (rx_let (x7 + 1) (fun x18 => f_X6_bestThird_L10 N n x4 x7 x14 x18 S13)))))
def f_X6_bestThird (N : Nat) (x2 : Int32) (S0 : rx_S) : Option (Int32 × rx_S) := f_X6_bestThird_L10 N N x2 (-2) 1000000 0 S0
set_option maxHeartbeats 4000000 in
set_option maxRecDepth 20000 in
theorem em_X6_bestThird_L10 {d N : Nat} {zr : Int32} {zS : rx_S} : ∀ (n : Nat) (x4 : Int32) (x5 : Int32) (x6 : Int32) (x7 : Int32) (S8 : rx_S), f_X6_bestThird_L10 N n x4 x5 x6 x7 S8 = some (zr, zS) → EV gC (d + 5) mX6_bestThird 10 [some (.ref 81), some (.ref 32), some (.int x4), some (.int x5), some (.int x6), some (.int x7), none] [] S8 (rx_pi zr zS) := by
  intro n
  induction n with
  | zero => intro x4 x5 x6 x7 S8 h; cases h
  | succ n ih =>
    intro x4 x5 x6 x7 S8 h
    rw [f_X6_bestThird_L10] at h
    refine ev_iload 12 dX6_bestThird_10 rfl rfl ?_
    refine ev_aload_n (i := 0) 13 dX6_bestThird_12 rfl rfl rfl ?_
    refine ev_get (v := .ref 2) 16 dX6_bestThird_13 dk_81 fl_6_32 (by decide) rfl rfl rfl ?_
    refine ev_get (v := .int (S8.1 2 8)) 19 dX6_bestThird_16 dk_2 fl_6_51 (by decide) rfl rfl rfl ?_
    refine ev_icmp_ge 63 22 dX6_bestThird_19 rfl rfl (fun c9 => ?_) (fun c9 => ?_)
    · replace h := rx_if_t c9 h
      refine ev_iload_n (i := 3) 64 dX6_bestThird_63 rfl rfl rfl ?_
      exact ev_ireturn dX6_bestThird_64 rfl (rx_ret_i h)
    · replace h := rx_if_f c9 h
      refine ev_aload_n (i := 0) 23 dX6_bestThird_22 rfl rfl rfl ?_
      refine ev_get (v := .ref 82) 26 dX6_bestThird_23 dk_81 fl_6_12 (by decide) rfl rfl rfl ?_
      refine ev_iload_n (i := 2) 27 dX6_bestThird_26 rfl rfl rfl ?_
      refine ev_aload_n (i := 0) 28 dX6_bestThird_27 rfl rfl rfl ?_
      refine ev_get (v := .ref 80) 31 dX6_bestThird_28 dk_81 fl_6_36 (by decide) rfl rfl rfl ?_
      refine ev_aload_n (i := 1) 32 dX6_bestThird_31 rfl rfl rfl ?_
      refine ev_iload 34 dX6_bestThird_32 rfl rfl ?_
      refine ev_iload_n (i := 2) 35 dX6_bestThird_34 rfl rfl rfl ?_
      obtain ⟨x11, S10, g12, h⟩ := rx_bd_o h
      refine ev_cVi3 38 dX6_bestThird_35 (em_X7_putRow_32 g12) mm_X7_putRow mv_X7_putRow lk_6_40 dk_80 (by decide) rfl (Nat.le_of_ble_eq_true rfl) (Nat.le_of_ble_eq_true rfl) rfl ?_
      obtain ⟨x14, S13, g15, h⟩ := rx_bd_o h
      refine ev_cVi2 41 dX6_bestThird_38 (em_X5_changes g15) mm_X5_changes mv_X5_changes lk_6_46 dk_82 (by decide) rfl (Nat.le_of_ble_eq_true rfl) (Nat.le_of_ble_eq_true rfl) rfl ?_
      refine ev_istore (ls' := [some (.ref 81), some (.ref 32), some (.int x4), some (.int x5), some (.int x6), some (.int x7), some (.int x14)]) 43 dX6_bestThird_41 (Nat.le_of_ble_eq_true rfl) rfl rfl ?_
      refine ev_iload 45 dX6_bestThird_43 rfl rfl ?_
      refine ev_iload 47 dX6_bestThird_45 rfl rfl ?_
      refine ev_icmp_ge 57 50 dX6_bestThird_47 rfl rfl (fun c16 => ?_) (fun c16 => ?_)
      · replace h := rx_if_t c16 h
        obtain ⟨x17, ex17, h⟩ := rx_let_o h
        refine ev_iinc (v := x17) (ls' := [some (.ref 81), some (.ref 32), some (.int x4), some (.int x5), some (.int x6), some (.int x17), some (.int x14)]) 60 dX6_bestThird_57 rfl (by rw [ex17]; rfl) (Nat.le_of_ble_eq_true rfl) rfl rfl ?_
        refine ev_goto 10 dX6_bestThird_60 rfl ?_
        exact (ih _ _ _ _ _ h).fewer (rx_le_s (rx_le_s (rx_le_s (rx_le_s (rx_le_s (rx_le_s (rx_le_n rx_le_0)))))))
      · replace h := rx_if_f c16 h
        refine ev_iload 52 dX6_bestThird_50 rfl rfl ?_
        refine ev_istore (ls' := [some (.ref 81), some (.ref 32), some (.int x4), some (.int x5), some (.int x14), some (.int x7), some (.int x14)]) 54 dX6_bestThird_52 (Nat.le_of_ble_eq_true rfl) rfl rfl ?_
        refine ev_iload 56 dX6_bestThird_54 rfl rfl ?_
        refine ev_istore_n (ls' := [some (.ref 81), some (.ref 32), some (.int x4), some (.int x7), some (.int x14), some (.int x7), some (.int x14)]) 57 dX6_bestThird_56 rfl (Nat.le_of_ble_eq_true rfl) rfl rfl ?_
        obtain ⟨x18, ex18, h⟩ := rx_let_o h
        refine ev_iinc (v := x18) (ls' := [some (.ref 81), some (.ref 32), some (.int x4), some (.int x7), some (.int x14), some (.int x18), some (.int x14)]) 60 dX6_bestThird_57 rfl (by rw [ex18]; rfl) (Nat.le_of_ble_eq_true rfl) rfl rfl ?_
        refine ev_goto 10 dX6_bestThird_60 rfl ?_
        exact (ih _ _ _ _ _ h).fewer (rx_le_s (rx_le_s (rx_le_s (rx_le_s (rx_le_s (rx_le_s (rx_le_n rx_le_0)))))))

set_option maxHeartbeats 4000000 in
set_option maxRecDepth 20000 in
theorem em_X6_bestThird {d N : Nat} {x2 : Int32} {S0 : rx_S} {zr : Int32} {zS : rx_S} (h : f_X6_bestThird N x2 S0 = some (zr, zS)) : EM gC (d + 5) mX6_bestThird [.ref 81, .ref 32, .int x2] S0 (rx_pi zr zS) := by
  unfold f_X6_bestThird at h
  show EV gC (d + 5) mX6_bestThird 0 [some (.ref 81), some (.ref 32), some (.int x2), none, none, none, none] [] S0 (rx_pi zr zS)
  refine ev_bipush (v := (-2)) 2 dX6_bestThird_0 (by decide) rfl ?_
  refine ev_istore_n (ls' := [some (.ref 81), some (.ref 32), some (.int x2), some (.int (-2)), none, none, none]) 3 dX6_bestThird_2 rfl (Nat.le_of_ble_eq_true rfl) rfl rfl ?_
  refine ev_ldc (v := 1000000) 5 dX6_bestThird_3 rfl ct_6_50 rfl ?_
  refine ev_istore (ls' := [some (.ref 81), some (.ref 32), some (.int x2), some (.int (-2)), some (.int 1000000), none, none]) 7 dX6_bestThird_5 (Nat.le_of_ble_eq_true rfl) rfl rfl ?_
  refine ev_iconst (v := 0) 8 dX6_bestThird_7 (by decide) rfl ?_
  refine ev_istore (ls' := [some (.ref 81), some (.ref 32), some (.int x2), some (.int (-2)), some (.int 1000000), some (.int 0), none]) 10 dX6_bestThird_8 (Nat.le_of_ble_eq_true rfl) rfl rfl ?_
  exact (em_X6_bestThird_L10 _ _ _ _ _ _ h).fewer (rx_le_s (rx_le_s (rx_le_s (rx_le_s (rx_le_s (rx_le_s (rx_le_n rx_le_0)))))))

def f_X6_endAt (x0 : Int32) (x1 : Int32) (S0 : rx_S) : Option (Int32 × rx_S) := some (((x0 * 6) + x1), S0)
set_option maxHeartbeats 4000000 in
set_option maxRecDepth 20000 in
theorem em_X6_endAt {d : Nat} {x0 : Int32} {x1 : Int32} {S0 : rx_S} {zr : Int32} {zS : rx_S} (h : f_X6_endAt x0 x1 S0 = some (zr, zS)) : EM gC d mX6_endAt [.int x0, .int x1] S0 (rx_pi zr zS) := by
  unfold f_X6_endAt at h
  show EV gC d mX6_endAt 0 [some (.int x0), some (.int x1)] [] S0 (rx_pi zr zS)
  refine ev_iload_n (i := 0) 1 dX6_endAt_0 rfl rfl rfl ?_
  refine ev_bipush (v := 6) 3 dX6_endAt_1 (by decide) rfl ?_
  refine ev_imul 4 dX6_endAt_3 rfl ?_
  refine ev_iload_n (i := 1) 5 dX6_endAt_4 rfl rfl rfl ?_
  refine ev_iadd 6 dX6_endAt_5 rfl ?_
  exact ev_ireturn dX6_endAt_6 rfl (rx_ret_i h)

