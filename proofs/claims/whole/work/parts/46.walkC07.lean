def f_X4_readCouple (N : Nat) (S0 : rx_S) : Option (Int32 × rx_S) := if (S0.1 19 7) < 3 then (rx_bd (f_X4_take 129 S0) (fun x4 S3 => if x4 = 0 then (some (0, S3)) else (rx_bd (f_X4_take 2 S3) (fun x8 S7 => if x8 = 0 then (some (0, S7)) else (rx_bd (f_X4_namedSpouse N S7) (fun x12 S11 => rx_bd (f_X4_take 2 S11) (fun x15 S14 => if x15 = 0 then (some (0, S14)) else (rx_bd (f_X4_namedSpouse N S14) (fun x19 S18 => rx_let (fun (x21 : Int32) (x22 : Int32) (S23 : rx_S) => rx_bd (f_X8_addCouple 19 x21 x22 S23) (fun x25 S24 => rx_bd (f_X4_take 59 S24) (fun x28 S27 => rx_bl x28 (some (x28, S27))))) (fun J72_1 => if x12 = (-1) then (J72_1 x12 x19 S18) else (if x12 = x19 then (rx_bd (f_X4_blame 3 S18) (fun x34 S33 => J72_1 x12 x19 S33)) else (J72_1 x12 x19 S18)))))))))))) else (rx_bd (f_X4_refuse 2 S0) (fun x37 S36 => rx_bl x37 (some (x37, S36))))
set_option maxHeartbeats 4000000 in
set_option maxRecDepth 20000 in
theorem em_X4_readCouple {d N : Nat} {S0 : rx_S} {zr : Int32} {zS : rx_S} (h : f_X4_readCouple N S0 = some (zr, zS)) : EM gC (d + 3) mX4_readCouple [.ref 13] S0 (rx_pi zr zS) := by
  unfold f_X4_readCouple at h
  show EV gC (d + 3) mX4_readCouple 0 [some (.ref 13), none, none] [] S0 (rx_pi zr zS)
  refine ev_aload_n (i := 0) 1 dX4_readCouple_0 rfl rfl rfl ?_
  refine ev_get (v := .ref 19) 4 dX4_readCouple_1 dk_13 fl_4_21 (by decide) rfl rfl rfl ?_
  refine ev_get (v := .int (S0.1 19 7)) 7 dX4_readCouple_4 dk_19 fl_4_130 (by decide) rfl rfl rfl ?_
  refine ev_iconst (v := 3) 8 dX4_readCouple_7 (by decide) rfl ?_
  refine ev_icmp_lt 17 11 dX4_readCouple_8 rfl rfl (fun c2 => ?_) (fun c2 => ?_)
  · replace h := rx_if_t c2 h
    refine ev_aload_n (i := 0) 18 dX4_readCouple_17 rfl rfl rfl ?_
    refine ev_sipush (v := 129) 21 dX4_readCouple_18 (by decide) rfl ?_
    obtain ⟨x4, S3, g5, h⟩ := rx_bd_o h
    refine ev_cVi1 24 dX4_readCouple_21 (em_X4_take g5) mm_X4_take mv_X4_take lk_4_73 dk_13 (by decide) rfl (Nat.le_of_ble_eq_true rfl) (Nat.le_of_ble_eq_true rfl) rfl ?_
    refine ev_if_eq 35 27 dX4_readCouple_24 rfl rfl (fun c6 => ?_) (fun c6 => ?_)
    · replace h := rx_if_t c6 h
      refine ev_iconst (v := 0) 36 dX4_readCouple_35 (by decide) rfl ?_
      exact ev_zreturn dX4_readCouple_36 rfl (by decide) (rx_ret_i h)
    · replace h := rx_if_f c6 h
      refine ev_aload_n (i := 0) 28 dX4_readCouple_27 rfl rfl rfl ?_
      refine ev_iconst (v := 2) 29 dX4_readCouple_28 (by decide) rfl ?_
      obtain ⟨x8, S7, g9, h⟩ := rx_bd_o h
      refine ev_cVi1 32 dX4_readCouple_29 (em_X4_take g9) mm_X4_take mv_X4_take lk_4_73 dk_13 (by decide) rfl (Nat.le_of_ble_eq_true rfl) (Nat.le_of_ble_eq_true rfl) rfl ?_
      refine ev_if_ne 37 35 dX4_readCouple_32 rfl rfl (fun c10 => ?_) (fun c10 => ?_)
      · replace h := rx_if_f c10 h
        refine ev_aload_n (i := 0) 38 dX4_readCouple_37 rfl rfl rfl ?_
        obtain ⟨x12, S11, g13, h⟩ := rx_bd_o h
        refine ev_cVi0 41 dX4_readCouple_38 (em_X4_namedSpouse g13) mm_X4_namedSpouse mv_X4_namedSpouse lk_4_133 dk_13 (by decide) rfl (Nat.le_of_ble_eq_true rfl) (Nat.le_of_ble_eq_true rfl) rfl ?_
        refine ev_istore_n (ls' := [some (.ref 13), some (.int x12), none]) 42 dX4_readCouple_41 rfl (Nat.le_of_ble_eq_true rfl) rfl rfl ?_
        refine ev_aload_n (i := 0) 43 dX4_readCouple_42 rfl rfl rfl ?_
        refine ev_iconst (v := 2) 44 dX4_readCouple_43 (by decide) rfl ?_
        obtain ⟨x15, S14, g16, h⟩ := rx_bd_o h
        refine ev_cVi1 47 dX4_readCouple_44 (em_X4_take g16) mm_X4_take mv_X4_take lk_4_73 dk_13 (by decide) rfl (Nat.le_of_ble_eq_true rfl) (Nat.le_of_ble_eq_true rfl) rfl ?_
        refine ev_if_ne 52 50 dX4_readCouple_47 rfl rfl (fun c17 => ?_) (fun c17 => ?_)
        · replace h := rx_if_f c17 h
          refine ev_aload_n (i := 0) 53 dX4_readCouple_52 rfl rfl rfl ?_
          obtain ⟨x19, S18, g20, h⟩ := rx_bd_o h
          refine ev_cVi0 56 dX4_readCouple_53 (em_X4_namedSpouse g20) mm_X4_namedSpouse mv_X4_namedSpouse lk_4_133 dk_13 (by decide) rfl (Nat.le_of_ble_eq_true rfl) (Nat.le_of_ble_eq_true rfl) rfl ?_
          refine ev_istore_n (ls' := [some (.ref 13), some (.int x12), some (.int x19)]) 57 dX4_readCouple_56 rfl (Nat.le_of_ble_eq_true rfl) rfl rfl ?_
          refine ev_iload_n (i := 1) 58 dX4_readCouple_57 rfl rfl rfl ?_
          refine ev_iconst (v := (-1)) 59 dX4_readCouple_58 (by decide) rfl ?_
          obtain ⟨J72_1, eJ72_1, h⟩ := rx_let_o h
          have hJ72_1 : ∀ (x21 : Int32) (x22 : Int32) (S23 : rx_S), J72_1 x21 x22 S23 = some (zr, zS) → EV gC (d + 3) mX4_readCouple 72 [some (.ref 13), some (.int x21), some (.int x22)] [] S23 (rx_pi zr zS) := by
            intro x21 x22 S23 h
            subst eJ72_1
            refine ev_aload_n (i := 0) 73 dX4_readCouple_72 rfl rfl rfl ?_
            refine ev_get (v := .ref 19) 76 dX4_readCouple_73 dk_13 fl_4_21 (by decide) rfl rfl rfl ?_
            refine ev_iload_n (i := 1) 77 dX4_readCouple_76 rfl rfl rfl ?_
            refine ev_iload_n (i := 2) 78 dX4_readCouple_77 rfl rfl rfl ?_
            obtain ⟨x25, S24, g26, h⟩ := rx_bd_o h
            refine ev_cVv2 81 dX4_readCouple_78 (em_X8_addCouple_19 g26) mm_X8_addCouple mv_X8_addCouple lk_4_136 dk_19 (by decide) rfl (Nat.le_of_ble_eq_true rfl) (Nat.le_of_ble_eq_true rfl) rfl ?_
            refine ev_aload_n (i := 0) 82 dX4_readCouple_81 rfl rfl rfl ?_
            refine ev_bipush (v := 59) 84 dX4_readCouple_82 (by decide) rfl ?_
            obtain ⟨x28, S27, g29, h⟩ := rx_bd_o h
            refine ev_cVi1 87 dX4_readCouple_84 (em_X4_take g29) mm_X4_take mv_X4_take lk_4_73 dk_13 (by decide) rfl (Nat.le_of_ble_eq_true rfl) (Nat.le_of_ble_eq_true rfl) rfl ?_
            obtain ⟨g30, h⟩ := rx_bl_o h
            exact ev_zreturn dX4_readCouple_87 rfl (rx_nb g30) (rx_ret_i h)
          refine ev_icmp_eq 72 62 dX4_readCouple_59 rfl rfl (fun c31 => ?_) (fun c31 => ?_)
          · replace h := rx_if_t c31 h
            exact (hJ72_1 _ _ _ h).fewer (rx_le_s (rx_le_s (rx_le_s rx_le_0)))
          · replace h := rx_if_f c31 h
            refine ev_iload_n (i := 1) 63 dX4_readCouple_62 rfl rfl rfl ?_
            refine ev_iload_n (i := 2) 64 dX4_readCouple_63 rfl rfl rfl ?_
            refine ev_icmp_ne 72 67 dX4_readCouple_64 rfl rfl (fun c32 => ?_) (fun c32 => ?_)
            · replace h := rx_if_f c32 h
              exact (hJ72_1 _ _ _ h).fewer (rx_le_s (rx_le_s (rx_le_s rx_le_0)))
            · replace h := rx_if_t c32 h
              refine ev_aload_n (i := 0) 68 dX4_readCouple_67 rfl rfl rfl ?_
              refine ev_iconst (v := 3) 69 dX4_readCouple_68 (by decide) rfl ?_
              obtain ⟨x34, S33, g35, h⟩ := rx_bd_o h
              refine ev_cVv1 72 dX4_readCouple_69 (em_X4_blame g35) mm_X4_blame mv_X4_blame lk_4_80 dk_13 (by decide) rfl (Nat.le_of_ble_eq_true rfl) (Nat.le_of_ble_eq_true rfl) rfl ?_
              exact (hJ72_1 _ _ _ h).fewer (rx_le_s (rx_le_s (rx_le_s rx_le_0)))
        · replace h := rx_if_t c17 h
          refine ev_iconst (v := 0) 51 dX4_readCouple_50 (by decide) rfl ?_
          exact ev_zreturn dX4_readCouple_51 rfl (by decide) (rx_ret_i h)
      · replace h := rx_if_t c10 h
        refine ev_iconst (v := 0) 36 dX4_readCouple_35 (by decide) rfl ?_
        exact ev_zreturn dX4_readCouple_36 rfl (by decide) (rx_ret_i h)
  · replace h := rx_if_f c2 h
    refine ev_aload_n (i := 0) 12 dX4_readCouple_11 rfl rfl rfl ?_
    refine ev_iconst (v := 2) 13 dX4_readCouple_12 (by decide) rfl ?_
    obtain ⟨x37, S36, g38, h⟩ := rx_bd_o h
    refine ev_cVi1 16 dX4_readCouple_13 (em_X4_refuse g38) mm_X4_refuse mv_X4_refuse lk_4_104 dk_13 (by decide) rfl (Nat.le_of_ble_eq_true rfl) (Nat.le_of_ble_eq_true rfl) rfl ?_
    obtain ⟨g39, h⟩ := rx_bl_o h
    exact ev_zreturn dX4_readCouple_16 rfl (rx_nb g39) (rx_ret_i h)

def f_X8_addSpouse (k : Nat) (x1 : Int32) (S0 : rx_S) : Option (Unit × rx_S) := if (6 : Int32) ≤ (S0.1 k 6) then (some ((), S0)) else (rx_gd (S0.1 k 6) 6 (rx_let (rx_ui S0 (k + 6) (Int32.toNatClampNeg (S0.1 k 6)) x1) (fun S5 => rx_gd (S5.1 k 6) 6 (rx_let (rx_ui S5 (k + 7) (Int32.toNatClampNeg (S5.1 k 6)) (-2)) (fun S7 => rx_let (rx_ui S7 k 6 ((S7.1 k 6) + 1)) (fun S8 => some ((), S8)))))))
set_option maxHeartbeats 4000000 in
set_option maxRecDepth 20000 in
theorem em_X8_addSpouse_2 {d : Nat} {x1 : Int32} {S0 : rx_S} {zr : Unit} {zS : rx_S} (h : f_X8_addSpouse 2 x1 S0 = some (zr, zS)) : EM gC d mX8_addSpouse [.ref 2, .int x1] S0 (rx_pv zS) := by
  unfold f_X8_addSpouse at h
  show EV gC d mX8_addSpouse 0 [some (.ref 2), some (.int x1)] [] S0 (rx_pv zS)
  refine ev_aload_n (i := 0) 1 dX8_addSpouse_0 rfl rfl rfl ?_
  refine ev_get (v := .int (S0.1 2 6)) 4 dX8_addSpouse_1 dk_2 fl_8_37 (by decide) rfl rfl rfl ?_
  refine ev_bipush (v := 6) 6 dX8_addSpouse_4 (by decide) rfl ?_
  refine ev_icmp_ge 40 9 dX8_addSpouse_6 rfl rfl (fun c3 => ?_) (fun c3 => ?_)
  · replace h := rx_if_t c3 h
    exact ev_return dX8_addSpouse_40 rfl (rx_ret_v h)
  · replace h := rx_if_f c3 h
    refine ev_aload_n (i := 0) 10 dX8_addSpouse_9 rfl rfl rfl ?_
    refine ev_get (v := .ref 8) 13 dX8_addSpouse_10 dk_2 fl_8_18 (by decide) rfl rfl rfl ?_
    refine ev_aload_n (i := 0) 14 dX8_addSpouse_13 rfl rfl rfl ?_
    refine ev_get (v := .int (S0.1 2 6)) 17 dX8_addSpouse_14 dk_2 fl_8_37 (by decide) rfl rfl rfl ?_
    refine ev_iload_n (i := 1) 18 dX8_addSpouse_17 rfl rfl rfl ?_
    obtain ⟨g4, h⟩ := rx_gd_o h
    obtain ⟨S5, eS5, h⟩ := rx_let_o h
    refine ex_iast _ 19 dX8_addSpouse_18 dk_8 g4 rfl rfl eS5 ?_
    refine ev_aload_n (i := 0) 20 dX8_addSpouse_19 rfl rfl rfl ?_
    refine ev_get (v := .ref 9) 23 dX8_addSpouse_20 dk_2 fl_8_22 (by decide) rfl rfl rfl ?_
    refine ev_aload_n (i := 0) 24 dX8_addSpouse_23 rfl rfl rfl ?_
    refine ev_get (v := .int (S5.1 2 6)) 27 dX8_addSpouse_24 dk_2 fl_8_37 (by decide) rfl rfl rfl ?_
    refine ev_bipush (v := (-2)) 29 dX8_addSpouse_27 (by decide) rfl ?_
    obtain ⟨g6, h⟩ := rx_gd_o h
    obtain ⟨S7, eS7, h⟩ := rx_let_o h
    refine ex_iast _ 30 dX8_addSpouse_29 dk_9 g6 rfl rfl eS7 ?_
    refine ev_aload_n (i := 0) 31 dX8_addSpouse_30 rfl rfl rfl ?_
    refine ev_dup 32 dX8_addSpouse_31 rfl rfl ?_
    refine ev_get (v := .int (S7.1 2 6)) 35 dX8_addSpouse_32 dk_2 fl_8_37 (by decide) rfl rfl rfl ?_
    refine ev_iconst (v := 1) 36 dX8_addSpouse_35 (by decide) rfl ?_
    refine ev_iadd 37 dX8_addSpouse_36 rfl ?_
    obtain ⟨S8, eS8, h⟩ := rx_let_o h
    refine ex_put 40 dX8_addSpouse_37 dk_2 fl_8_37 pp_8_6 (by decide) rfl rfl rfl rfl eS8 ?_
    exact ev_return dX8_addSpouse_40 rfl (rx_ret_v h)

set_option maxHeartbeats 4000000 in
set_option maxRecDepth 20000 in
theorem em_X8_addSpouse_19 {d : Nat} {x1 : Int32} {S0 : rx_S} {zr : Unit} {zS : rx_S} (h : f_X8_addSpouse 19 x1 S0 = some (zr, zS)) : EM gC d mX8_addSpouse [.ref 19, .int x1] S0 (rx_pv zS) := by
  unfold f_X8_addSpouse at h
  show EV gC d mX8_addSpouse 0 [some (.ref 19), some (.int x1)] [] S0 (rx_pv zS)
  refine ev_aload_n (i := 0) 1 dX8_addSpouse_0 rfl rfl rfl ?_
  refine ev_get (v := .int (S0.1 19 6)) 4 dX8_addSpouse_1 dk_19 fl_8_37 (by decide) rfl rfl rfl ?_
  refine ev_bipush (v := 6) 6 dX8_addSpouse_4 (by decide) rfl ?_
  refine ev_icmp_ge 40 9 dX8_addSpouse_6 rfl rfl (fun c3 => ?_) (fun c3 => ?_)
  · replace h := rx_if_t c3 h
    exact ev_return dX8_addSpouse_40 rfl (rx_ret_v h)
  · replace h := rx_if_f c3 h
    refine ev_aload_n (i := 0) 10 dX8_addSpouse_9 rfl rfl rfl ?_
    refine ev_get (v := .ref 25) 13 dX8_addSpouse_10 dk_19 fl_8_18 (by decide) rfl rfl rfl ?_
    refine ev_aload_n (i := 0) 14 dX8_addSpouse_13 rfl rfl rfl ?_
    refine ev_get (v := .int (S0.1 19 6)) 17 dX8_addSpouse_14 dk_19 fl_8_37 (by decide) rfl rfl rfl ?_
    refine ev_iload_n (i := 1) 18 dX8_addSpouse_17 rfl rfl rfl ?_
    obtain ⟨g4, h⟩ := rx_gd_o h
    obtain ⟨S5, eS5, h⟩ := rx_let_o h
    refine ex_iast _ 19 dX8_addSpouse_18 dk_25 g4 rfl rfl eS5 ?_
    refine ev_aload_n (i := 0) 20 dX8_addSpouse_19 rfl rfl rfl ?_
    refine ev_get (v := .ref 26) 23 dX8_addSpouse_20 dk_19 fl_8_22 (by decide) rfl rfl rfl ?_
    refine ev_aload_n (i := 0) 24 dX8_addSpouse_23 rfl rfl rfl ?_
    refine ev_get (v := .int (S5.1 19 6)) 27 dX8_addSpouse_24 dk_19 fl_8_37 (by decide) rfl rfl rfl ?_
    refine ev_bipush (v := (-2)) 29 dX8_addSpouse_27 (by decide) rfl ?_
    obtain ⟨g6, h⟩ := rx_gd_o h
    obtain ⟨S7, eS7, h⟩ := rx_let_o h
    refine ex_iast _ 30 dX8_addSpouse_29 dk_26 g6 rfl rfl eS7 ?_
    refine ev_aload_n (i := 0) 31 dX8_addSpouse_30 rfl rfl rfl ?_
    refine ev_dup 32 dX8_addSpouse_31 rfl rfl ?_
    refine ev_get (v := .int (S7.1 19 6)) 35 dX8_addSpouse_32 dk_19 fl_8_37 (by decide) rfl rfl rfl ?_
    refine ev_iconst (v := 1) 36 dX8_addSpouse_35 (by decide) rfl ?_
    refine ev_iadd 37 dX8_addSpouse_36 rfl ?_
    obtain ⟨S8, eS8, h⟩ := rx_let_o h
    refine ex_put 40 dX8_addSpouse_37 dk_19 fl_8_37 pp_8_6 (by decide) rfl rfl rfl rfl eS8 ?_
    exact ev_return dX8_addSpouse_40 rfl (rx_ret_v h)

def f_X4_readSpouse (N : Nat) (S0 : rx_S) : Option (Int32 × rx_S) := if (S0.1 19 6) < 6 then (rx_bd (f_X4_take 128 S0) (fun x4 S3 => if x4 = 0 then (some (0, S3)) else (rx_bd (f_X4_takeNewName N (S3.1 19 6) S3) (fun x8 S7 => if x8 = 0 then (some (0, S7)) else (rx_bd (f_X4_takeNumber 99 S7) (fun x12 S11 => if x12 = 0 then (some (0, S11)) else (rx_bd (f_X4_taken S11) (fun x16 S15 => rx_bd (f_X8_addSpouse 19 x16 S15) (fun x19 S18 => rx_bd (f_X4_take 59 S18) (fun x22 S21 => rx_bl x22 (some (x22, S21)))))))))))) else (rx_bd (f_X4_refuse 2 S0) (fun x26 S25 => rx_bl x26 (some (x26, S25))))
set_option maxHeartbeats 4000000 in
set_option maxRecDepth 20000 in
theorem em_X4_readSpouse {d N : Nat} {S0 : rx_S} {zr : Int32} {zS : rx_S} (h : f_X4_readSpouse N S0 = some (zr, zS)) : EM gC (d + 3) mX4_readSpouse [.ref 13] S0 (rx_pi zr zS) := by
  unfold f_X4_readSpouse at h
  show EV gC (d + 3) mX4_readSpouse 0 [some (.ref 13)] [] S0 (rx_pi zr zS)
  refine ev_aload_n (i := 0) 1 dX4_readSpouse_0 rfl rfl rfl ?_
  refine ev_get (v := .ref 19) 4 dX4_readSpouse_1 dk_13 fl_4_21 (by decide) rfl rfl rfl ?_
  refine ev_get (v := .int (S0.1 19 6)) 7 dX4_readSpouse_4 dk_19 fl_4_107 (by decide) rfl rfl rfl ?_
  refine ev_bipush (v := 6) 9 dX4_readSpouse_7 (by decide) rfl ?_
  refine ev_icmp_lt 18 12 dX4_readSpouse_9 rfl rfl (fun c2 => ?_) (fun c2 => ?_)
  · replace h := rx_if_t c2 h
    refine ev_aload_n (i := 0) 19 dX4_readSpouse_18 rfl rfl rfl ?_
    refine ev_sipush (v := 128) 22 dX4_readSpouse_19 (by decide) rfl ?_
    obtain ⟨x4, S3, g5, h⟩ := rx_bd_o h
    refine ev_cVi1 25 dX4_readSpouse_22 (em_X4_take g5) mm_X4_take mv_X4_take lk_4_73 dk_13 (by decide) rfl (Nat.le_of_ble_eq_true rfl) (Nat.le_of_ble_eq_true rfl) rfl ?_
    refine ev_if_eq 51 28 dX4_readSpouse_25 rfl rfl (fun c6 => ?_) (fun c6 => ?_)
    · replace h := rx_if_t c6 h
      refine ev_iconst (v := 0) 52 dX4_readSpouse_51 (by decide) rfl ?_
      exact ev_zreturn dX4_readSpouse_52 rfl (by decide) (rx_ret_i h)
    · replace h := rx_if_f c6 h
      refine ev_aload_n (i := 0) 29 dX4_readSpouse_28 rfl rfl rfl ?_
      refine ev_aload_n (i := 0) 30 dX4_readSpouse_29 rfl rfl rfl ?_
      refine ev_get (v := .ref 19) 33 dX4_readSpouse_30 dk_13 fl_4_21 (by decide) rfl rfl rfl ?_
      refine ev_get (v := .int (S3.1 19 6)) 36 dX4_readSpouse_33 dk_19 fl_4_107 (by decide) rfl rfl rfl ?_
      obtain ⟨x8, S7, g9, h⟩ := rx_bd_o h
      refine ev_cVi1 39 dX4_readSpouse_36 (em_X4_takeNewName g9) mm_X4_takeNewName mv_X4_takeNewName lk_4_110 dk_13 (by decide) rfl (Nat.le_of_ble_eq_true rfl) (Nat.le_of_ble_eq_true rfl) rfl ?_
      refine ev_if_eq 51 42 dX4_readSpouse_39 rfl rfl (fun c10 => ?_) (fun c10 => ?_)
      · replace h := rx_if_t c10 h
        refine ev_iconst (v := 0) 52 dX4_readSpouse_51 (by decide) rfl ?_
        exact ev_zreturn dX4_readSpouse_52 rfl (by decide) (rx_ret_i h)
      · replace h := rx_if_f c10 h
        refine ev_aload_n (i := 0) 43 dX4_readSpouse_42 rfl rfl rfl ?_
        refine ev_bipush (v := 99) 45 dX4_readSpouse_43 (by decide) rfl ?_
        obtain ⟨x12, S11, g13, h⟩ := rx_bd_o h
        refine ev_cVi1 48 dX4_readSpouse_45 (em_X4_takeNumber g13) mm_X4_takeNumber mv_X4_takeNumber lk_4_113 dk_13 (by decide) rfl (Nat.le_of_ble_eq_true rfl) (Nat.le_of_ble_eq_true rfl) rfl ?_
        refine ev_if_ne 53 51 dX4_readSpouse_48 rfl rfl (fun c14 => ?_) (fun c14 => ?_)
        · replace h := rx_if_f c14 h
          refine ev_aload_n (i := 0) 54 dX4_readSpouse_53 rfl rfl rfl ?_
          refine ev_get (v := .ref 19) 57 dX4_readSpouse_54 dk_13 fl_4_21 (by decide) rfl rfl rfl ?_
          refine ev_aload_n (i := 0) 58 dX4_readSpouse_57 rfl rfl rfl ?_
          obtain ⟨x16, S15, g17, h⟩ := rx_bd_o h
          refine ev_cVi0 61 dX4_readSpouse_58 (em_X4_taken g17) mm_X4_taken mv_X4_taken lk_4_76 dk_13 (by decide) rfl (Nat.le_of_ble_eq_true rfl) (Nat.le_of_ble_eq_true rfl) rfl ?_
          obtain ⟨x19, S18, g20, h⟩ := rx_bd_o h
          refine ev_cVv1 64 dX4_readSpouse_61 (em_X8_addSpouse_19 g20) mm_X8_addSpouse mv_X8_addSpouse lk_4_116 dk_19 (by decide) rfl (Nat.le_of_ble_eq_true rfl) (Nat.le_of_ble_eq_true rfl) rfl ?_
          refine ev_aload_n (i := 0) 65 dX4_readSpouse_64 rfl rfl rfl ?_
          refine ev_bipush (v := 59) 67 dX4_readSpouse_65 (by decide) rfl ?_
          obtain ⟨x22, S21, g23, h⟩ := rx_bd_o h
          refine ev_cVi1 70 dX4_readSpouse_67 (em_X4_take g23) mm_X4_take mv_X4_take lk_4_73 dk_13 (by decide) rfl (Nat.le_of_ble_eq_true rfl) (Nat.le_of_ble_eq_true rfl) rfl ?_
          obtain ⟨g24, h⟩ := rx_bl_o h
          exact ev_zreturn dX4_readSpouse_70 rfl (rx_nb g24) (rx_ret_i h)
        · replace h := rx_if_t c14 h
          refine ev_iconst (v := 0) 52 dX4_readSpouse_51 (by decide) rfl ?_
          exact ev_zreturn dX4_readSpouse_52 rfl (by decide) (rx_ret_i h)
  · replace h := rx_if_f c2 h
    refine ev_aload_n (i := 0) 13 dX4_readSpouse_12 rfl rfl rfl ?_
    refine ev_iconst (v := 2) 14 dX4_readSpouse_13 (by decide) rfl ?_
    obtain ⟨x26, S25, g27, h⟩ := rx_bd_o h
    refine ev_cVi1 17 dX4_readSpouse_14 (em_X4_refuse g27) mm_X4_refuse mv_X4_refuse lk_4_104 dk_13 (by decide) rfl (Nat.le_of_ble_eq_true rfl) (Nat.le_of_ble_eq_true rfl) rfl ?_
    obtain ⟨g28, h⟩ := rx_bl_o h
    exact ev_zreturn dX4_readSpouse_17 rfl (rx_nb g28) (rx_ret_i h)

def f_X4_readFact (N : Nat) (x1 : Int32) (S0 : rx_S) : Option (Int32 × rx_S) := rx_let (fun (S3 : rx_S) => rx_bd (f_X4_refuse 1 S3) (fun x5 S4 => rx_bl x5 (some (x5, S4)))) (fun J89_1 => if x1 = 128 then (rx_bd (f_X4_readSpouse N S0) (fun x10 S9 => rx_bl x10 (some (x10, S9)))) else (if x1 = 129 then (rx_bd (f_X4_readCouple N S0) (fun x15 S14 => rx_bl x15 (some (x15, S14)))) else (if x1 = 130 then (rx_bd (f_X4_readThird N S0) (fun x20 S19 => rx_bl x20 (some (x20, S19)))) else (if x1 = 131 then (J89_1 S0) else (if x1 = 132 then (J89_1 S0) else (if x1 = 133 then (J89_1 S0) else (if x1 = 134 then (J89_1 S0) else (if x1 = 135 then (J89_1 S0) else (if x1 = 136 then (J89_1 S0) else (if x1 = 137 then (J89_1 S0) else (if x1 = 138 then (rx_bd (f_X4_readFine S0) (fun x32 S31 => rx_bl x32 (some (x32, S31)))) else (if x1 = 139 then (rx_bd (f_X4_readSeed S0) (fun x37 S36 => rx_bl x37 (some (x37, S36)))) else (J89_1 S0)))))))))))))
set_option maxHeartbeats 4000000 in
set_option maxRecDepth 20000 in
theorem em_X4_readFact {d N : Nat} {x1 : Int32} {S0 : rx_S} {zr : Int32} {zS : rx_S} (h : f_X4_readFact N x1 S0 = some (zr, zS)) : EM gC (d + 4) mX4_readFact [.ref 13, .int x1] S0 (rx_pi zr zS) := by
  unfold f_X4_readFact at h
  show EV gC (d + 4) mX4_readFact 0 [some (.ref 13), some (.int x1)] [] S0 (rx_pi zr zS)
  refine ev_iload_n (i := 1) 1 dX4_readFact_0 rfl rfl rfl ?_
  obtain ⟨J89_1, eJ89_1, h⟩ := rx_let_o h
  have hJ89_1 : ∀ (S3 : rx_S), J89_1 S3 = some (zr, zS) → EV gC (d + 4) mX4_readFact 89 [some (.ref 13), none] [] S3 (rx_pi zr zS) := by
    intro S3 h
    subst eJ89_1
    refine ev_aload_n (i := 0) 90 dX4_readFact_89 rfl rfl rfl ?_
    refine ev_iconst (v := 1) 91 dX4_readFact_90 (by decide) rfl ?_
    obtain ⟨x5, S4, g6, h⟩ := rx_bd_o h
    refine ev_cVi1 94 dX4_readFact_91 (em_X4_refuse g6) mm_X4_refuse mv_X4_refuse lk_4_104 dk_13 (by decide) rfl (Nat.le_of_ble_eq_true rfl) (Nat.le_of_ble_eq_true rfl) rfl ?_
    obtain ⟨g7, h⟩ := rx_bl_o h
    exact ev_zreturn dX4_readFact_94 rfl (rx_nb g7) (rx_ret_i h)
  by_cases c8 : x1 = 128
  · replace h := rx_if_t c8 h
    refine ev_tableIn 64 dX4_readFact_1 (by rw [c8]; decide) (by rw [c8]; decide) (off := 63) (by rw [c8]; rfl) rfl ?_
    refine ev_aload_n (i := 0) 65 dX4_readFact_64 rfl rfl rfl ?_
    obtain ⟨x10, S9, g11, h⟩ := rx_bd_o h
    refine ev_cVi0 68 dX4_readFact_65 (em_X4_readSpouse g11) mm_X4_readSpouse mv_X4_readSpouse lk_4_88 dk_13 (by decide) rfl (Nat.le_of_ble_eq_true rfl) (Nat.le_of_ble_eq_true rfl) rfl ?_
    obtain ⟨g12, h⟩ := rx_bl_o h
    exact ev_zreturn dX4_readFact_68 rfl (rx_nb g12) (rx_ret_i h)
  · replace h := rx_if_f c8 h
    by_cases c13 : x1 = 129
    · replace h := rx_if_t c13 h
      refine ev_tableIn 69 dX4_readFact_1 (by rw [c13]; decide) (by rw [c13]; decide) (off := 68) (by rw [c13]; rfl) rfl ?_
      refine ev_aload_n (i := 0) 70 dX4_readFact_69 rfl rfl rfl ?_
      obtain ⟨x15, S14, g16, h⟩ := rx_bd_o h
      refine ev_cVi0 73 dX4_readFact_70 (em_X4_readCouple g16) mm_X4_readCouple mv_X4_readCouple lk_4_92 dk_13 (by decide) rfl (Nat.le_of_ble_eq_true rfl) (Nat.le_of_ble_eq_true rfl) rfl ?_
      obtain ⟨g17, h⟩ := rx_bl_o h
      exact ev_zreturn dX4_readFact_73 rfl (rx_nb g17) (rx_ret_i h)
    · replace h := rx_if_f c13 h
      by_cases c18 : x1 = 130
      · replace h := rx_if_t c18 h
        refine ev_tableIn 74 dX4_readFact_1 (by rw [c18]; decide) (by rw [c18]; decide) (off := 73) (by rw [c18]; rfl) rfl ?_
        refine ev_aload_n (i := 0) 75 dX4_readFact_74 rfl rfl rfl ?_
        obtain ⟨x20, S19, g21, h⟩ := rx_bd_o h
        refine ev_cVi0 78 dX4_readFact_75 (em_X4_readThird g21) mm_X4_readThird mv_X4_readThird lk_4_95 dk_13 (by decide) rfl (Nat.le_of_ble_eq_true rfl) (Nat.le_of_ble_eq_true rfl) rfl ?_
        obtain ⟨g22, h⟩ := rx_bl_o h
        exact ev_zreturn dX4_readFact_78 rfl (rx_nb g22) (rx_ret_i h)
      · replace h := rx_if_f c18 h
        by_cases c23 : x1 = 131
        · replace h := rx_if_t c23 h
          refine ev_tableIn 89 dX4_readFact_1 (by rw [c23]; decide) (by rw [c23]; decide) (off := 88) (by rw [c23]; rfl) rfl ?_
          exact (hJ89_1 _ h).fewer (rx_le_s (rx_le_n rx_le_0))
        · replace h := rx_if_f c23 h
          by_cases c24 : x1 = 132
          · replace h := rx_if_t c24 h
            refine ev_tableIn 89 dX4_readFact_1 (by rw [c24]; decide) (by rw [c24]; decide) (off := 88) (by rw [c24]; rfl) rfl ?_
            exact (hJ89_1 _ h).fewer (rx_le_s (rx_le_n rx_le_0))
          · replace h := rx_if_f c24 h
            by_cases c25 : x1 = 133
            · replace h := rx_if_t c25 h
              refine ev_tableIn 89 dX4_readFact_1 (by rw [c25]; decide) (by rw [c25]; decide) (off := 88) (by rw [c25]; rfl) rfl ?_
              exact (hJ89_1 _ h).fewer (rx_le_s (rx_le_n rx_le_0))
            · replace h := rx_if_f c25 h
              by_cases c26 : x1 = 134
              · replace h := rx_if_t c26 h
                refine ev_tableIn 89 dX4_readFact_1 (by rw [c26]; decide) (by rw [c26]; decide) (off := 88) (by rw [c26]; rfl) rfl ?_
                exact (hJ89_1 _ h).fewer (rx_le_s (rx_le_n rx_le_0))
              · replace h := rx_if_f c26 h
                by_cases c27 : x1 = 135
                · replace h := rx_if_t c27 h
                  refine ev_tableIn 89 dX4_readFact_1 (by rw [c27]; decide) (by rw [c27]; decide) (off := 88) (by rw [c27]; rfl) rfl ?_
                  exact (hJ89_1 _ h).fewer (rx_le_s (rx_le_n rx_le_0))
                · replace h := rx_if_f c27 h
                  by_cases c28 : x1 = 136
                  · replace h := rx_if_t c28 h
                    refine ev_tableIn 89 dX4_readFact_1 (by rw [c28]; decide) (by rw [c28]; decide) (off := 88) (by rw [c28]; rfl) rfl ?_
                    exact (hJ89_1 _ h).fewer (rx_le_s (rx_le_n rx_le_0))
                  · replace h := rx_if_f c28 h
                    by_cases c29 : x1 = 137
                    · replace h := rx_if_t c29 h
                      refine ev_tableIn 89 dX4_readFact_1 (by rw [c29]; decide) (by rw [c29]; decide) (off := 88) (by rw [c29]; rfl) rfl ?_
                      exact (hJ89_1 _ h).fewer (rx_le_s (rx_le_n rx_le_0))
                    · replace h := rx_if_f c29 h
                      by_cases c30 : x1 = 138
                      · replace h := rx_if_t c30 h
                        refine ev_tableIn 79 dX4_readFact_1 (by rw [c30]; decide) (by rw [c30]; decide) (off := 78) (by rw [c30]; rfl) rfl ?_
                        refine ev_aload_n (i := 0) 80 dX4_readFact_79 rfl rfl rfl ?_
                        obtain ⟨x32, S31, g33, h⟩ := rx_bd_o h
                        refine ev_cVi0 83 dX4_readFact_80 (em_X4_readFine g33) mm_X4_readFine mv_X4_readFine lk_4_98 dk_13 (by decide) rfl (Nat.le_of_ble_eq_true rfl) (Nat.le_of_ble_eq_true rfl) rfl ?_
                        obtain ⟨g34, h⟩ := rx_bl_o h
                        exact ev_zreturn dX4_readFact_83 rfl (rx_nb g34) (rx_ret_i h)
                      · replace h := rx_if_f c30 h
                        by_cases c35 : x1 = 139
                        · replace h := rx_if_t c35 h
                          refine ev_tableIn 84 dX4_readFact_1 (by rw [c35]; decide) (by rw [c35]; decide) (off := 83) (by rw [c35]; rfl) rfl ?_
                          refine ev_aload_n (i := 0) 85 dX4_readFact_84 rfl rfl rfl ?_
                          obtain ⟨x37, S36, g38, h⟩ := rx_bd_o h
                          refine ev_cVi0 88 dX4_readFact_85 (em_X4_readSeed g38) mm_X4_readSeed mv_X4_readSeed lk_4_101 dk_13 (by decide) rfl (Nat.le_of_ble_eq_true rfl) (Nat.le_of_ble_eq_true rfl) rfl ?_
                          obtain ⟨g39, h⟩ := rx_bl_o h
                          exact ev_zreturn dX4_readFact_88 rfl (rx_nb g39) (rx_ret_i h)
                        · replace h := rx_if_f c35 h
                          refine ev_tableOut 89 dX4_readFact_1 (by have q0 := rx_ne c8 (z := 128) (by decide); have q1 := rx_ne c13 (z := 129) (by decide); have q2 := rx_ne c18 (z := 130) (by decide); have q3 := rx_ne c23 (z := 131) (by decide); have q4 := rx_ne c24 (z := 132) (by decide); have q5 := rx_ne c25 (z := 133) (by decide); have q6 := rx_ne c26 (z := 134) (by decide); have q7 := rx_ne c27 (z := 135) (by decide); have q8 := rx_ne c28 (z := 136) (by decide); have q9 := rx_ne c29 (z := 137) (by decide); have q10 := rx_ne c30 (z := 138) (by decide); have q11 := rx_ne c35 (z := 139) (by decide); omega) rfl ?_
                          exact (hJ89_1 _ h).fewer (rx_le_s (rx_le_n rx_le_0))

def f_X4_readTape_L46 (N : Nat) (K123 : rx_S → Option (Int32 × rx_S)) : Nat → Int32 → Int32 → rx_S → Option (Int32 × rx_S)
  | 0, _, _, _ => none
  | n + 1, x27, x28, S29 => if x27 = 0 then (K123 S29) else (if (400 : Int32) < x28 then (K123 S29) else (rx_bd (f_X9_kindAt (S29.1 13 5) S29) (fun x34 S33 => rx_let (fun (x36 : Int32) (x37 : Int32) (S38 : rx_S) => if x37 = 0 then (rx_let (x36 + 1) (fun x40 => f_X4_readTape_L46 N K123 n 0 x40 S38)) else (rx_bd (f_X4_readFact N x37 S38) (fun x42 S41 => if x42 = 0 then (rx_let (x36 + 1) (fun x45 => f_X4_readTape_L46 N K123 n 0 x45 S41)) else (rx_let (x36 + 1) (fun x46 => f_X4_readTape_L46 N K123 n 1 x46 S41))))) (fun J97_4 => if x34 < 131 then (J97_4 x28 x34 S33) else (if (138 : Int32) ≤ x34 then (J97_4 x28 x34 S33) else (rx_bd (f_X4_readLaw N x34 S33) (fun x50 S49 => rx_let (x28 + 1) (fun x52 => f_X4_readTape_L46 N K123 n x50 x52 S49))))))))
def f_X4_readTape (N : Nat) (x2 : Int32) (S0 : rx_S) : Option (Int32 × rx_S) := rx_bd (f_X9_cut N x2 S0) (fun x5 S4 => rx_bd (f_X8_clear 19 N S4) (fun x8 S7 => rx_let (rx_ui S7 13 4 0) (fun S10 => rx_let (rx_ui S10 13 5 0) (fun S11 => rx_let (rx_ui S11 13 6 0) (fun S12 => rx_let (rx_ui S12 13 8 0) (fun S13 => rx_let (rx_ui S13 13 9 (-1)) (fun S14 => rx_let (fun (S15 : rx_S) => rx_let (fun (x16 : Int32) (S17 : rx_S) => rx_let (rx_ui S17 13 7 x16) (fun S18 => rx_let (fun (x19 : Int32) (S20 : rx_S) => rx_let (rx_ui S20 13 6 x19) (fun S21 => some ((S21.1 13 6), S21))) (fun J171_3 => if (S18.1 13 6) = 0 then (J171_3 (S18.1 13 8) S18) else (J171_3 (S18.1 13 6) S18)))) (fun J149_2 => if (S15.1 13 6) = 0 then (J149_2 (S15.1 13 9) S15) else (rx_bd (f_X9_placeOf (S15.1 13 5) S15) (fun x25 S24 => J149_2 x25 S24)))) (fun J123_1 => f_X4_readTape_L46 N J123_1 N 1 0 S14))))))))
set_option maxHeartbeats 4000000 in
set_option maxRecDepth 20000 in
theorem em_X4_readTape_L46 {d N : Nat} {K123 : rx_S → Option (Int32 × rx_S)} {zr : Int32} {zS : rx_S} (hK123 : ∀ (S30 : rx_S), K123 S30 = some (zr, zS) → EV gC (d + 32) mX4_readTape 123 [some (.ref 13), some (.ref 1), none, none, none, none] [] S30 (rx_pi zr zS)) : ∀ (n : Nat) (x27 : Int32) (x28 : Int32) (S29 : rx_S), f_X4_readTape_L46 N K123 n x27 x28 S29 = some (zr, zS) → EV gC (d + 32) mX4_readTape 46 [some (.ref 13), some (.ref 1), none, some (.int x27), some (.int x28), none] [] S29 (rx_pi zr zS) := by
  intro n
  induction n with
  | zero => intro x27 x28 S29 h; cases h
  | succ n ih =>
    intro x27 x28 S29 h
    rw [f_X4_readTape_L46] at h
    refine ev_iload_n (i := 3) 47 dX4_readTape_46 rfl rfl rfl ?_
    refine ev_if_eq 123 50 dX4_readTape_47 rfl rfl (fun c31 => ?_) (fun c31 => ?_)
    · replace h := rx_if_t c31 h
      exact (hK123 _ h).fewer (rx_le_s (rx_le_s (rx_le_n (rx_le_n (rx_le_n (rx_le_n rx_le_0))))))
    · replace h := rx_if_f c31 h
      refine ev_iload 52 dX4_readTape_50 rfl rfl ?_
      refine ev_sipush (v := 400) 55 dX4_readTape_52 (by decide) rfl ?_
      refine ev_icmp_gt 123 58 dX4_readTape_55 rfl rfl (fun c32 => ?_) (fun c32 => ?_)
      · replace h := rx_if_t c32 h
        exact (hK123 _ h).fewer (rx_le_s (rx_le_s (rx_le_n (rx_le_n (rx_le_n (rx_le_n rx_le_0))))))
      · replace h := rx_if_f c32 h
        refine ev_aload_n (i := 0) 59 dX4_readTape_58 rfl rfl rfl ?_
        refine ev_get (v := .ref 14) 62 dX4_readTape_59 dk_13 fl_4_12 (by decide) rfl rfl rfl ?_
        refine ev_aload_n (i := 0) 63 dX4_readTape_62 rfl rfl rfl ?_
        refine ev_get (v := .int (S29.1 13 5)) 66 dX4_readTape_63 dk_13 fl_4_44 (by decide) rfl rfl rfl ?_
        obtain ⟨x34, S33, g35, h⟩ := rx_bd_o h
        refine ev_cVi1 69 dX4_readTape_66 (em_X9_kindAt g35) mm_X9_kindAt mv_X9_kindAt lk_4_56 dk_14 (by decide) rfl (Nat.le_of_ble_eq_true rfl) (Nat.le_of_ble_eq_true rfl) rfl ?_
        refine ev_istore (ls' := [some (.ref 13), some (.ref 1), none, some (.int x27), some (.int x28), some (.int x34)]) 71 dX4_readTape_69 (Nat.le_of_ble_eq_true rfl) rfl rfl ?_
        refine ev_iload 73 dX4_readTape_71 rfl rfl ?_
        refine ev_sipush (v := 131) 76 dX4_readTape_73 (by decide) rfl ?_
        obtain ⟨J97_4, eJ97_4, h⟩ := rx_let_o h
        have hJ97_4 : ∀ (x36 : Int32) (x37 : Int32) (S38 : rx_S), J97_4 x36 x37 S38 = some (zr, zS) → EV gC (d + 32) mX4_readTape 97 [some (.ref 13), some (.ref 1), none, none, some (.int x36), some (.int x37)] [] S38 (rx_pi zr zS) := by
          intro x36 x37 S38 h
          subst eJ97_4
          refine ev_iload 99 dX4_readTape_97 rfl rfl ?_
          refine ev_if_eq 115 102 dX4_readTape_99 rfl rfl (fun c39 => ?_) (fun c39 => ?_)
          · replace h := rx_if_t c39 h
            refine ev_iconst (v := 0) 116 dX4_readTape_115 (by decide) rfl ?_
            refine ev_istore_n (ls' := [some (.ref 13), some (.ref 1), none, some (.int 0), some (.int x36), some (.int x37)]) 117 dX4_readTape_116 rfl (Nat.le_of_ble_eq_true rfl) rfl rfl ?_
            obtain ⟨x40, ex40, h⟩ := rx_let_o h
            refine ev_iinc (v := x40) (ls' := [some (.ref 13), some (.ref 1), none, some (.int 0), some (.int x40), some (.int x37)]) 120 dX4_readTape_117 rfl (by rw [ex40]; rfl) (Nat.le_of_ble_eq_true rfl) rfl rfl ?_
            refine ev_goto 46 dX4_readTape_120 rfl ?_
            exact (ih _ _ _ h).fewer (rx_le_s (rx_le_s (rx_le_n (rx_le_s (rx_le_s (rx_le_n rx_le_0))))))
          · replace h := rx_if_f c39 h
            refine ev_aload_n (i := 0) 103 dX4_readTape_102 rfl rfl rfl ?_
            refine ev_iload 105 dX4_readTape_103 rfl rfl ?_
            obtain ⟨x42, S41, g43, h⟩ := rx_bd_o h
            refine ev_cVi1 108 dX4_readTape_105 (em_X4_readFact g43) mm_X4_readFact mv_X4_readFact lk_4_64 dk_13 (by decide) rfl (Nat.le_of_ble_eq_true rfl) (Nat.le_of_ble_eq_true rfl) rfl ?_
            refine ev_if_eq 115 111 dX4_readTape_108 rfl rfl (fun c44 => ?_) (fun c44 => ?_)
            · replace h := rx_if_t c44 h
              refine ev_iconst (v := 0) 116 dX4_readTape_115 (by decide) rfl ?_
              refine ev_istore_n (ls' := [some (.ref 13), some (.ref 1), none, some (.int 0), some (.int x36), some (.int x37)]) 117 dX4_readTape_116 rfl (Nat.le_of_ble_eq_true rfl) rfl rfl ?_
              obtain ⟨x45, ex45, h⟩ := rx_let_o h
              refine ev_iinc (v := x45) (ls' := [some (.ref 13), some (.ref 1), none, some (.int 0), some (.int x45), some (.int x37)]) 120 dX4_readTape_117 rfl (by rw [ex45]; rfl) (Nat.le_of_ble_eq_true rfl) rfl rfl ?_
              refine ev_goto 46 dX4_readTape_120 rfl ?_
              exact (ih _ _ _ h).fewer (rx_le_s (rx_le_s (rx_le_n (rx_le_s (rx_le_s (rx_le_n rx_le_0))))))
            · replace h := rx_if_f c44 h
              refine ev_iconst (v := 1) 112 dX4_readTape_111 (by decide) rfl ?_
              refine ev_goto 116 dX4_readTape_112 rfl ?_
              refine ev_istore_n (ls' := [some (.ref 13), some (.ref 1), none, some (.int 1), some (.int x36), some (.int x37)]) 117 dX4_readTape_116 rfl (Nat.le_of_ble_eq_true rfl) rfl rfl ?_
              obtain ⟨x46, ex46, h⟩ := rx_let_o h
              refine ev_iinc (v := x46) (ls' := [some (.ref 13), some (.ref 1), none, some (.int 1), some (.int x46), some (.int x37)]) 120 dX4_readTape_117 rfl (by rw [ex46]; rfl) (Nat.le_of_ble_eq_true rfl) rfl rfl ?_
              refine ev_goto 46 dX4_readTape_120 rfl ?_
              exact (ih _ _ _ h).fewer (rx_le_s (rx_le_s (rx_le_n (rx_le_s (rx_le_s (rx_le_n rx_le_0))))))
        refine ev_icmp_lt 97 79 dX4_readTape_76 rfl rfl (fun c47 => ?_) (fun c47 => ?_)
        · replace h := rx_if_t c47 h
          exact (hJ97_4 _ _ _ h).fewer (rx_le_s (rx_le_s (rx_le_n (rx_le_n (rx_le_s (rx_le_s rx_le_0))))))
        · replace h := rx_if_f c47 h
          refine ev_iload 81 dX4_readTape_79 rfl rfl ?_
          refine ev_sipush (v := 138) 84 dX4_readTape_81 (by decide) rfl ?_
          refine ev_icmp_ge 97 87 dX4_readTape_84 rfl rfl (fun c48 => ?_) (fun c48 => ?_)
          · replace h := rx_if_t c48 h
            exact (hJ97_4 _ _ _ h).fewer (rx_le_s (rx_le_s (rx_le_n (rx_le_n (rx_le_s (rx_le_s rx_le_0))))))
          · replace h := rx_if_f c48 h
            refine ev_aload_n (i := 0) 88 dX4_readTape_87 rfl rfl rfl ?_
            refine ev_iload 90 dX4_readTape_88 rfl rfl ?_
            obtain ⟨x50, S49, g51, h⟩ := rx_bd_o h
            refine ev_cVi1 93 dX4_readTape_90 (em_X4_readLaw g51) mm_X4_readLaw mv_X4_readLaw lk_4_60 dk_13 (by decide) rfl (Nat.le_of_ble_eq_true rfl) (Nat.le_of_ble_eq_true rfl) rfl ?_
            refine ev_istore_n (ls' := [some (.ref 13), some (.ref 1), none, some (.int x50), some (.int x28), some (.int x34)]) 94 dX4_readTape_93 rfl (Nat.le_of_ble_eq_true rfl) rfl rfl ?_
            refine ev_goto 117 dX4_readTape_94 rfl ?_
            obtain ⟨x52, ex52, h⟩ := rx_let_o h
            refine ev_iinc (v := x52) (ls' := [some (.ref 13), some (.ref 1), none, some (.int x50), some (.int x52), some (.int x34)]) 120 dX4_readTape_117 rfl (by rw [ex52]; rfl) (Nat.le_of_ble_eq_true rfl) rfl rfl ?_
            refine ev_goto 46 dX4_readTape_120 rfl ?_
            exact (ih _ _ _ h).fewer (rx_le_s (rx_le_s (rx_le_n (rx_le_s (rx_le_s (rx_le_n rx_le_0))))))

set_option maxHeartbeats 4000000 in
set_option maxRecDepth 20000 in
theorem em_X4_readTape {d N : Nat} {x2 : Int32} {S0 : rx_S} {zr : Int32} {zS : rx_S} (h : f_X4_readTape N x2 S0 = some (zr, zS)) : EM gC (d + 32) mX4_readTape [.ref 13, .ref 1, .int x2] S0 (rx_pi zr zS) := by
  unfold f_X4_readTape at h
  show EV gC (d + 32) mX4_readTape 0 [some (.ref 13), some (.ref 1), some (.int x2), none, none, none] [] S0 (rx_pi zr zS)
  refine ev_aload_n (i := 0) 1 dX4_readTape_0 rfl rfl rfl ?_
  refine ev_get (v := .ref 14) 4 dX4_readTape_1 dk_13 fl_4_12 (by decide) rfl rfl rfl ?_
  refine ev_aload_n (i := 1) 5 dX4_readTape_4 rfl rfl rfl ?_
  refine ev_iload_n (i := 2) 6 dX4_readTape_5 rfl rfl rfl ?_
  obtain ⟨x5, S4, g6, h⟩ := rx_bd_o h
  refine ev_cVv2 9 dX4_readTape_6 (em_X9_cut g6) mm_X9_cut mv_X9_cut lk_4_33 dk_14 (by decide) rfl (Nat.le_of_ble_eq_true rfl) (Nat.le_of_ble_eq_true rfl) rfl ?_
  refine ev_aload_n (i := 0) 10 dX4_readTape_9 rfl rfl rfl ?_
  refine ev_get (v := .ref 19) 13 dX4_readTape_10 dk_13 fl_4_21 (by decide) rfl rfl rfl ?_
  obtain ⟨x8, S7, g9, h⟩ := rx_bd_o h
  refine ev_cVv0 16 dX4_readTape_13 (em_X8_clear_19 g9) mm_X8_clear mv_X8_clear lk_4_37 dk_19 (by decide) rfl (Nat.le_of_ble_eq_true rfl) (Nat.le_of_ble_eq_true rfl) rfl ?_
  refine ev_aload_n (i := 0) 17 dX4_readTape_16 rfl rfl rfl ?_
  refine ev_iconst (v := 0) 18 dX4_readTape_17 (by decide) rfl ?_
  obtain ⟨S10, eS10, h⟩ := rx_let_o h
  refine ex_put 21 dX4_readTape_18 dk_13 fl_4_40 pp_4_4 (by decide) rfl rfl rfl rfl eS10 ?_
  refine ev_aload_n (i := 0) 22 dX4_readTape_21 rfl rfl rfl ?_
  refine ev_iconst (v := 0) 23 dX4_readTape_22 (by decide) rfl ?_
  obtain ⟨S11, eS11, h⟩ := rx_let_o h
  refine ex_put 26 dX4_readTape_23 dk_13 fl_4_44 pp_4_5 (by decide) rfl rfl rfl rfl eS11 ?_
  refine ev_aload_n (i := 0) 27 dX4_readTape_26 rfl rfl rfl ?_
  refine ev_iconst (v := 0) 28 dX4_readTape_27 (by decide) rfl ?_
  obtain ⟨S12, eS12, h⟩ := rx_let_o h
  refine ex_put 31 dX4_readTape_28 dk_13 fl_4_47 pp_4_6 (by decide) rfl rfl rfl rfl eS12 ?_
  refine ev_aload_n (i := 0) 32 dX4_readTape_31 rfl rfl rfl ?_
  refine ev_iconst (v := 0) 33 dX4_readTape_32 (by decide) rfl ?_
  obtain ⟨S13, eS13, h⟩ := rx_let_o h
  refine ex_put 36 dX4_readTape_33 dk_13 fl_4_50 pp_4_8 (by decide) rfl rfl rfl rfl eS13 ?_
  refine ev_aload_n (i := 0) 37 dX4_readTape_36 rfl rfl rfl ?_
  refine ev_iconst (v := (-1)) 38 dX4_readTape_37 (by decide) rfl ?_
  obtain ⟨S14, eS14, h⟩ := rx_let_o h
  refine ex_put 41 dX4_readTape_38 dk_13 fl_4_53 pp_4_9 (by decide) rfl rfl rfl rfl eS14 ?_
  refine ev_iconst (v := 1) 42 dX4_readTape_41 (by decide) rfl ?_
  refine ev_istore_n (ls' := [some (.ref 13), some (.ref 1), some (.int x2), some (.int 1), none, none]) 43 dX4_readTape_42 rfl (Nat.le_of_ble_eq_true rfl) rfl rfl ?_
  refine ev_iconst (v := 0) 44 dX4_readTape_43 (by decide) rfl ?_
  refine ev_istore (ls' := [some (.ref 13), some (.ref 1), some (.int x2), some (.int 1), some (.int 0), none]) 46 dX4_readTape_44 (Nat.le_of_ble_eq_true rfl) rfl rfl ?_
  obtain ⟨J123_1, eJ123_1, h⟩ := rx_let_o h
  have hJ123_1 : ∀ (S15 : rx_S), J123_1 S15 = some (zr, zS) → EV gC (d + 32) mX4_readTape 123 [some (.ref 13), some (.ref 1), none, none, none, none] [] S15 (rx_pi zr zS) := by
    intro S15 h
    subst eJ123_1
    refine ev_aload_n (i := 0) 124 dX4_readTape_123 rfl rfl rfl ?_
    refine ev_aload_n (i := 0) 125 dX4_readTape_124 rfl rfl rfl ?_
    refine ev_get (v := .int (S15.1 13 6)) 128 dX4_readTape_125 dk_13 fl_4_47 (by decide) rfl rfl rfl ?_
    obtain ⟨J149_2, eJ149_2, h⟩ := rx_let_o h
    have hJ149_2 : ∀ (x16 : Int32) (S17 : rx_S), J149_2 x16 S17 = some (zr, zS) → EV gC (d + 32) mX4_readTape 149 [some (.ref 13), some (.ref 1), none, none, none, none] [.int x16, .ref 13] S17 (rx_pi zr zS) := by
      intro x16 S17 h
      subst eJ149_2
      obtain ⟨S18, eS18, h⟩ := rx_let_o h
      refine ex_put 152 dX4_readTape_149 dk_13 fl_4_70 pp_4_7 (by decide) rfl rfl rfl rfl eS18 ?_
      refine ev_aload_n (i := 0) 153 dX4_readTape_152 rfl rfl rfl ?_
      refine ev_aload_n (i := 0) 154 dX4_readTape_153 rfl rfl rfl ?_
      refine ev_get (v := .int (S18.1 13 6)) 157 dX4_readTape_154 dk_13 fl_4_47 (by decide) rfl rfl rfl ?_
      obtain ⟨J171_3, eJ171_3, h⟩ := rx_let_o h
      have hJ171_3 : ∀ (x19 : Int32) (S20 : rx_S), J171_3 x19 S20 = some (zr, zS) → EV gC (d + 32) mX4_readTape 171 [some (.ref 13), some (.ref 1), none, none, none, none] [.int x19, .ref 13] S20 (rx_pi zr zS) := by
        intro x19 S20 h
        subst eJ171_3
        obtain ⟨S21, eS21, h⟩ := rx_let_o h
        refine ex_put 174 dX4_readTape_171 dk_13 fl_4_47 pp_4_6 (by decide) rfl rfl rfl rfl eS21 ?_
        refine ev_aload_n (i := 0) 175 dX4_readTape_174 rfl rfl rfl ?_
        refine ev_get (v := .int (S21.1 13 6)) 178 dX4_readTape_175 dk_13 fl_4_47 (by decide) rfl rfl rfl ?_
        exact ev_ireturn dX4_readTape_178 rfl (rx_ret_i h)
      refine ev_if_ne 167 160 dX4_readTape_157 rfl rfl (fun c22 => ?_) (fun c22 => ?_)
      · replace h := rx_if_f c22 h
        refine ev_aload_n (i := 0) 168 dX4_readTape_167 rfl rfl rfl ?_
        refine ev_get (v := .int (S18.1 13 6)) 171 dX4_readTape_168 dk_13 fl_4_47 (by decide) rfl rfl rfl ?_
        exact (hJ171_3 _ _ h).fewer (rx_le_s (rx_le_s (rx_le_n (rx_le_n (rx_le_n (rx_le_n rx_le_0))))))
      · replace h := rx_if_t c22 h
        refine ev_aload_n (i := 0) 161 dX4_readTape_160 rfl rfl rfl ?_
        refine ev_get (v := .int (S18.1 13 8)) 164 dX4_readTape_161 dk_13 fl_4_50 (by decide) rfl rfl rfl ?_
        refine ev_goto 171 dX4_readTape_164 rfl ?_
        exact (hJ171_3 _ _ h).fewer (rx_le_s (rx_le_s (rx_le_n (rx_le_n (rx_le_n (rx_le_n rx_le_0))))))
    refine ev_if_ne 138 131 dX4_readTape_128 rfl rfl (fun c23 => ?_) (fun c23 => ?_)
    · replace h := rx_if_f c23 h
      refine ev_aload_n (i := 0) 139 dX4_readTape_138 rfl rfl rfl ?_
      refine ev_get (v := .ref 14) 142 dX4_readTape_139 dk_13 fl_4_12 (by decide) rfl rfl rfl ?_
      refine ev_aload_n (i := 0) 143 dX4_readTape_142 rfl rfl rfl ?_
      refine ev_get (v := .int (S15.1 13 5)) 146 dX4_readTape_143 dk_13 fl_4_44 (by decide) rfl rfl rfl ?_
      obtain ⟨x25, S24, g26, h⟩ := rx_bd_o h
      refine ev_cVi1 149 dX4_readTape_146 (em_X9_placeOf g26) mm_X9_placeOf mv_X9_placeOf lk_4_67 dk_14 (by decide) rfl (Nat.le_of_ble_eq_true rfl) (Nat.le_of_ble_eq_true rfl) rfl ?_
      exact (hJ149_2 _ _ h).fewer (rx_le_s (rx_le_s (rx_le_n (rx_le_n (rx_le_n (rx_le_n rx_le_0))))))
    · replace h := rx_if_t c23 h
      refine ev_aload_n (i := 0) 132 dX4_readTape_131 rfl rfl rfl ?_
      refine ev_get (v := .int (S15.1 13 9)) 135 dX4_readTape_132 dk_13 fl_4_53 (by decide) rfl rfl rfl ?_
      refine ev_goto 149 dX4_readTape_135 rfl ?_
      exact (hJ149_2 _ _ h).fewer (rx_le_s (rx_le_s (rx_le_n (rx_le_n (rx_le_n (rx_le_n rx_le_0))))))
  exact (em_X4_readTape_L46 hJ123_1 _ _ _ _ h).fewer (rx_le_s (rx_le_s (rx_le_n (rx_le_s (rx_le_s (rx_le_n rx_le_0))))))

def f_X5_isRow (N : Nat) (x0 : Int32) (S0 : rx_S) : Option (Int32 × rx_S) := rx_bd (f_X5_size N x0 S0) (fun x3 S2 => if x3 = (-1) then (some (0, S2)) else (some (1, S2)))
set_option maxHeartbeats 4000000 in
set_option maxRecDepth 20000 in
theorem em_X5_isRow {G : Nat × Nat} {d N : Nat} {x0 : Int32} {S0 : rx_S} {zr : Int32} {zS : rx_S} (h : f_X5_isRow N x0 S0 = some (zr, zS)) : EM G (d + 1) mX5_isRow [.int x0] S0 (rx_pi zr zS) := by
  unfold f_X5_isRow at h
  show EV G (d + 1) mX5_isRow 0 [some (.int x0)] [] S0 (rx_pi zr zS)
  refine ev_iload_n (i := 0) 1 dX5_isRow_0 rfl rfl rfl ?_
  obtain ⟨x3, S2, g4, h⟩ := rx_bd_o h
  refine ev_cSi1 4 dX5_isRow_1 (em_X5_size g4) mm_X5_size ms_X5_size lk_5_15 (Nat.le_of_ble_eq_true rfl) (Nat.le_of_ble_eq_true rfl) rfl ?_
  refine ev_iconst (v := (-1)) 5 dX5_isRow_4 (by decide) rfl ?_
  refine ev_icmp_eq 12 8 dX5_isRow_5 rfl rfl (fun c5 => ?_) (fun c5 => ?_)
  · replace h := rx_if_t c5 h
    refine ev_iconst (v := 0) 13 dX5_isRow_12 (by decide) rfl ?_
    exact ev_zreturn dX5_isRow_13 rfl (by decide) (rx_ret_i h)
  · replace h := rx_if_f c5 h
    refine ev_iconst (v := 1) 9 dX5_isRow_8 (by decide) rfl ?_
    refine ev_goto 13 dX5_isRow_9 rfl ?_
    exact ev_zreturn dX5_isRow_13 rfl (by decide) (rx_ret_i h)

def f_X5_goDown_L18 (N : Nat) : Nat → Int32 → Int32 → Int32 → Int32 → Int32 → rx_S → Option (Unit × rx_S)
  | 0, _, _, _, _, _, _ => none
  | n + 1, x8, x9, x10, x11, x12, S13 => if x10 < x12 then (some ((), S13)) else (if (6 : Int32) ≤ x12 then (some ((), S13)) else (rx_bd (f_X5_wordAt x9 x10 (x12 - 1) S13) (fun x17 S16 => rx_let (fun (x19 : Int32) (x20 : Int32) (x21 : Int32) (x22 : Int32) (x23 : Int32) (x24 : Int32) (S25 : rx_S) => rx_let (x23 + x24) (fun x26 => rx_gd x22 6 (rx_let (S25.1 83 (Int32.toNatClampNeg x22)) (fun x28 => rx_gd x22 6 (rx_gd (x22 - 1) 6 (rx_gd x22 6 (rx_let (rx_ui S25 83 (Int32.toNatClampNeg x22) (if ((1 : Int32) + (if (S25.1 83 (Int32.toNatClampNeg (x22 - 1))) < (S25.1 83 (Int32.toNatClampNeg x22)) then (S25.1 83 (Int32.toNatClampNeg (x22 - 1))) else (S25.1 83 (Int32.toNatClampNeg x22)))) < x26 then ((1 : Int32) + (if (S25.1 83 (Int32.toNatClampNeg (x22 - 1))) < (S25.1 83 (Int32.toNatClampNeg x22)) then (S25.1 83 (Int32.toNatClampNeg (x22 - 1))) else (S25.1 83 (Int32.toNatClampNeg x22)))) else x26)) (fun S32 => rx_let (x22 + 1) (fun x33 => f_X5_goDown_L18 N n x19 x20 x21 x28 x33 S32))))))))) (fun J56_1 => if x17 = x8 then (J56_1 x8 x9 x10 x12 x11 0 S16) else (J56_1 x8 x9 x10 x12 x11 1 S16)))))
def f_X5_goDown (N : Nat) (x1 : Int32) (x2 : Int32) (x3 : Int32) (x4 : Int32) (S0 : rx_S) : Option (Unit × rx_S) := rx_let (S0.1 83 0) (fun x6 => rx_let (rx_ui S0 83 0 x1) (fun S7 => f_X5_goDown_L18 N N x2 x3 x4 x6 1 S7))
set_option maxHeartbeats 4000000 in
set_option maxRecDepth 20000 in
theorem em_X5_goDown_L18 {d N : Nat} {zr : Unit} {zS : rx_S} : ∀ (n : Nat) (x8 : Int32) (x9 : Int32) (x10 : Int32) (x11 : Int32) (x12 : Int32) (S13 : rx_S), f_X5_goDown_L18 N n x8 x9 x10 x11 x12 S13 = some (zr, zS) → EV gC (d + 1) mX5_goDown 18 [some (.ref 82), none, some (.int x8), some (.int x9), some (.int x10), some (.int x11), some (.int x12), none] [] S13 (rx_pv zS) := by
  intro n
  induction n with
  | zero => intro x8 x9 x10 x11 x12 S13 h; cases h
  | succ n ih =>
    intro x8 x9 x10 x11 x12 S13 h
    rw [f_X5_goDown_L18] at h
    refine ev_iload 20 dX5_goDown_18 rfl rfl ?_
    refine ev_iload 22 dX5_goDown_20 rfl rfl ?_
    refine ev_icmp_gt 107 25 dX5_goDown_22 rfl rfl (fun c14 => ?_) (fun c14 => ?_)
    · replace h := rx_if_t c14 h
      exact ev_return dX5_goDown_107 rfl (rx_ret_v h)
    · replace h := rx_if_f c14 h
      refine ev_iload 27 dX5_goDown_25 rfl rfl ?_
      refine ev_aload_n (i := 0) 28 dX5_goDown_27 rfl rfl rfl ?_
      refine ev_get (v := .ref 83) 31 dX5_goDown_28 dk_82 fl_5_9 (by decide) rfl rfl rfl ?_
      refine ev_alen (v := 6) 32 dX5_goDown_31 dk_83 (by decide) (by decide) rfl ?_
      refine ev_icmp_ge 107 35 dX5_goDown_32 rfl rfl (fun c15 => ?_) (fun c15 => ?_)
      · replace h := rx_if_t c15 h
        exact ev_return dX5_goDown_107 rfl (rx_ret_v h)
      · replace h := rx_if_f c15 h
        refine ev_iload 37 dX5_goDown_35 rfl rfl ?_
        refine ev_iload_n (i := 3) 38 dX5_goDown_37 rfl rfl rfl ?_
        refine ev_iload 40 dX5_goDown_38 rfl rfl ?_
        refine ev_iload 42 dX5_goDown_40 rfl rfl ?_
        refine ev_iconst (v := 1) 43 dX5_goDown_42 (by decide) rfl ?_
        refine ev_isub 44 dX5_goDown_43 rfl ?_
        obtain ⟨x17, S16, g18, h⟩ := rx_bd_o h
        refine ev_cSi3 47 dX5_goDown_44 (em_X5_wordAt g18) mm_X5_wordAt ms_X5_wordAt lk_5_19 (Nat.le_of_ble_eq_true rfl) (Nat.le_of_ble_eq_true rfl) rfl ?_
        refine ev_iload_n (i := 2) 48 dX5_goDown_47 rfl rfl rfl ?_
        obtain ⟨J56_1, eJ56_1, h⟩ := rx_let_o h
        have hJ56_1 : ∀ (x19 : Int32) (x20 : Int32) (x21 : Int32) (x22 : Int32) (x23 : Int32) (x24 : Int32) (S25 : rx_S), J56_1 x19 x20 x21 x22 x23 x24 S25 = some (zr, zS) → EV gC (d + 1) mX5_goDown 56 [some (.ref 82), none, some (.int x19), some (.int x20), some (.int x21), none, some (.int x22), none] [.int x24, .int x23] S25 (rx_pv zS) := by
          intro x19 x20 x21 x22 x23 x24 S25 h
          subst eJ56_1
          refine ev_iadd 57 dX5_goDown_56 rfl ?_
          obtain ⟨x26, ex26, h⟩ := rx_let_o h
          refine ev_nm ex26 ?_
          refine ev_istore (ls' := [some (.ref 82), none, some (.int x19), some (.int x20), some (.int x21), none, some (.int x22), some (.int x26)]) 59 dX5_goDown_57 (Nat.le_of_ble_eq_true rfl) rfl rfl ?_
          refine ev_aload_n (i := 0) 60 dX5_goDown_59 rfl rfl rfl ?_
          refine ev_get (v := .ref 83) 63 dX5_goDown_60 dk_82 fl_5_9 (by decide) rfl rfl rfl ?_
          refine ev_iload 65 dX5_goDown_63 rfl rfl ?_
          obtain ⟨g27, h⟩ := rx_gd_o h
          refine ex_iald _ 66 dX5_goDown_65 dk_83 g27 rfl rfl ?_
          obtain ⟨x28, ex28, h⟩ := rx_let_o h
          refine ev_nm ex28 ?_
          refine ev_istore (ls' := [some (.ref 82), none, some (.int x19), some (.int x20), some (.int x21), some (.int x28), some (.int x22), some (.int x26)]) 68 dX5_goDown_66 (Nat.le_of_ble_eq_true rfl) rfl rfl ?_
          refine ev_aload_n (i := 0) 69 dX5_goDown_68 rfl rfl rfl ?_
          refine ev_get (v := .ref 83) 72 dX5_goDown_69 dk_82 fl_5_9 (by decide) rfl rfl rfl ?_
          refine ev_iload 74 dX5_goDown_72 rfl rfl ?_
          refine ev_iload 76 dX5_goDown_74 rfl rfl ?_
          refine ev_iconst (v := 1) 77 dX5_goDown_76 (by decide) rfl ?_
          refine ev_aload_n (i := 0) 78 dX5_goDown_77 rfl rfl rfl ?_
          refine ev_get (v := .ref 83) 81 dX5_goDown_78 dk_82 fl_5_9 (by decide) rfl rfl rfl ?_
          refine ev_iload 83 dX5_goDown_81 rfl rfl ?_
          obtain ⟨g29, h⟩ := rx_gd_o h
          refine ex_iald _ 84 dX5_goDown_83 dk_83 g29 rfl rfl ?_
          refine ev_aload_n (i := 0) 85 dX5_goDown_84 rfl rfl rfl ?_
          refine ev_get (v := .ref 83) 88 dX5_goDown_85 dk_82 fl_5_9 (by decide) rfl rfl rfl ?_
          refine ev_iload 90 dX5_goDown_88 rfl rfl ?_
          refine ev_iconst (v := 1) 91 dX5_goDown_90 (by decide) rfl ?_
          refine ev_isub 92 dX5_goDown_91 rfl ?_
          obtain ⟨g30, h⟩ := rx_gd_o h
          refine ex_iald _ 93 dX5_goDown_92 dk_83 g30 rfl rfl ?_
          refine ev_min 96 dX5_goDown_93 lk_5_27 w_min (Nat.le_of_ble_eq_true rfl) rfl ?_
          refine ev_iadd 97 dX5_goDown_96 rfl ?_
          refine ev_min 100 dX5_goDown_97 lk_5_27 w_min (Nat.le_of_ble_eq_true rfl) rfl ?_
          obtain ⟨g31, h⟩ := rx_gd_o h
          obtain ⟨S32, eS32, h⟩ := rx_let_o h
          refine ex_iast _ 101 dX5_goDown_100 dk_83 g31 rfl rfl eS32 ?_
          obtain ⟨x33, ex33, h⟩ := rx_let_o h
          refine ev_iinc (v := x33) (ls' := [some (.ref 82), none, some (.int x19), some (.int x20), some (.int x21), some (.int x28), some (.int x33), some (.int x26)]) 104 dX5_goDown_101 rfl (by rw [ex33]; rfl) (Nat.le_of_ble_eq_true rfl) rfl rfl ?_
          refine ev_goto 18 dX5_goDown_104 rfl ?_
          exact (ih _ _ _ _ _ _ h).fewer (rx_le_s (rx_le_n (rx_le_s (rx_le_s (rx_le_s (rx_le_s (rx_le_s (rx_le_n rx_le_0))))))))
        refine ev_icmp_ne 55 51 dX5_goDown_48 rfl rfl (fun c34 => ?_) (fun c34 => ?_)
        · replace h := rx_if_f c34 h
          refine ev_iconst (v := 1) 56 dX5_goDown_55 (by decide) rfl ?_
          exact (hJ56_1 _ _ _ _ _ _ _ h).fewer (rx_le_s (rx_le_n (rx_le_s (rx_le_s (rx_le_s (rx_le_n (rx_le_s (rx_le_n rx_le_0))))))))
        · replace h := rx_if_t c34 h
          refine ev_iconst (v := 0) 52 dX5_goDown_51 (by decide) rfl ?_
          refine ev_goto 56 dX5_goDown_52 rfl ?_
          exact (hJ56_1 _ _ _ _ _ _ _ h).fewer (rx_le_s (rx_le_n (rx_le_s (rx_le_s (rx_le_s (rx_le_n (rx_le_s (rx_le_n rx_le_0))))))))

set_option maxHeartbeats 4000000 in
set_option maxRecDepth 20000 in
theorem em_X5_goDown {d N : Nat} {x1 : Int32} {x2 : Int32} {x3 : Int32} {x4 : Int32} {S0 : rx_S} {zr : Unit} {zS : rx_S} (h : f_X5_goDown N x1 x2 x3 x4 S0 = some (zr, zS)) : EM gC (d + 1) mX5_goDown [.ref 82, .int x1, .int x2, .int x3, .int x4] S0 (rx_pv zS) := by
  unfold f_X5_goDown at h
  show EV gC (d + 1) mX5_goDown 0 [some (.ref 82), some (.int x1), some (.int x2), some (.int x3), some (.int x4), none, none, none] [] S0 (rx_pv zS)
  refine ev_aload_n (i := 0) 1 dX5_goDown_0 rfl rfl rfl ?_
  refine ev_get (v := .ref 83) 4 dX5_goDown_1 dk_82 fl_5_9 (by decide) rfl rfl rfl ?_
  refine ev_iconst (v := 0) 5 dX5_goDown_4 (by decide) rfl ?_
  refine ex_iald 0 6 dX5_goDown_5 dk_83 (rx_vin (by decide)) (by decide) rfl ?_
  obtain ⟨x6, ex6, h⟩ := rx_let_o h
  refine ev_nm ex6 ?_
  refine ev_istore (ls' := [some (.ref 82), some (.int x1), some (.int x2), some (.int x3), some (.int x4), some (.int x6), none, none]) 8 dX5_goDown_6 (Nat.le_of_ble_eq_true rfl) rfl rfl ?_
  refine ev_aload_n (i := 0) 9 dX5_goDown_8 rfl rfl rfl ?_
  refine ev_get (v := .ref 83) 12 dX5_goDown_9 dk_82 fl_5_9 (by decide) rfl rfl rfl ?_
  refine ev_iconst (v := 0) 13 dX5_goDown_12 (by decide) rfl ?_
  refine ev_iload_n (i := 1) 14 dX5_goDown_13 rfl rfl rfl ?_
  obtain ⟨S7, eS7, h⟩ := rx_let_o h
  refine ex_iast 0 15 dX5_goDown_14 dk_83 (rx_vin (by decide)) (by decide) rfl eS7 ?_
  refine ev_iconst (v := 1) 16 dX5_goDown_15 (by decide) rfl ?_
  refine ev_istore (ls' := [some (.ref 82), some (.int x1), some (.int x2), some (.int x3), some (.int x4), some (.int x6), some (.int 1), none]) 18 dX5_goDown_16 (Nat.le_of_ble_eq_true rfl) rfl rfl ?_
  exact (em_X5_goDown_L18 _ _ _ _ _ _ _ h).fewer (rx_le_s (rx_le_n (rx_le_s (rx_le_s (rx_le_s (rx_le_s (rx_le_s (rx_le_n rx_le_0))))))))

def f_X5_changes_L62 (N : Nat) (K92 : Int32 → rx_S → Option (Int32 × rx_S)) : Nat → Int32 → Int32 → Int32 → Int32 → Int32 → rx_S → Option (Int32 × rx_S)
  | 0, _, _, _, _, _, _ => none
  | n + 1, x21, x22, x23, x24, x25, S26 => if x23 < x25 then (K92 x24 S26) else (rx_bd (f_X5_wordAt x21 x23 (x25 - 1) S26) (fun x31 S30 => rx_bd (f_X5_goDown N x25 x31 x22 x24 S30) (fun x34 S33 => rx_let (x25 + 1) (fun x36 => f_X5_changes_L62 N K92 n x21 x22 x23 x24 x36 S33))))
def f_X5_changes_L27 (N : Nat) (K59 : Int32 → Int32 → Int32 → Int32 → rx_S → Option (Int32 × rx_S)) : Nat → Int32 → Int32 → Int32 → Int32 → Int32 → rx_S → Option (Int32 × rx_S)
  | 0, _, _, _, _, _, _ => none
  | n + 1, x37, x38, x39, x40, x41, S42 => if x40 < x41 then (K59 x37 x38 x39 x40 S42) else (if (6 : Int32) ≤ x41 then (K59 x37 x38 x39 x40 S42) else (rx_gd x41 6 (rx_let (rx_ui S42 83 (Int32.toNatClampNeg x41) x41) (fun S51 => rx_let (x41 + 1) (fun x52 => f_X5_changes_L27 N K59 n x37 x38 x39 x40 x52 S51)))))
def f_X5_changes (N : Nat) (x1 : Int32) (x2 : Int32) (S0 : rx_S) : Option (Int32 × rx_S) := rx_bd (f_X5_size N x1 S0) (fun x5 S4 => rx_bd (f_X5_size N x2 S4) (fun x8 S7 => if x5 = (-1) then (some ((-1), S7)) else (if x8 = (-1) then (some ((-1), S7)) else (rx_let (fun (x12 : Int32) (x13 : Int32) (x14 : Int32) (x15 : Int32) (S16 : rx_S) => rx_let (fun (x17 : Int32) (S18 : rx_S) => if (6 : Int32) ≤ x17 then (some ((-1), S18)) else (rx_gd x17 6 (some ((S18.1 83 (Int32.toNatClampNeg x17)), S18)))) (fun J92_2 => f_X5_changes_L62 N J92_2 N x12 x13 x14 x15 1 S16)) (fun J59_1 => f_X5_changes_L27 N J59_1 N x1 x2 x5 x8 0 S7)))))
set_option maxHeartbeats 4000000 in
set_option maxRecDepth 20000 in
theorem em_X5_changes_L62 {d N : Nat} {K92 : Int32 → rx_S → Option (Int32 × rx_S)} {zr : Int32} {zS : rx_S} (hK92 : ∀ (x27 : Int32) (S28 : rx_S), K92 x27 S28 = some (zr, zS) → EV gC (d + 2) mX5_changes 92 [some (.ref 82), none, none, none, some (.int x27), none] [] S28 (rx_pi zr zS)) : ∀ (n : Nat) (x21 : Int32) (x22 : Int32) (x23 : Int32) (x24 : Int32) (x25 : Int32) (S26 : rx_S), f_X5_changes_L62 N K92 n x21 x22 x23 x24 x25 S26 = some (zr, zS) → EV gC (d + 2) mX5_changes 62 [some (.ref 82), some (.int x21), some (.int x22), some (.int x23), some (.int x24), some (.int x25)] [] S26 (rx_pi zr zS) := by
  intro n
  induction n with
  | zero => intro x21 x22 x23 x24 x25 S26 h; cases h
  | succ n ih =>
    intro x21 x22 x23 x24 x25 S26 h
    rw [f_X5_changes_L62] at h
    refine ev_iload 64 dX5_changes_62 rfl rfl ?_
    refine ev_iload_n (i := 3) 65 dX5_changes_64 rfl rfl rfl ?_
    refine ev_icmp_gt 92 68 dX5_changes_65 rfl rfl (fun c29 => ?_) (fun c29 => ?_)
    · replace h := rx_if_t c29 h
      exact (hK92 _ _ h).fewer (rx_le_s (rx_le_n (rx_le_n (rx_le_n (rx_le_s (rx_le_n rx_le_0))))))
    · replace h := rx_if_f c29 h
      refine ev_aload_n (i := 0) 69 dX5_changes_68 rfl rfl rfl ?_
      refine ev_iload 71 dX5_changes_69 rfl rfl ?_
      refine ev_iload_n (i := 1) 72 dX5_changes_71 rfl rfl rfl ?_
      refine ev_iload_n (i := 3) 73 dX5_changes_72 rfl rfl rfl ?_
      refine ev_iload 75 dX5_changes_73 rfl rfl ?_
      refine ev_iconst (v := 1) 76 dX5_changes_75 (by decide) rfl ?_
      refine ev_isub 77 dX5_changes_76 rfl ?_
      obtain ⟨x31, S30, g32, h⟩ := rx_bd_o h
      refine ev_cSi3 80 dX5_changes_77 (em_X5_wordAt g32) mm_X5_wordAt ms_X5_wordAt lk_5_19 (Nat.le_of_ble_eq_true rfl) (Nat.le_of_ble_eq_true rfl) rfl ?_
      refine ev_iload_n (i := 2) 81 dX5_changes_80 rfl rfl rfl ?_
      refine ev_iload 83 dX5_changes_81 rfl rfl ?_
      obtain ⟨x34, S33, g35, h⟩ := rx_bd_o h
      refine ev_cVv4 86 dX5_changes_83 (em_X5_goDown g35) mm_X5_goDown mv_X5_goDown lk_5_23 dk_82 (by decide) rfl (Nat.le_of_ble_eq_true rfl) (Nat.le_of_ble_eq_true rfl) rfl ?_
      obtain ⟨x36, ex36, h⟩ := rx_let_o h
      refine ev_iinc (v := x36) (ls' := [some (.ref 82), some (.int x21), some (.int x22), some (.int x23), some (.int x24), some (.int x36)]) 89 dX5_changes_86 rfl (by rw [ex36]; rfl) (Nat.le_of_ble_eq_true rfl) rfl rfl ?_
      refine ev_goto 62 dX5_changes_89 rfl ?_
      exact (ih _ _ _ _ _ _ h).fewer (rx_le_s (rx_le_s (rx_le_s (rx_le_s (rx_le_s (rx_le_s rx_le_0))))))

set_option maxHeartbeats 4000000 in
set_option maxRecDepth 20000 in
theorem em_X5_changes_L27 {d N : Nat} {K59 : Int32 → Int32 → Int32 → Int32 → rx_S → Option (Int32 × rx_S)} {zr : Int32} {zS : rx_S} (hK59 : ∀ (x43 : Int32) (x44 : Int32) (x45 : Int32) (x46 : Int32) (S47 : rx_S), K59 x43 x44 x45 x46 S47 = some (zr, zS) → EV gC (d + 2) mX5_changes 59 [some (.ref 82), some (.int x43), some (.int x44), some (.int x45), some (.int x46), none] [] S47 (rx_pi zr zS)) : ∀ (n : Nat) (x37 : Int32) (x38 : Int32) (x39 : Int32) (x40 : Int32) (x41 : Int32) (S42 : rx_S), f_X5_changes_L27 N K59 n x37 x38 x39 x40 x41 S42 = some (zr, zS) → EV gC (d + 2) mX5_changes 27 [some (.ref 82), some (.int x37), some (.int x38), some (.int x39), some (.int x40), some (.int x41)] [] S42 (rx_pi zr zS) := by
  intro n
  induction n with
  | zero => intro x37 x38 x39 x40 x41 S42 h; cases h
  | succ n ih =>
    intro x37 x38 x39 x40 x41 S42 h
    rw [f_X5_changes_L27] at h
    refine ev_iload 29 dX5_changes_27 rfl rfl ?_
    refine ev_iload 31 dX5_changes_29 rfl rfl ?_
    refine ev_icmp_gt 59 34 dX5_changes_31 rfl rfl (fun c48 => ?_) (fun c48 => ?_)
    · replace h := rx_if_t c48 h
      exact (hK59 _ _ _ _ _ h).fewer (rx_le_s (rx_le_s (rx_le_s (rx_le_s (rx_le_s (rx_le_n rx_le_0))))))
    · replace h := rx_if_f c48 h
      refine ev_iload 36 dX5_changes_34 rfl rfl ?_
      refine ev_aload_n (i := 0) 37 dX5_changes_36 rfl rfl rfl ?_
      refine ev_get (v := .ref 83) 40 dX5_changes_37 dk_82 fl_5_9 (by decide) rfl rfl rfl ?_
      refine ev_alen (v := 6) 41 dX5_changes_40 dk_83 (by decide) (by decide) rfl ?_
      refine ev_icmp_ge 59 44 dX5_changes_41 rfl rfl (fun c49 => ?_) (fun c49 => ?_)
      · replace h := rx_if_t c49 h
        exact (hK59 _ _ _ _ _ h).fewer (rx_le_s (rx_le_s (rx_le_s (rx_le_s (rx_le_s (rx_le_n rx_le_0))))))
      · replace h := rx_if_f c49 h
        refine ev_aload_n (i := 0) 45 dX5_changes_44 rfl rfl rfl ?_
        refine ev_get (v := .ref 83) 48 dX5_changes_45 dk_82 fl_5_9 (by decide) rfl rfl rfl ?_
        refine ev_iload 50 dX5_changes_48 rfl rfl ?_
        refine ev_iload 52 dX5_changes_50 rfl rfl ?_
        obtain ⟨g50, h⟩ := rx_gd_o h
        obtain ⟨S51, eS51, h⟩ := rx_let_o h
        refine ex_iast _ 53 dX5_changes_52 dk_83 g50 rfl rfl eS51 ?_
        obtain ⟨x52, ex52, h⟩ := rx_let_o h
        refine ev_iinc (v := x52) (ls' := [some (.ref 82), some (.int x37), some (.int x38), some (.int x39), some (.int x40), some (.int x52)]) 56 dX5_changes_53 rfl (by rw [ex52]; rfl) (Nat.le_of_ble_eq_true rfl) rfl rfl ?_
        refine ev_goto 27 dX5_changes_56 rfl ?_
        exact (ih _ _ _ _ _ _ h).fewer (rx_le_s (rx_le_s (rx_le_s (rx_le_s (rx_le_s (rx_le_s rx_le_0))))))

set_option maxHeartbeats 4000000 in
set_option maxRecDepth 20000 in
theorem em_X5_changes {d N : Nat} {x1 : Int32} {x2 : Int32} {S0 : rx_S} {zr : Int32} {zS : rx_S} (h : f_X5_changes N x1 x2 S0 = some (zr, zS)) : EM gC (d + 2) mX5_changes [.ref 82, .int x1, .int x2] S0 (rx_pi zr zS) := by
  unfold f_X5_changes at h
  show EV gC (d + 2) mX5_changes 0 [some (.ref 82), some (.int x1), some (.int x2), none, none, none] [] S0 (rx_pi zr zS)
  refine ev_iload_n (i := 1) 1 dX5_changes_0 rfl rfl rfl ?_
  obtain ⟨x5, S4, g6, h⟩ := rx_bd_o h
  refine ev_cSi1 4 dX5_changes_1 (em_X5_size g6) mm_X5_size ms_X5_size lk_5_15 (Nat.le_of_ble_eq_true rfl) (Nat.le_of_ble_eq_true rfl) rfl ?_
  refine ev_istore_n (ls' := [some (.ref 82), some (.int x1), some (.int x2), some (.int x5), none, none]) 5 dX5_changes_4 rfl (Nat.le_of_ble_eq_true rfl) rfl rfl ?_
  refine ev_iload_n (i := 2) 6 dX5_changes_5 rfl rfl rfl ?_
  obtain ⟨x8, S7, g9, h⟩ := rx_bd_o h
  refine ev_cSi1 9 dX5_changes_6 (em_X5_size g9) mm_X5_size ms_X5_size lk_5_15 (Nat.le_of_ble_eq_true rfl) (Nat.le_of_ble_eq_true rfl) rfl ?_
  refine ev_istore (ls' := [some (.ref 82), some (.int x1), some (.int x2), some (.int x5), some (.int x8), none]) 11 dX5_changes_9 (Nat.le_of_ble_eq_true rfl) rfl rfl ?_
  refine ev_iload_n (i := 3) 12 dX5_changes_11 rfl rfl rfl ?_
  refine ev_iconst (v := (-1)) 13 dX5_changes_12 (by decide) rfl ?_
  refine ev_icmp_eq 22 16 dX5_changes_13 rfl rfl (fun c10 => ?_) (fun c10 => ?_)
  · replace h := rx_if_t c10 h
    refine ev_iconst (v := (-1)) 23 dX5_changes_22 (by decide) rfl ?_
    exact ev_ireturn dX5_changes_23 rfl (rx_ret_i h)
  · replace h := rx_if_f c10 h
    refine ev_iload 18 dX5_changes_16 rfl rfl ?_
    refine ev_iconst (v := (-1)) 19 dX5_changes_18 (by decide) rfl ?_
    refine ev_icmp_ne 24 22 dX5_changes_19 rfl rfl (fun c11 => ?_) (fun c11 => ?_)
    · replace h := rx_if_f c11 h
      refine ev_iconst (v := 0) 25 dX5_changes_24 (by decide) rfl ?_
      refine ev_istore (ls' := [some (.ref 82), some (.int x1), some (.int x2), some (.int x5), some (.int x8), some (.int 0)]) 27 dX5_changes_25 (Nat.le_of_ble_eq_true rfl) rfl rfl ?_
      obtain ⟨J59_1, eJ59_1, h⟩ := rx_let_o h
      have hJ59_1 : ∀ (x12 : Int32) (x13 : Int32) (x14 : Int32) (x15 : Int32) (S16 : rx_S), J59_1 x12 x13 x14 x15 S16 = some (zr, zS) → EV gC (d + 2) mX5_changes 59 [some (.ref 82), some (.int x12), some (.int x13), some (.int x14), some (.int x15), none] [] S16 (rx_pi zr zS) := by
        intro x12 x13 x14 x15 S16 h
        subst eJ59_1
        refine ev_iconst (v := 1) 60 dX5_changes_59 (by decide) rfl ?_
        refine ev_istore (ls' := [some (.ref 82), some (.int x12), some (.int x13), some (.int x14), some (.int x15), some (.int 1)]) 62 dX5_changes_60 (Nat.le_of_ble_eq_true rfl) rfl rfl ?_
        obtain ⟨J92_2, eJ92_2, h⟩ := rx_let_o h
        have hJ92_2 : ∀ (x17 : Int32) (S18 : rx_S), J92_2 x17 S18 = some (zr, zS) → EV gC (d + 2) mX5_changes 92 [some (.ref 82), none, none, none, some (.int x17), none] [] S18 (rx_pi zr zS) := by
          intro x17 S18 h
          subst eJ92_2
          refine ev_iload 94 dX5_changes_92 rfl rfl ?_
          refine ev_aload_n (i := 0) 95 dX5_changes_94 rfl rfl rfl ?_
          refine ev_get (v := .ref 83) 98 dX5_changes_95 dk_82 fl_5_9 (by decide) rfl rfl rfl ?_
          refine ev_alen (v := 6) 99 dX5_changes_98 dk_83 (by decide) (by decide) rfl ?_
          refine ev_icmp_ge 112 102 dX5_changes_99 rfl rfl (fun c19 => ?_) (fun c19 => ?_)
          · replace h := rx_if_t c19 h
            refine ev_iconst (v := (-1)) 113 dX5_changes_112 (by decide) rfl ?_
            exact ev_ireturn dX5_changes_113 rfl (rx_ret_i h)
          · replace h := rx_if_f c19 h
            refine ev_aload_n (i := 0) 103 dX5_changes_102 rfl rfl rfl ?_
            refine ev_get (v := .ref 83) 106 dX5_changes_103 dk_82 fl_5_9 (by decide) rfl rfl rfl ?_
            refine ev_iload 108 dX5_changes_106 rfl rfl ?_
            obtain ⟨g20, h⟩ := rx_gd_o h
            refine ex_iald _ 109 dX5_changes_108 dk_83 g20 rfl rfl ?_
            refine ev_goto 113 dX5_changes_109 rfl ?_
            exact ev_ireturn dX5_changes_113 rfl (rx_ret_i h)
        exact (em_X5_changes_L62 hJ92_2 _ _ _ _ _ _ _ h).fewer (rx_le_s (rx_le_s (rx_le_s (rx_le_s (rx_le_s (rx_le_s rx_le_0))))))
      exact (em_X5_changes_L27 hJ59_1 _ _ _ _ _ _ _ h).fewer (rx_le_s (rx_le_s (rx_le_s (rx_le_s (rx_le_s (rx_le_s rx_le_0))))))
    · replace h := rx_if_t c11 h
      refine ev_iconst (v := (-1)) 23 dX5_changes_22 (by decide) rfl ?_
      exact ev_ireturn dX5_changes_23 rfl (rx_ret_i h)

def f_X7_putRow (k : Nat) (N : Nat) (x2 : Int32) (x3 : Int32) (S0 : rx_S) : Option (Int32 × rx_S) := rx_bd (f_X7_carriedRow k N x2 x3 0 0 0 S0) (fun x6 S5 => some (x6, S5))
set_option maxHeartbeats 4000000 in
set_option maxRecDepth 20000 in
theorem em_X7_putRow_32 {d N : Nat} {x2 : Int32} {x3 : Int32} {S0 : rx_S} {zr : Int32} {zS : rx_S} (h : f_X7_putRow 32 N x2 x3 S0 = some (zr, zS)) : EM gC (d + 4) mX7_putRow [.ref 80, .ref 32, .int x2, .int x3] S0 (rx_pi zr zS) := by
  unfold f_X7_putRow at h
  show EV gC (d + 4) mX7_putRow 0 [some (.ref 80), some (.ref 32), some (.int x2), some (.int x3)] [] S0 (rx_pi zr zS)
  refine ev_aload_n (i := 0) 1 dX7_putRow_0 rfl rfl rfl ?_
  refine ev_aload_n (i := 1) 2 dX7_putRow_1 rfl rfl rfl ?_
  refine ev_iload_n (i := 2) 3 dX7_putRow_2 rfl rfl rfl ?_
  refine ev_iload_n (i := 3) 4 dX7_putRow_3 rfl rfl rfl ?_
  refine ev_iconst (v := 0) 5 dX7_putRow_4 (by decide) rfl ?_
  refine ev_iconst (v := 0) 6 dX7_putRow_5 (by decide) rfl ?_
  refine ev_iconst (v := 0) 7 dX7_putRow_6 (by decide) rfl ?_
  obtain ⟨x6, S5, g7, h⟩ := rx_bd_o h
  refine ev_cVi6 10 dX7_putRow_7 (em_X7_carriedRow_32 g7) mm_X7_carriedRow mv_X7_carriedRow lk_7_67 dk_80 (by decide) rfl (Nat.le_of_ble_eq_true rfl) (Nat.le_of_ble_eq_true rfl) rfl ?_
  exact ev_ireturn dX7_putRow_10 rfl (rx_ret_i h)

set_option maxHeartbeats 4000000 in
set_option maxRecDepth 20000 in
theorem em_X7_putRow_89 {d N : Nat} {x2 : Int32} {x3 : Int32} {S0 : rx_S} {zr : Int32} {zS : rx_S} (h : f_X7_putRow 89 N x2 x3 S0 = some (zr, zS)) : EM gC (d + 4) mX7_putRow [.ref 80, .ref 89, .int x2, .int x3] S0 (rx_pi zr zS) := by
  unfold f_X7_putRow at h
  show EV gC (d + 4) mX7_putRow 0 [some (.ref 80), some (.ref 89), some (.int x2), some (.int x3)] [] S0 (rx_pi zr zS)
  refine ev_aload_n (i := 0) 1 dX7_putRow_0 rfl rfl rfl ?_
  refine ev_aload_n (i := 1) 2 dX7_putRow_1 rfl rfl rfl ?_
  refine ev_iload_n (i := 2) 3 dX7_putRow_2 rfl rfl rfl ?_
  refine ev_iload_n (i := 3) 4 dX7_putRow_3 rfl rfl rfl ?_
  refine ev_iconst (v := 0) 5 dX7_putRow_4 (by decide) rfl ?_
  refine ev_iconst (v := 0) 6 dX7_putRow_5 (by decide) rfl ?_
  refine ev_iconst (v := 0) 7 dX7_putRow_6 (by decide) rfl ?_
  obtain ⟨x6, S5, g7, h⟩ := rx_bd_o h
  refine ev_cVi6 10 dX7_putRow_7 (em_X7_carriedRow_89 g7) mm_X7_carriedRow mv_X7_carriedRow lk_7_67 dk_80 (by decide) rfl (Nat.le_of_ble_eq_true rfl) (Nat.le_of_ble_eq_true rfl) rfl ?_
  exact ev_ireturn dX7_putRow_10 rfl (rx_ret_i h)

def f_X6_lostByTwo (N : Nat) (x2 : Int32) (x3 : Int32) (x4 : Int32) (S0 : rx_S) : Option (Int32 × rx_S) := rx_bd (f_X7_putRow 32 N x2 x4 S0) (fun x7 S6 => rx_bd (f_X7_putRow 32 N x3 x7 S6) (fun x10 S9 => rx_bd (f_X5_changes N x4 x10 S9) (fun x13 S12 => some (x13, S12))))
set_option maxHeartbeats 4000000 in
set_option maxRecDepth 20000 in
theorem em_X6_lostByTwo {d N : Nat} {x2 : Int32} {x3 : Int32} {x4 : Int32} {S0 : rx_S} {zr : Int32} {zS : rx_S} (h : f_X6_lostByTwo N x2 x3 x4 S0 = some (zr, zS)) : EM gC (d + 5) mX6_lostByTwo [.ref 81, .ref 32, .int x2, .int x3, .int x4] S0 (rx_pi zr zS) := by
  unfold f_X6_lostByTwo at h
  show EV gC (d + 5) mX6_lostByTwo 0 [some (.ref 81), some (.ref 32), some (.int x2), some (.int x3), some (.int x4)] [] S0 (rx_pi zr zS)
  refine ev_aload_n (i := 0) 1 dX6_lostByTwo_0 rfl rfl rfl ?_
  refine ev_get (v := .ref 82) 4 dX6_lostByTwo_1 dk_81 fl_6_12 (by decide) rfl rfl rfl ?_
  refine ev_iload 6 dX6_lostByTwo_4 rfl rfl ?_
  refine ev_aload_n (i := 0) 7 dX6_lostByTwo_6 rfl rfl rfl ?_
  refine ev_get (v := .ref 80) 10 dX6_lostByTwo_7 dk_81 fl_6_36 (by decide) rfl rfl rfl ?_
  refine ev_aload_n (i := 1) 11 dX6_lostByTwo_10 rfl rfl rfl ?_
  refine ev_iload_n (i := 3) 12 dX6_lostByTwo_11 rfl rfl rfl ?_
  refine ev_aload_n (i := 0) 13 dX6_lostByTwo_12 rfl rfl rfl ?_
  refine ev_get (v := .ref 80) 16 dX6_lostByTwo_13 dk_81 fl_6_36 (by decide) rfl rfl rfl ?_
  refine ev_aload_n (i := 1) 17 dX6_lostByTwo_16 rfl rfl rfl ?_
  refine ev_iload_n (i := 2) 18 dX6_lostByTwo_17 rfl rfl rfl ?_
  refine ev_iload 20 dX6_lostByTwo_18 rfl rfl ?_
  obtain ⟨x7, S6, g8, h⟩ := rx_bd_o h
  refine ev_cVi3 23 dX6_lostByTwo_20 (em_X7_putRow_32 g8) mm_X7_putRow mv_X7_putRow lk_6_40 dk_80 (by decide) rfl (Nat.le_of_ble_eq_true rfl) (Nat.le_of_ble_eq_true rfl) rfl ?_
  obtain ⟨x10, S9, g11, h⟩ := rx_bd_o h
  refine ev_cVi3 26 dX6_lostByTwo_23 (em_X7_putRow_32 g11) mm_X7_putRow mv_X7_putRow lk_6_40 dk_80 (by decide) rfl (Nat.le_of_ble_eq_true rfl) (Nat.le_of_ble_eq_true rfl) rfl ?_
  obtain ⟨x13, S12, g14, h⟩ := rx_bd_o h
  refine ev_cVi2 29 dX6_lostByTwo_26 (em_X5_changes g14) mm_X5_changes mv_X5_changes lk_6_46 dk_82 (by decide) rfl (Nat.le_of_ble_eq_true rfl) (Nat.le_of_ble_eq_true rfl) rfl ?_
  exact ev_ireturn dX6_lostByTwo_29 rfl (rx_ret_i h)

def f_X6_bestPair_L25 (N : Nat) (K75 : Int32 → Int32 → Int32 → Int32 → rx_S → Option (Int32 × rx_S)) : Nat → Int32 → Int32 → Int32 → Int32 → Int32 → rx_S → Option (Int32 × rx_S)
  | 0, _, _, _, _, _, _ => none
  | n + 1, x16, x17, x18, x19, x20, S21 => if (S21.1 2 8) ≤ x20 then (K75 x16 x17 x18 x19 S21) else (rx_bd (f_X6_lostByTwo N x19 x20 x16 S21) (fun x29 S28 => if x18 ≤ x29 then (rx_let (x20 + 1) (fun x32 => f_X6_bestPair_L25 N K75 n x16 x17 x18 x19 x32 S28)) else (rx_let (((10 : Int32) * x19) + x20) (fun x33 => rx_let (x20 + 1) (fun x34 => f_X6_bestPair_L25 N K75 n x16 x33 x29 x19 x34 S28)))))
def f_X6_bestPair_L10 (N : Nat) : Nat → Int32 → Int32 → Int32 → Int32 → rx_S → Option (Int32 × rx_S)
  | 0, _, _, _, _, _ => none
  | n + 1, x4, x5, x6, x7, S8 => if (S8.1 2 8) ≤ x7 then (some (x5, S8)) else (rx_let (fun (x10 : Int32) (x11 : Int32) (x12 : Int32) (x13 : Int32) (S14 : rx_S) => rx_let (x13 + 1) (fun x15 => f_X6_bestPair_L10 N n x10 x11 x12 x15 S14)) (fun J75_1 => f_X6_bestPair_L25 N J75_1 N x4 x5 x6 x7 0 S8))
def f_X6_bestPair (N : Nat) (x2 : Int32) (S0 : rx_S) : Option (Int32 × rx_S) := f_X6_bestPair_L10 N N x2 (-2) 1000000 0 S0
set_option maxHeartbeats 4000000 in
set_option maxRecDepth 20000 in
theorem em_X6_bestPair_L25 {d N : Nat} {K75 : Int32 → Int32 → Int32 → Int32 → rx_S → Option (Int32 × rx_S)} {zr : Int32} {zS : rx_S} (hK75 : ∀ (x22 : Int32) (x23 : Int32) (x24 : Int32) (x25 : Int32) (S26 : rx_S), K75 x22 x23 x24 x25 S26 = some (zr, zS) → EV gC (d + 6) mX6_bestPair 75 [some (.ref 81), some (.ref 32), some (.int x22), some (.int x23), some (.int x24), some (.int x25), none, none] [] S26 (rx_pi zr zS)) : ∀ (n : Nat) (x16 : Int32) (x17 : Int32) (x18 : Int32) (x19 : Int32) (x20 : Int32) (S21 : rx_S), f_X6_bestPair_L25 N K75 n x16 x17 x18 x19 x20 S21 = some (zr, zS) → EV gC (d + 6) mX6_bestPair 25 [some (.ref 81), some (.ref 32), some (.int x16), some (.int x17), some (.int x18), some (.int x19), some (.int x20), none] [] S21 (rx_pi zr zS) := by
  intro n
  induction n with
  | zero => intro x16 x17 x18 x19 x20 S21 h; cases h
  | succ n ih =>
    intro x16 x17 x18 x19 x20 S21 h
    rw [f_X6_bestPair_L25] at h
    refine ev_iload 27 dX6_bestPair_25 rfl rfl ?_
    refine ev_aload_n (i := 0) 28 dX6_bestPair_27 rfl rfl rfl ?_
    refine ev_get (v := .ref 2) 31 dX6_bestPair_28 dk_81 fl_6_32 (by decide) rfl rfl rfl ?_
    refine ev_get (v := .int (S21.1 2 8)) 34 dX6_bestPair_31 dk_2 fl_6_51 (by decide) rfl rfl rfl ?_
    refine ev_icmp_ge 75 37 dX6_bestPair_34 rfl rfl (fun c27 => ?_) (fun c27 => ?_)
    · replace h := rx_if_t c27 h
      exact (hK75 _ _ _ _ _ h).fewer (rx_le_s (rx_le_s (rx_le_s (rx_le_s (rx_le_s (rx_le_s (rx_le_n (rx_le_n rx_le_0))))))))
    · replace h := rx_if_f c27 h
      refine ev_aload_n (i := 0) 38 dX6_bestPair_37 rfl rfl rfl ?_
      refine ev_aload_n (i := 1) 39 dX6_bestPair_38 rfl rfl rfl ?_
      refine ev_iload 41 dX6_bestPair_39 rfl rfl ?_
      refine ev_iload 43 dX6_bestPair_41 rfl rfl ?_
      refine ev_iload_n (i := 2) 44 dX6_bestPair_43 rfl rfl rfl ?_
      obtain ⟨x29, S28, g30, h⟩ := rx_bd_o h
      refine ev_cVi4 47 dX6_bestPair_44 (em_X6_lostByTwo g30) mm_X6_lostByTwo mv_X6_lostByTwo lk_6_57 dk_81 (by decide) rfl (Nat.le_of_ble_eq_true rfl) (Nat.le_of_ble_eq_true rfl) rfl ?_
      refine ev_istore (ls' := [some (.ref 81), some (.ref 32), some (.int x16), some (.int x17), some (.int x18), some (.int x19), some (.int x20), some (.int x29)]) 49 dX6_bestPair_47 (Nat.le_of_ble_eq_true rfl) rfl rfl ?_
      refine ev_iload 51 dX6_bestPair_49 rfl rfl ?_
      refine ev_iload 53 dX6_bestPair_51 rfl rfl ?_
      refine ev_icmp_ge 69 56 dX6_bestPair_53 rfl rfl (fun c31 => ?_) (fun c31 => ?_)
      · replace h := rx_if_t c31 h
        obtain ⟨x32, ex32, h⟩ := rx_let_o h
        refine ev_iinc (v := x32) (ls' := [some (.ref 81), some (.ref 32), some (.int x16), some (.int x17), some (.int x18), some (.int x19), some (.int x32), some (.int x29)]) 72 dX6_bestPair_69 rfl (by rw [ex32]; rfl) (Nat.le_of_ble_eq_true rfl) rfl rfl ?_
        refine ev_goto 25 dX6_bestPair_72 rfl ?_
        exact (ih _ _ _ _ _ _ h).fewer (rx_le_s (rx_le_s (rx_le_s (rx_le_s (rx_le_s (rx_le_s (rx_le_s (rx_le_n rx_le_0))))))))
      · replace h := rx_if_f c31 h
        refine ev_iload 58 dX6_bestPair_56 rfl rfl ?_
        refine ev_istore (ls' := [some (.ref 81), some (.ref 32), some (.int x16), some (.int x17), some (.int x29), some (.int x19), some (.int x20), some (.int x29)]) 60 dX6_bestPair_58 (Nat.le_of_ble_eq_true rfl) rfl rfl ?_
        refine ev_bipush (v := 10) 62 dX6_bestPair_60 (by decide) rfl ?_
        refine ev_iload 64 dX6_bestPair_62 rfl rfl ?_
        refine ev_imul 65 dX6_bestPair_64 rfl ?_
        refine ev_iload 67 dX6_bestPair_65 rfl rfl ?_
        refine ev_iadd 68 dX6_bestPair_67 rfl ?_
        obtain ⟨x33, ex33, h⟩ := rx_let_o h
        refine ev_nm ex33 ?_
        refine ev_istore_n (ls' := [some (.ref 81), some (.ref 32), some (.int x16), some (.int x33), some (.int x29), some (.int x19), some (.int x20), some (.int x29)]) 69 dX6_bestPair_68 rfl (Nat.le_of_ble_eq_true rfl) rfl rfl ?_
        obtain ⟨x34, ex34, h⟩ := rx_let_o h
        refine ev_iinc (v := x34) (ls' := [some (.ref 81), some (.ref 32), some (.int x16), some (.int x33), some (.int x29), some (.int x19), some (.int x34), some (.int x29)]) 72 dX6_bestPair_69 rfl (by rw [ex34]; rfl) (Nat.le_of_ble_eq_true rfl) rfl rfl ?_
        refine ev_goto 25 dX6_bestPair_72 rfl ?_
        exact (ih _ _ _ _ _ _ h).fewer (rx_le_s (rx_le_s (rx_le_s (rx_le_s (rx_le_s (rx_le_s (rx_le_s (rx_le_n rx_le_0))))))))

set_option maxHeartbeats 4000000 in
set_option maxRecDepth 20000 in
theorem em_X6_bestPair_L10 {d N : Nat} {zr : Int32} {zS : rx_S} : ∀ (n : Nat) (x4 : Int32) (x5 : Int32) (x6 : Int32) (x7 : Int32) (S8 : rx_S), f_X6_bestPair_L10 N n x4 x5 x6 x7 S8 = some (zr, zS) → EV gC (d + 6) mX6_bestPair 10 [some (.ref 81), some (.ref 32), some (.int x4), some (.int x5), some (.int x6), some (.int x7), none, none] [] S8 (rx_pi zr zS) := by
  intro n
  induction n with
  | zero => intro x4 x5 x6 x7 S8 h; cases h
  | succ n ih =>
    intro x4 x5 x6 x7 S8 h
    rw [f_X6_bestPair_L10] at h
    refine ev_iload 12 dX6_bestPair_10 rfl rfl ?_
    refine ev_aload_n (i := 0) 13 dX6_bestPair_12 rfl rfl rfl ?_
    refine ev_get (v := .ref 2) 16 dX6_bestPair_13 dk_81 fl_6_32 (by decide) rfl rfl rfl ?_
    refine ev_get (v := .int (S8.1 2 8)) 19 dX6_bestPair_16 dk_2 fl_6_51 (by decide) rfl rfl rfl ?_
    refine ev_icmp_ge 81 22 dX6_bestPair_19 rfl rfl (fun c9 => ?_) (fun c9 => ?_)
    · replace h := rx_if_t c9 h
      refine ev_iload_n (i := 3) 82 dX6_bestPair_81 rfl rfl rfl ?_
      exact ev_ireturn dX6_bestPair_82 rfl (rx_ret_i h)
    · replace h := rx_if_f c9 h
      refine ev_iconst (v := 0) 23 dX6_bestPair_22 (by decide) rfl ?_
      refine ev_istore (ls' := [some (.ref 81), some (.ref 32), some (.int x4), some (.int x5), some (.int x6), some (.int x7), some (.int 0), none]) 25 dX6_bestPair_23 (Nat.le_of_ble_eq_true rfl) rfl rfl ?_
      obtain ⟨J75_1, eJ75_1, h⟩ := rx_let_o h
      have hJ75_1 : ∀ (x10 : Int32) (x11 : Int32) (x12 : Int32) (x13 : Int32) (S14 : rx_S), J75_1 x10 x11 x12 x13 S14 = some (zr, zS) → EV gC (d + 6) mX6_bestPair 75 [some (.ref 81), some (.ref 32), some (.int x10), some (.int x11), some (.int x12), some (.int x13), none, none] [] S14 (rx_pi zr zS) := by
        intro x10 x11 x12 x13 S14 h
        subst eJ75_1
        obtain ⟨x15, ex15, h⟩ := rx_let_o h
        refine ev_iinc (v := x15) (ls' := [some (.ref 81), some (.ref 32), some (.int x10), some (.int x11), some (.int x12), some (.int x15), none, none]) 78 dX6_bestPair_75 rfl (by rw [ex15]; rfl) (Nat.le_of_ble_eq_true rfl) rfl rfl ?_
        refine ev_goto 10 dX6_bestPair_78 rfl ?_
        exact (ih _ _ _ _ _ h).fewer (rx_le_s (rx_le_s (rx_le_s (rx_le_s (rx_le_s (rx_le_s (rx_le_n (rx_le_n rx_le_0))))))))
      exact (em_X6_bestPair_L25 hJ75_1 _ _ _ _ _ _ _ h).fewer (rx_le_s (rx_le_s (rx_le_s (rx_le_s (rx_le_s (rx_le_s (rx_le_s (rx_le_n rx_le_0))))))))

set_option maxHeartbeats 4000000 in
set_option maxRecDepth 20000 in
theorem em_X6_bestPair {d N : Nat} {x2 : Int32} {S0 : rx_S} {zr : Int32} {zS : rx_S} (h : f_X6_bestPair N x2 S0 = some (zr, zS)) : EM gC (d + 6) mX6_bestPair [.ref 81, .ref 32, .int x2] S0 (rx_pi zr zS) := by
  unfold f_X6_bestPair at h
  show EV gC (d + 6) mX6_bestPair 0 [some (.ref 81), some (.ref 32), some (.int x2), none, none, none, none, none] [] S0 (rx_pi zr zS)
  refine ev_bipush (v := (-2)) 2 dX6_bestPair_0 (by decide) rfl ?_
  refine ev_istore_n (ls' := [some (.ref 81), some (.ref 32), some (.int x2), some (.int (-2)), none, none, none, none]) 3 dX6_bestPair_2 rfl (Nat.le_of_ble_eq_true rfl) rfl rfl ?_
  refine ev_ldc (v := 1000000) 5 dX6_bestPair_3 rfl ct_6_50 rfl ?_
  refine ev_istore (ls' := [some (.ref 81), some (.ref 32), some (.int x2), some (.int (-2)), some (.int 1000000), none, none, none]) 7 dX6_bestPair_5 (Nat.le_of_ble_eq_true rfl) rfl rfl ?_
  refine ev_iconst (v := 0) 8 dX6_bestPair_7 (by decide) rfl ?_
  refine ev_istore (ls' := [some (.ref 81), some (.ref 32), some (.int x2), some (.int (-2)), some (.int 1000000), some (.int 0), none, none]) 10 dX6_bestPair_8 (Nat.le_of_ble_eq_true rfl) rfl rfl ?_
  exact (em_X6_bestPair_L10 _ _ _ _ _ _ h).fewer (rx_le_s (rx_le_s (rx_le_s (rx_le_s (rx_le_s (rx_le_s (rx_le_n (rx_le_n rx_le_0))))))))

def f_X6_bestThird_L10 (N : Nat) : Nat → Int32 → Int32 → Int32 → Int32 → rx_S → Option (Int32 × rx_S)
  | 0, _, _, _, _, _ => none
  | n + 1, x4, x5, x6, x7, S8 => if (S8.1 2 8) ≤ x7 then (some (x5, S8)) else (rx_bd (f_X7_putRow 32 N x7 x4 S8) (fun x11 S10 => rx_bd (f_X5_changes N x4 x11 S10) (fun x14 S13 => if x6 ≤ x14 then (rx_let (x7 + 1) (fun x17 => f_X6_bestThird_L10 N n x4 x5 x6 x17 S13)) else (rx_let (x7 + 1) (fun x18 => f_X6_bestThird_L10 N n x4 x7 x14 x18 S13)))))
def f_X6_bestThird (N : Nat) (x2 : Int32) (S0 : rx_S) : Option (Int32 × rx_S) := f_X6_bestThird_L10 N N x2 (-2) 1000000 0 S0
set_option maxHeartbeats 4000000 in
set_option maxRecDepth 20000 in
theorem em_X6_bestThird_L10 {d N : Nat} {zr : Int32} {zS : rx_S} : ∀ (n : Nat) (x4 : Int32) (x5 : Int32) (x6 : Int32) (x7 : Int32) (S8 : rx_S), f_X6_bestThird_L10 N n x4 x5 x6 x7 S8 = some (zr, zS) → EV gC (d + 5) mX6_bestThird 10 [some (.ref 81), some (.ref 32), some (.int x4), some (.int x5), some (.int x6), some (.int x7), none] [] S8 (rx_pi zr zS) := by
  intro n
  induction n with
  | zero => intro x4 x5 x6 x7 S8 h; cases h
  | succ n ih =>
    intro x4 x5 x6 x7 S8 h
    rw [f_X6_bestThird_L10] at h
    refine ev_iload 12 dX6_bestThird_10 rfl rfl ?_
    refine ev_aload_n (i := 0) 13 dX6_bestThird_12 rfl rfl rfl ?_
    refine ev_get (v := .ref 2) 16 dX6_bestThird_13 dk_81 fl_6_32 (by decide) rfl rfl rfl ?_
    refine ev_get (v := .int (S8.1 2 8)) 19 dX6_bestThird_16 dk_2 fl_6_51 (by decide) rfl rfl rfl ?_
    refine ev_icmp_ge 63 22 dX6_bestThird_19 rfl rfl (fun c9 => ?_) (fun c9 => ?_)
    · replace h := rx_if_t c9 h
      refine ev_iload_n (i := 3) 64 dX6_bestThird_63 rfl rfl rfl ?_
      exact ev_ireturn dX6_bestThird_64 rfl (rx_ret_i h)
    · replace h := rx_if_f c9 h
      refine ev_aload_n (i := 0) 23 dX6_bestThird_22 rfl rfl rfl ?_
      refine ev_get (v := .ref 82) 26 dX6_bestThird_23 dk_81 fl_6_12 (by decide) rfl rfl rfl ?_
      refine ev_iload_n (i := 2) 27 dX6_bestThird_26 rfl rfl rfl ?_
      refine ev_aload_n (i := 0) 28 dX6_bestThird_27 rfl rfl rfl ?_
      refine ev_get (v := .ref 80) 31 dX6_bestThird_28 dk_81 fl_6_36 (by decide) rfl rfl rfl ?_
      refine ev_aload_n (i := 1) 32 dX6_bestThird_31 rfl rfl rfl ?_
      refine ev_iload 34 dX6_bestThird_32 rfl rfl ?_
      refine ev_iload_n (i := 2) 35 dX6_bestThird_34 rfl rfl rfl ?_
      obtain ⟨x11, S10, g12, h⟩ := rx_bd_o h
      refine ev_cVi3 38 dX6_bestThird_35 (em_X7_putRow_32 g12) mm_X7_putRow mv_X7_putRow lk_6_40 dk_80 (by decide) rfl (Nat.le_of_ble_eq_true rfl) (Nat.le_of_ble_eq_true rfl) rfl ?_
      obtain ⟨x14, S13, g15, h⟩ := rx_bd_o h
      refine ev_cVi2 41 dX6_bestThird_38 (em_X5_changes g15) mm_X5_changes mv_X5_changes lk_6_46 dk_82 (by decide) rfl (Nat.le_of_ble_eq_true rfl) (Nat.le_of_ble_eq_true rfl) rfl ?_
      refine ev_istore (ls' := [some (.ref 81), some (.ref 32), some (.int x4), some (.int x5), some (.int x6), some (.int x7), some (.int x14)]) 43 dX6_bestThird_41 (Nat.le_of_ble_eq_true rfl) rfl rfl ?_
      refine ev_iload 45 dX6_bestThird_43 rfl rfl ?_
      refine ev_iload 47 dX6_bestThird_45 rfl rfl ?_
      refine ev_icmp_ge 57 50 dX6_bestThird_47 rfl rfl (fun c16 => ?_) (fun c16 => ?_)
      · replace h := rx_if_t c16 h
        obtain ⟨x17, ex17, h⟩ := rx_let_o h
        refine ev_iinc (v := x17) (ls' := [some (.ref 81), some (.ref 32), some (.int x4), some (.int x5), some (.int x6), some (.int x17), some (.int x14)]) 60 dX6_bestThird_57 rfl (by rw [ex17]; rfl) (Nat.le_of_ble_eq_true rfl) rfl rfl ?_
        refine ev_goto 10 dX6_bestThird_60 rfl ?_
        exact (ih _ _ _ _ _ h).fewer (rx_le_s (rx_le_s (rx_le_s (rx_le_s (rx_le_s (rx_le_s (rx_le_n rx_le_0)))))))
      · replace h := rx_if_f c16 h
        refine ev_iload 52 dX6_bestThird_50 rfl rfl ?_
        refine ev_istore (ls' := [some (.ref 81), some (.ref 32), some (.int x4), some (.int x5), some (.int x14), some (.int x7), some (.int x14)]) 54 dX6_bestThird_52 (Nat.le_of_ble_eq_true rfl) rfl rfl ?_
        refine ev_iload 56 dX6_bestThird_54 rfl rfl ?_
        refine ev_istore_n (ls' := [some (.ref 81), some (.ref 32), some (.int x4), some (.int x7), some (.int x14), some (.int x7), some (.int x14)]) 57 dX6_bestThird_56 rfl (Nat.le_of_ble_eq_true rfl) rfl rfl ?_
        obtain ⟨x18, ex18, h⟩ := rx_let_o h
        refine ev_iinc (v := x18) (ls' := [some (.ref 81), some (.ref 32), some (.int x4), some (.int x7), some (.int x14), some (.int x18), some (.int x14)]) 60 dX6_bestThird_57 rfl (by rw [ex18]; rfl) (Nat.le_of_ble_eq_true rfl) rfl rfl ?_
        refine ev_goto 10 dX6_bestThird_60 rfl ?_
        exact (ih _ _ _ _ _ h).fewer (rx_le_s (rx_le_s (rx_le_s (rx_le_s (rx_le_s (rx_le_s (rx_le_n rx_le_0)))))))

set_option maxHeartbeats 4000000 in
set_option maxRecDepth 20000 in
theorem em_X6_bestThird {d N : Nat} {x2 : Int32} {S0 : rx_S} {zr : Int32} {zS : rx_S} (h : f_X6_bestThird N x2 S0 = some (zr, zS)) : EM gC (d + 5) mX6_bestThird [.ref 81, .ref 32, .int x2] S0 (rx_pi zr zS) := by
  unfold f_X6_bestThird at h
  show EV gC (d + 5) mX6_bestThird 0 [some (.ref 81), some (.ref 32), some (.int x2), none, none, none, none] [] S0 (rx_pi zr zS)
  refine ev_bipush (v := (-2)) 2 dX6_bestThird_0 (by decide) rfl ?_
  refine ev_istore_n (ls' := [some (.ref 81), some (.ref 32), some (.int x2), some (.int (-2)), none, none, none]) 3 dX6_bestThird_2 rfl (Nat.le_of_ble_eq_true rfl) rfl rfl ?_
  refine ev_ldc (v := 1000000) 5 dX6_bestThird_3 rfl ct_6_50 rfl ?_
  refine ev_istore (ls' := [some (.ref 81), some (.ref 32), some (.int x2), some (.int (-2)), some (.int 1000000), none, none]) 7 dX6_bestThird_5 (Nat.le_of_ble_eq_true rfl) rfl rfl ?_
  refine ev_iconst (v := 0) 8 dX6_bestThird_7 (by decide) rfl ?_
  refine ev_istore (ls' := [some (.ref 81), some (.ref 32), some (.int x2), some (.int (-2)), some (.int 1000000), some (.int 0), none]) 10 dX6_bestThird_8 (Nat.le_of_ble_eq_true rfl) rfl rfl ?_
  exact (em_X6_bestThird_L10 _ _ _ _ _ _ h).fewer (rx_le_s (rx_le_s (rx_le_s (rx_le_s (rx_le_s (rx_le_s (rx_le_n rx_le_0)))))))

def f_X6_endAt (x0 : Int32) (x1 : Int32) (S0 : rx_S) : Option (Int32 × rx_S) := some (((x0 * 6) + x1), S0)
set_option maxHeartbeats 4000000 in
set_option maxRecDepth 20000 in
theorem em_X6_endAt {G : Nat × Nat} {d : Nat} {x0 : Int32} {x1 : Int32} {S0 : rx_S} {zr : Int32} {zS : rx_S} (h : f_X6_endAt x0 x1 S0 = some (zr, zS)) : EM G d mX6_endAt [.int x0, .int x1] S0 (rx_pi zr zS) := by
  unfold f_X6_endAt at h
  show EV G d mX6_endAt 0 [some (.int x0), some (.int x1)] [] S0 (rx_pi zr zS)
  refine ev_iload_n (i := 0) 1 dX6_endAt_0 rfl rfl rfl ?_
  refine ev_bipush (v := 6) 3 dX6_endAt_1 (by decide) rfl ?_
  refine ev_imul 4 dX6_endAt_3 rfl ?_
  refine ev_iload_n (i := 1) 5 dX6_endAt_4 rfl rfl rfl ?_
  refine ev_iadd 6 dX6_endAt_5 rfl ?_
  exact ev_ireturn dX6_endAt_6 rfl (rx_ret_i h)

def f_X6_fittingWord_L9 (N : Nat) : Nat → Int32 → Int32 → Int32 → Int32 → Int32 → rx_S → Option (Int32 × rx_S)
  | 0, _, _, _, _, _, _ => none
  | n + 1, x8, x9, x10, x11, x12, S13 => if (8 : Int32) ≤ x12 then (some ((-1), S13)) else (rx_gd ((x8 * 8) + x12) 32 (rx_let (S13.1 84 (Int32.toNatClampNeg ((x8 * 8) + x12))) (fun x16 => if x16 = 8 then (rx_bd (f_X6_endAt (x8 + 1) x9 S13) (fun x32 S31 => rx_gd x32 30 (if (S31.1 85 (Int32.toNatClampNeg x32)) = 0 then (rx_let (x12 + 1) (fun x36 => f_X6_fittingWord_L9 N n x8 x9 x10 x11 x36 S31)) else (some (x12, S31))))) else (if x11 ≤ x9 then (rx_let (x12 + 1) (fun x19 => f_X6_fittingWord_L9 N n x8 x9 x10 x11 x19 S13)) else (rx_bd (f_X5_wordAt x10 x11 x9 S13) (fun x21 S20 => if x16 = x21 then (rx_bd (f_X6_endAt (x8 + 1) (x9 + 1) S20) (fun x26 S25 => rx_gd x26 30 (if (S25.1 85 (Int32.toNatClampNeg x26)) = 0 then (rx_let (x12 + 1) (fun x30 => f_X6_fittingWord_L9 N n x8 x9 x10 x11 x30 S25)) else (some (x12, S25))))) else (rx_let (x12 + 1) (fun x24 => f_X6_fittingWord_L9 N n x8 x9 x10 x11 x24 S20))))))))
def f_X6_fittingWord (N : Nat) (x1 : Int32) (x2 : Int32) (x3 : Int32) (S0 : rx_S) : Option (Int32 × rx_S) := rx_bd (f_X5_size N x3 S0) (fun x6 S5 => f_X6_fittingWord_L9 N N x1 x2 x3 x6 0 S5)
set_option maxHeartbeats 4000000 in
set_option maxRecDepth 20000 in
theorem em_X6_fittingWord_L9 {d N : Nat} {zr : Int32} {zS : rx_S} : ∀ (n : Nat) (x8 : Int32) (x9 : Int32) (x10 : Int32) (x11 : Int32) (x12 : Int32) (S13 : rx_S), f_X6_fittingWord_L9 N n x8 x9 x10 x11 x12 S13 = some (zr, zS) → EV gC (d + 1) mX6_fittingWord 9 [some (.ref 81), some (.int x8), some (.int x9), some (.int x10), some (.int x11), some (.int x12), none] [] S13 (rx_pi zr zS) := by
  intro n
  induction n with
  | zero => intro x8 x9 x10 x11 x12 S13 h; cases h
  | succ n ih =>
    intro x8 x9 x10 x11 x12 S13 h
    rw [f_X6_fittingWord_L9] at h
    refine ev_iload 11 dX6_fittingWord_9 rfl rfl ?_
    refine ev_bipush (v := 8) 13 dX6_fittingWord_11 (by decide) rfl ?_
    refine ev_icmp_ge 99 16 dX6_fittingWord_13 rfl rfl (fun c14 => ?_) (fun c14 => ?_)
    · replace h := rx_if_t c14 h
      refine ev_iconst (v := (-1)) 100 dX6_fittingWord_99 (by decide) rfl ?_
      exact ev_ireturn dX6_fittingWord_100 rfl (rx_ret_i h)
    · replace h := rx_if_f c14 h
      refine ev_aload_n (i := 0) 17 dX6_fittingWord_16 rfl rfl rfl ?_
      refine ev_get (v := .ref 84) 20 dX6_fittingWord_17 dk_81 fl_6_18 (by decide) rfl rfl rfl ?_
      refine ev_iload_n (i := 1) 21 dX6_fittingWord_20 rfl rfl rfl ?_
      refine ev_bipush (v := 8) 23 dX6_fittingWord_21 (by decide) rfl ?_
      refine ev_imul 24 dX6_fittingWord_23 rfl ?_
      refine ev_iload 26 dX6_fittingWord_24 rfl rfl ?_
      refine ev_iadd 27 dX6_fittingWord_26 rfl ?_
      obtain ⟨g15, h⟩ := rx_gd_o h
      refine ex_iald _ 28 dX6_fittingWord_27 dk_84 g15 rfl rfl ?_
      obtain ⟨x16, ex16, h⟩ := rx_let_o h
      refine ev_nm ex16 ?_
      refine ev_istore (ls' := [some (.ref 81), some (.int x8), some (.int x9), some (.int x10), some (.int x11), some (.int x12), some (.int x16)]) 30 dX6_fittingWord_28 (Nat.le_of_ble_eq_true rfl) rfl rfl ?_
      refine ev_iload 32 dX6_fittingWord_30 rfl rfl ?_
      refine ev_bipush (v := 8) 34 dX6_fittingWord_32 (by decide) rfl ?_
      refine ev_icmp_ne 55 37 dX6_fittingWord_34 rfl rfl (fun c17 => ?_) (fun c17 => ?_)
      · replace h := rx_if_f c17 h
        refine ev_iload_n (i := 2) 56 dX6_fittingWord_55 rfl rfl rfl ?_
        refine ev_iload 58 dX6_fittingWord_56 rfl rfl ?_
        refine ev_icmp_ge 93 61 dX6_fittingWord_58 rfl rfl (fun c18 => ?_) (fun c18 => ?_)
        · replace h := rx_if_t c18 h
          obtain ⟨x19, ex19, h⟩ := rx_let_o h
          refine ev_iinc (v := x19) (ls' := [some (.ref 81), some (.int x8), some (.int x9), some (.int x10), some (.int x11), some (.int x19), some (.int x16)]) 96 dX6_fittingWord_93 rfl (by rw [ex19]; rfl) (Nat.le_of_ble_eq_true rfl) rfl rfl ?_
          refine ev_goto 9 dX6_fittingWord_96 rfl ?_
          exact (ih _ _ _ _ _ _ h).fewer (rx_le_s (rx_le_s (rx_le_s (rx_le_s (rx_le_s (rx_le_s (rx_le_n rx_le_0)))))))
        · replace h := rx_if_f c18 h
          refine ev_iload 63 dX6_fittingWord_61 rfl rfl ?_
          refine ev_iload_n (i := 3) 64 dX6_fittingWord_63 rfl rfl rfl ?_
          refine ev_iload 66 dX6_fittingWord_64 rfl rfl ?_
          refine ev_iload_n (i := 2) 67 dX6_fittingWord_66 rfl rfl rfl ?_
          obtain ⟨x21, S20, g22, h⟩ := rx_bd_o h
          refine ev_cSi3 70 dX6_fittingWord_67 (em_X5_wordAt g22) mm_X5_wordAt ms_X5_wordAt lk_6_82 (Nat.le_of_ble_eq_true rfl) (Nat.le_of_ble_eq_true rfl) rfl ?_
          refine ev_icmp_ne 93 73 dX6_fittingWord_70 rfl rfl (fun c23 => ?_) (fun c23 => ?_)
          · replace h := rx_if_f c23 h
            obtain ⟨x24, ex24, h⟩ := rx_let_o h
            refine ev_iinc (v := x24) (ls' := [some (.ref 81), some (.int x8), some (.int x9), some (.int x10), some (.int x11), some (.int x24), some (.int x16)]) 96 dX6_fittingWord_93 rfl (by rw [ex24]; rfl) (Nat.le_of_ble_eq_true rfl) rfl rfl ?_
            refine ev_goto 9 dX6_fittingWord_96 rfl ?_
            exact (ih _ _ _ _ _ _ h).fewer (rx_le_s (rx_le_s (rx_le_s (rx_le_s (rx_le_s (rx_le_s (rx_le_n rx_le_0)))))))
          · replace h := rx_if_t c23 h
            refine ev_aload_n (i := 0) 74 dX6_fittingWord_73 rfl rfl rfl ?_
            refine ev_get (v := .ref 85) 77 dX6_fittingWord_74 dk_81 fl_6_22 (by decide) rfl rfl rfl ?_
            refine ev_iload_n (i := 1) 78 dX6_fittingWord_77 rfl rfl rfl ?_
            refine ev_iconst (v := 1) 79 dX6_fittingWord_78 (by decide) rfl ?_
            refine ev_iadd 80 dX6_fittingWord_79 rfl ?_
            refine ev_iload_n (i := 2) 81 dX6_fittingWord_80 rfl rfl rfl ?_
            refine ev_iconst (v := 1) 82 dX6_fittingWord_81 (by decide) rfl ?_
            refine ev_iadd 83 dX6_fittingWord_82 rfl ?_
            obtain ⟨x26, S25, g27, h⟩ := rx_bd_o h
            refine ev_cSi2 86 dX6_fittingWord_83 (em_X6_endAt g27) mm_X6_endAt ms_X6_endAt lk_6_75 (Nat.le_of_ble_eq_true rfl) (Nat.le_of_ble_eq_true rfl) rfl ?_
            obtain ⟨g28, h⟩ := rx_gd_o h
            refine ex_zald _ 87 dX6_fittingWord_86 dk_85 g28 rfl rfl ?_
            refine ev_if_eq 93 90 dX6_fittingWord_87 rfl rfl (fun c29 => ?_) (fun c29 => ?_)
            · replace h := rx_if_t c29 h
              obtain ⟨x30, ex30, h⟩ := rx_let_o h
              refine ev_iinc (v := x30) (ls' := [some (.ref 81), some (.int x8), some (.int x9), some (.int x10), some (.int x11), some (.int x30), some (.int x16)]) 96 dX6_fittingWord_93 rfl (by rw [ex30]; rfl) (Nat.le_of_ble_eq_true rfl) rfl rfl ?_
              refine ev_goto 9 dX6_fittingWord_96 rfl ?_
              exact (ih _ _ _ _ _ _ h).fewer (rx_le_s (rx_le_s (rx_le_s (rx_le_s (rx_le_s (rx_le_s (rx_le_n rx_le_0)))))))
            · replace h := rx_if_f c29 h
              refine ev_iload 92 dX6_fittingWord_90 rfl rfl ?_
              exact ev_ireturn dX6_fittingWord_92 rfl (rx_ret_i h)
      · replace h := rx_if_t c17 h
        refine ev_aload_n (i := 0) 38 dX6_fittingWord_37 rfl rfl rfl ?_
        refine ev_get (v := .ref 85) 41 dX6_fittingWord_38 dk_81 fl_6_22 (by decide) rfl rfl rfl ?_
        refine ev_iload_n (i := 1) 42 dX6_fittingWord_41 rfl rfl rfl ?_
        refine ev_iconst (v := 1) 43 dX6_fittingWord_42 (by decide) rfl ?_
        refine ev_iadd 44 dX6_fittingWord_43 rfl ?_
        refine ev_iload_n (i := 2) 45 dX6_fittingWord_44 rfl rfl rfl ?_
        obtain ⟨x32, S31, g33, h⟩ := rx_bd_o h
        refine ev_cSi2 48 dX6_fittingWord_45 (em_X6_endAt g33) mm_X6_endAt ms_X6_endAt lk_6_75 (Nat.le_of_ble_eq_true rfl) (Nat.le_of_ble_eq_true rfl) rfl ?_
        obtain ⟨g34, h⟩ := rx_gd_o h
        refine ex_zald _ 49 dX6_fittingWord_48 dk_85 g34 rfl rfl ?_
        refine ev_if_eq 93 52 dX6_fittingWord_49 rfl rfl (fun c35 => ?_) (fun c35 => ?_)
        · replace h := rx_if_t c35 h
          obtain ⟨x36, ex36, h⟩ := rx_let_o h
          refine ev_iinc (v := x36) (ls' := [some (.ref 81), some (.int x8), some (.int x9), some (.int x10), some (.int x11), some (.int x36), some (.int x16)]) 96 dX6_fittingWord_93 rfl (by rw [ex36]; rfl) (Nat.le_of_ble_eq_true rfl) rfl rfl ?_
          refine ev_goto 9 dX6_fittingWord_96 rfl ?_
          exact (ih _ _ _ _ _ _ h).fewer (rx_le_s (rx_le_s (rx_le_s (rx_le_s (rx_le_s (rx_le_s (rx_le_n rx_le_0)))))))
        · replace h := rx_if_f c35 h
          refine ev_iload 54 dX6_fittingWord_52 rfl rfl ?_
          exact ev_ireturn dX6_fittingWord_54 rfl (rx_ret_i h)

set_option maxHeartbeats 4000000 in
set_option maxRecDepth 20000 in
theorem em_X6_fittingWord {d N : Nat} {x1 : Int32} {x2 : Int32} {x3 : Int32} {S0 : rx_S} {zr : Int32} {zS : rx_S} (h : f_X6_fittingWord N x1 x2 x3 S0 = some (zr, zS)) : EM gC (d + 1) mX6_fittingWord [.ref 81, .int x1, .int x2, .int x3] S0 (rx_pi zr zS) := by
  unfold f_X6_fittingWord at h
  show EV gC (d + 1) mX6_fittingWord 0 [some (.ref 81), some (.int x1), some (.int x2), some (.int x3), none, none, none] [] S0 (rx_pi zr zS)
  refine ev_iload_n (i := 3) 1 dX6_fittingWord_0 rfl rfl rfl ?_
  obtain ⟨x6, S5, g7, h⟩ := rx_bd_o h
  refine ev_cSi1 4 dX6_fittingWord_1 (em_X5_size g7) mm_X5_size ms_X5_size lk_6_71 (Nat.le_of_ble_eq_true rfl) (Nat.le_of_ble_eq_true rfl) rfl ?_
  refine ev_istore (ls' := [some (.ref 81), some (.int x1), some (.int x2), some (.int x3), some (.int x6), none, none]) 6 dX6_fittingWord_4 (Nat.le_of_ble_eq_true rfl) rfl rfl ?_
  refine ev_iconst (v := 0) 7 dX6_fittingWord_6 (by decide) rfl ?_
  refine ev_istore (ls' := [some (.ref 81), some (.int x1), some (.int x2), some (.int x3), some (.int x6), some (.int 0), none]) 9 dX6_fittingWord_7 (Nat.le_of_ble_eq_true rfl) rfl rfl ?_
  exact (em_X6_fittingWord_L9 _ _ _ _ _ _ _ h).fewer (rx_le_s (rx_le_s (rx_le_s (rx_le_s (rx_le_s (rx_le_s (rx_le_n rx_le_0)))))))

def f_X6_markEnds_L55 (N : Nat) (K97 : Int32 → Int32 → rx_S → Option (Unit × rx_S)) : Nat → Int32 → Int32 → Int32 → rx_S → Option (Unit × rx_S)
  | 0, _, _, _, _ => none
  | n + 1, x19, x20, x21, S22 => if (5 : Int32) < x21 then (K97 x19 x20 S22) else (rx_bd (f_X6_endAt x20 x21 S22) (fun x28 S27 => rx_bd (f_X6_fittingWord N x20 x21 x19 S27) (fun x31 S30 => rx_let (fun (x33 : Int32) (x34 : Int32) (x35 : Int32) (x36 : Int32) (x37 : Int32) (S38 : rx_S) => rx_gd x36 30 (rx_let (rx_ui S38 85 (Int32.toNatClampNeg x36) (vp_nar .boolean x37)) (fun S40 => rx_let (x35 + 1) (fun x41 => f_X6_markEnds_L55 N K97 n x33 x34 x41 S40)))) (fun J90_3 => if x31 = (-1) then (J90_3 x19 x20 x21 x28 0 S30) else (J90_3 x19 x20 x21 x28 1 S30)))))
def f_X6_markEnds_L47 (N : Nat) : Nat → Int32 → Int32 → rx_S → Option (Unit × rx_S)
  | 0, _, _, _ => none
  | n + 1, x11, x12, S13 => if x12 < 0 then (some ((), S13)) else (rx_let (fun (x15 : Int32) (x16 : Int32) (S17 : rx_S) => rx_let (x16 + (-1)) (fun x18 => f_X6_markEnds_L47 N n x15 x18 S17)) (fun J97_2 => f_X6_markEnds_L55 N J97_2 N x11 x12 0 S13))
def f_X6_markEnds_L8 (N : Nat) (K42 : Int32 → Int32 → rx_S → Option (Unit × rx_S)) : Nat → Int32 → Int32 → Int32 → Int32 → rx_S → Option (Unit × rx_S)
  | 0, _, _, _, _, _ => none
  | n + 1, x43, x44, x45, x46, S47 => if (5 : Int32) < x46 then (K42 x43 x44 S47) else (rx_bd (f_X6_endAt x43 x46 S47) (fun x53 S52 => rx_let (fun (x55 : Int32) (x56 : Int32) (x57 : Int32) (x58 : Int32) (x59 : Int32) (x60 : Int32) (S61 : rx_S) => rx_gd x59 30 (rx_let (rx_ui S61 85 (Int32.toNatClampNeg x59) (vp_nar .boolean x60)) (fun S63 => rx_let (x58 + 1) (fun x64 => f_X6_markEnds_L8 N K42 n x55 x56 x57 x64 S63)))) (fun J35_4 => if x46 = x45 then (J35_4 x43 x44 x45 x46 x53 1 S52) else (J35_4 x43 x44 x45 x46 x53 0 S52))))
def f_X6_markEnds (N : Nat) (x1 : Int32) (x2 : Int32) (S0 : rx_S) : Option (Unit × rx_S) := rx_bd (f_X5_size N x2 S0) (fun x5 S4 => rx_let (fun (x7 : Int32) (x8 : Int32) (S9 : rx_S) => rx_let (x7 - 1) (fun x10 => f_X6_markEnds_L47 N N x8 x10 S9)) (fun J42_1 => f_X6_markEnds_L8 N J42_1 N x1 x2 x5 0 S4))
set_option maxHeartbeats 4000000 in
set_option maxRecDepth 20000 in
theorem em_X6_markEnds_L55 {d N : Nat} {K97 : Int32 → Int32 → rx_S → Option (Unit × rx_S)} {zr : Unit} {zS : rx_S} (hK97 : ∀ (x23 : Int32) (x24 : Int32) (S25 : rx_S), K97 x23 x24 S25 = some (zr, zS) → EV gC (d + 2) mX6_markEnds 97 [some (.ref 81), none, some (.int x23), none, some (.int x24), none] [] S25 (rx_pv zS)) : ∀ (n : Nat) (x19 : Int32) (x20 : Int32) (x21 : Int32) (S22 : rx_S), f_X6_markEnds_L55 N K97 n x19 x20 x21 S22 = some (zr, zS) → EV gC (d + 2) mX6_markEnds 55 [some (.ref 81), none, some (.int x19), none, some (.int x20), some (.int x21)] [] S22 (rx_pv zS) := by
  intro n
  induction n with
  | zero => intro x19 x20 x21 S22 h; cases h
  | succ n ih =>
    intro x19 x20 x21 S22 h
    rw [f_X6_markEnds_L55] at h
    refine ev_iload 57 dX6_markEnds_55 rfl rfl ?_
    refine ev_iconst (v := 5) 58 dX6_markEnds_57 (by decide) rfl ?_
    refine ev_icmp_gt 97 61 dX6_markEnds_58 rfl rfl (fun c26 => ?_) (fun c26 => ?_)
    · replace h := rx_if_t c26 h
      exact (hK97 _ _ _ h).fewer (rx_le_s (rx_le_n (rx_le_s (rx_le_n (rx_le_s (rx_le_n rx_le_0))))))
    · replace h := rx_if_f c26 h
      refine ev_aload_n (i := 0) 62 dX6_markEnds_61 rfl rfl rfl ?_
      refine ev_get (v := .ref 85) 65 dX6_markEnds_62 dk_81 fl_6_22 (by decide) rfl rfl rfl ?_
      refine ev_iload 67 dX6_markEnds_65 rfl rfl ?_
      refine ev_iload 69 dX6_markEnds_67 rfl rfl ?_
      obtain ⟨x28, S27, g29, h⟩ := rx_bd_o h
      refine ev_cSi2 72 dX6_markEnds_69 (em_X6_endAt g29) mm_X6_endAt ms_X6_endAt lk_6_75 (Nat.le_of_ble_eq_true rfl) (Nat.le_of_ble_eq_true rfl) rfl ?_
      refine ev_aload_n (i := 0) 73 dX6_markEnds_72 rfl rfl rfl ?_
      refine ev_iload 75 dX6_markEnds_73 rfl rfl ?_
      refine ev_iload 77 dX6_markEnds_75 rfl rfl ?_
      refine ev_iload_n (i := 2) 78 dX6_markEnds_77 rfl rfl rfl ?_
      obtain ⟨x31, S30, g32, h⟩ := rx_bd_o h
      refine ev_cVi3 81 dX6_markEnds_78 (em_X6_fittingWord g32) mm_X6_fittingWord mv_X6_fittingWord lk_6_78 dk_81 (by decide) rfl (Nat.le_of_ble_eq_true rfl) (Nat.le_of_ble_eq_true rfl) rfl ?_
      refine ev_iconst (v := (-1)) 82 dX6_markEnds_81 (by decide) rfl ?_
      obtain ⟨J90_3, eJ90_3, h⟩ := rx_let_o h
      have hJ90_3 : ∀ (x33 : Int32) (x34 : Int32) (x35 : Int32) (x36 : Int32) (x37 : Int32) (S38 : rx_S), J90_3 x33 x34 x35 x36 x37 S38 = some (zr, zS) → EV gC (d + 2) mX6_markEnds 90 [some (.ref 81), none, some (.int x33), none, some (.int x34), some (.int x35)] [.int x37, .int x36, .ref 85] S38 (rx_pv zS) := by
        intro x33 x34 x35 x36 x37 S38 h
        subst eJ90_3
        obtain ⟨g39, h⟩ := rx_gd_o h
        obtain ⟨S40, eS40, h⟩ := rx_let_o h
        refine ex_zast _ 91 dX6_markEnds_90 dk_85 g39 rfl rfl eS40 ?_
        obtain ⟨x41, ex41, h⟩ := rx_let_o h
        refine ev_iinc (v := x41) (ls' := [some (.ref 81), none, some (.int x33), none, some (.int x34), some (.int x41)]) 94 dX6_markEnds_91 rfl (by rw [ex41]; rfl) (Nat.le_of_ble_eq_true rfl) rfl rfl ?_
        refine ev_goto 55 dX6_markEnds_94 rfl ?_
        exact (ih _ _ _ _ h).fewer (rx_le_s (rx_le_n (rx_le_s (rx_le_n (rx_le_s (rx_le_s rx_le_0))))))
      refine ev_icmp_eq 89 85 dX6_markEnds_82 rfl rfl (fun c42 => ?_) (fun c42 => ?_)
      · replace h := rx_if_t c42 h
        refine ev_iconst (v := 0) 90 dX6_markEnds_89 (by decide) rfl ?_
        exact (hJ90_3 _ _ _ _ _ _ h).fewer (rx_le_s (rx_le_n (rx_le_s (rx_le_n (rx_le_s (rx_le_s rx_le_0))))))
      · replace h := rx_if_f c42 h
        refine ev_iconst (v := 1) 86 dX6_markEnds_85 (by decide) rfl ?_
        refine ev_goto 90 dX6_markEnds_86 rfl ?_
        exact (hJ90_3 _ _ _ _ _ _ h).fewer (rx_le_s (rx_le_n (rx_le_s (rx_le_n (rx_le_s (rx_le_s rx_le_0))))))

set_option maxHeartbeats 4000000 in
set_option maxRecDepth 20000 in
theorem em_X6_markEnds_L47 {d N : Nat} {zr : Unit} {zS : rx_S} : ∀ (n : Nat) (x11 : Int32) (x12 : Int32) (S13 : rx_S), f_X6_markEnds_L47 N n x11 x12 S13 = some (zr, zS) → EV gC (d + 2) mX6_markEnds 47 [some (.ref 81), none, some (.int x11), none, some (.int x12), none] [] S13 (rx_pv zS) := by
  intro n
  induction n with
  | zero => intro x11 x12 S13 h; cases h
  | succ n ih =>
    intro x11 x12 S13 h
    rw [f_X6_markEnds_L47] at h
    refine ev_iload 49 dX6_markEnds_47 rfl rfl ?_
    refine ev_if_lt 103 52 dX6_markEnds_49 rfl rfl (fun c14 => ?_) (fun c14 => ?_)
    · replace h := rx_if_t c14 h
      exact ev_return dX6_markEnds_103 rfl (rx_ret_v h)
    · replace h := rx_if_f c14 h
      refine ev_iconst (v := 0) 53 dX6_markEnds_52 (by decide) rfl ?_
      refine ev_istore (ls' := [some (.ref 81), none, some (.int x11), none, some (.int x12), some (.int 0)]) 55 dX6_markEnds_53 (Nat.le_of_ble_eq_true rfl) rfl rfl ?_
      obtain ⟨J97_2, eJ97_2, h⟩ := rx_let_o h
      have hJ97_2 : ∀ (x15 : Int32) (x16 : Int32) (S17 : rx_S), J97_2 x15 x16 S17 = some (zr, zS) → EV gC (d + 2) mX6_markEnds 97 [some (.ref 81), none, some (.int x15), none, some (.int x16), none] [] S17 (rx_pv zS) := by
        intro x15 x16 S17 h
        subst eJ97_2
        obtain ⟨x18, ex18, h⟩ := rx_let_o h
        refine ev_iinc (v := x18) (ls' := [some (.ref 81), none, some (.int x15), none, some (.int x18), none]) 100 dX6_markEnds_97 rfl (by rw [ex18]; rfl) (Nat.le_of_ble_eq_true rfl) rfl rfl ?_
        refine ev_goto 47 dX6_markEnds_100 rfl ?_
        exact (ih _ _ _ h).fewer (rx_le_s (rx_le_n (rx_le_s (rx_le_n (rx_le_s (rx_le_n rx_le_0))))))
      exact (em_X6_markEnds_L55 hJ97_2 _ _ _ _ _ h).fewer (rx_le_s (rx_le_n (rx_le_s (rx_le_n (rx_le_s (rx_le_s rx_le_0))))))

set_option maxHeartbeats 4000000 in
set_option maxRecDepth 20000 in
theorem em_X6_markEnds_L8 {d N : Nat} {K42 : Int32 → Int32 → rx_S → Option (Unit × rx_S)} {zr : Unit} {zS : rx_S} (hK42 : ∀ (x48 : Int32) (x49 : Int32) (S50 : rx_S), K42 x48 x49 S50 = some (zr, zS) → EV gC (d + 2) mX6_markEnds 42 [some (.ref 81), some (.int x48), some (.int x49), none, none, none] [] S50 (rx_pv zS)) : ∀ (n : Nat) (x43 : Int32) (x44 : Int32) (x45 : Int32) (x46 : Int32) (S47 : rx_S), f_X6_markEnds_L8 N K42 n x43 x44 x45 x46 S47 = some (zr, zS) → EV gC (d + 2) mX6_markEnds 8 [some (.ref 81), some (.int x43), some (.int x44), some (.int x45), some (.int x46), none] [] S47 (rx_pv zS) := by
  intro n
  induction n with
  | zero => intro x43 x44 x45 x46 S47 h; cases h
  | succ n ih =>
    intro x43 x44 x45 x46 S47 h
    rw [f_X6_markEnds_L8] at h
    refine ev_iload 10 dX6_markEnds_8 rfl rfl ?_
    refine ev_iconst (v := 5) 11 dX6_markEnds_10 (by decide) rfl ?_
    refine ev_icmp_gt 42 14 dX6_markEnds_11 rfl rfl (fun c51 => ?_) (fun c51 => ?_)
    · replace h := rx_if_t c51 h
      exact (hK42 _ _ _ h).fewer (rx_le_s (rx_le_s (rx_le_s (rx_le_n (rx_le_n (rx_le_n rx_le_0))))))
    · replace h := rx_if_f c51 h
      refine ev_aload_n (i := 0) 15 dX6_markEnds_14 rfl rfl rfl ?_
      refine ev_get (v := .ref 85) 18 dX6_markEnds_15 dk_81 fl_6_22 (by decide) rfl rfl rfl ?_
      refine ev_iload_n (i := 1) 19 dX6_markEnds_18 rfl rfl rfl ?_
      refine ev_iload 21 dX6_markEnds_19 rfl rfl ?_
      obtain ⟨x53, S52, g54, h⟩ := rx_bd_o h
      refine ev_cSi2 24 dX6_markEnds_21 (em_X6_endAt g54) mm_X6_endAt ms_X6_endAt lk_6_75 (Nat.le_of_ble_eq_true rfl) (Nat.le_of_ble_eq_true rfl) rfl ?_
      refine ev_iload 26 dX6_markEnds_24 rfl rfl ?_
      refine ev_iload_n (i := 3) 27 dX6_markEnds_26 rfl rfl rfl ?_
      obtain ⟨J35_4, eJ35_4, h⟩ := rx_let_o h
      have hJ35_4 : ∀ (x55 : Int32) (x56 : Int32) (x57 : Int32) (x58 : Int32) (x59 : Int32) (x60 : Int32) (S61 : rx_S), J35_4 x55 x56 x57 x58 x59 x60 S61 = some (zr, zS) → EV gC (d + 2) mX6_markEnds 35 [some (.ref 81), some (.int x55), some (.int x56), some (.int x57), some (.int x58), none] [.int x60, .int x59, .ref 85] S61 (rx_pv zS) := by
        intro x55 x56 x57 x58 x59 x60 S61 h
        subst eJ35_4
        obtain ⟨g62, h⟩ := rx_gd_o h
        obtain ⟨S63, eS63, h⟩ := rx_let_o h
        refine ex_zast _ 36 dX6_markEnds_35 dk_85 g62 rfl rfl eS63 ?_
        obtain ⟨x64, ex64, h⟩ := rx_let_o h
        refine ev_iinc (v := x64) (ls' := [some (.ref 81), some (.int x55), some (.int x56), some (.int x57), some (.int x64), none]) 39 dX6_markEnds_36 rfl (by rw [ex64]; rfl) (Nat.le_of_ble_eq_true rfl) rfl rfl ?_
        refine ev_goto 8 dX6_markEnds_39 rfl ?_
        exact (ih _ _ _ _ _ h).fewer (rx_le_s (rx_le_s (rx_le_s (rx_le_s (rx_le_s (rx_le_n rx_le_0))))))
      refine ev_icmp_ne 34 30 dX6_markEnds_27 rfl rfl (fun c65 => ?_) (fun c65 => ?_)
      · replace h := rx_if_f c65 h
        refine ev_iconst (v := 0) 35 dX6_markEnds_34 (by decide) rfl ?_
        exact (hJ35_4 _ _ _ _ _ _ _ h).fewer (rx_le_s (rx_le_s (rx_le_s (rx_le_s (rx_le_s (rx_le_n rx_le_0))))))
      · replace h := rx_if_t c65 h
        refine ev_iconst (v := 1) 31 dX6_markEnds_30 (by decide) rfl ?_
        refine ev_goto 35 dX6_markEnds_31 rfl ?_
        exact (hJ35_4 _ _ _ _ _ _ _ h).fewer (rx_le_s (rx_le_s (rx_le_s (rx_le_s (rx_le_s (rx_le_n rx_le_0))))))

set_option maxHeartbeats 4000000 in
set_option maxRecDepth 20000 in
theorem em_X6_markEnds {d N : Nat} {x1 : Int32} {x2 : Int32} {S0 : rx_S} {zr : Unit} {zS : rx_S} (h : f_X6_markEnds N x1 x2 S0 = some (zr, zS)) : EM gC (d + 2) mX6_markEnds [.ref 81, .int x1, .int x2] S0 (rx_pv zS) := by
  unfold f_X6_markEnds at h
  show EV gC (d + 2) mX6_markEnds 0 [some (.ref 81), some (.int x1), some (.int x2), none, none, none] [] S0 (rx_pv zS)
  refine ev_iload_n (i := 2) 1 dX6_markEnds_0 rfl rfl rfl ?_
  obtain ⟨x5, S4, g6, h⟩ := rx_bd_o h
  refine ev_cSi1 4 dX6_markEnds_1 (em_X5_size g6) mm_X5_size ms_X5_size lk_6_71 (Nat.le_of_ble_eq_true rfl) (Nat.le_of_ble_eq_true rfl) rfl ?_
  refine ev_istore_n (ls' := [some (.ref 81), some (.int x1), some (.int x2), some (.int x5), none, none]) 5 dX6_markEnds_4 rfl (Nat.le_of_ble_eq_true rfl) rfl rfl ?_
  refine ev_iconst (v := 0) 6 dX6_markEnds_5 (by decide) rfl ?_
  refine ev_istore (ls' := [some (.ref 81), some (.int x1), some (.int x2), some (.int x5), some (.int 0), none]) 8 dX6_markEnds_6 (Nat.le_of_ble_eq_true rfl) rfl rfl ?_
  obtain ⟨J42_1, eJ42_1, h⟩ := rx_let_o h
  have hJ42_1 : ∀ (x7 : Int32) (x8 : Int32) (S9 : rx_S), J42_1 x7 x8 S9 = some (zr, zS) → EV gC (d + 2) mX6_markEnds 42 [some (.ref 81), some (.int x7), some (.int x8), none, none, none] [] S9 (rx_pv zS) := by
    intro x7 x8 S9 h
    subst eJ42_1
    refine ev_iload_n (i := 1) 43 dX6_markEnds_42 rfl rfl rfl ?_
    refine ev_iconst (v := 1) 44 dX6_markEnds_43 (by decide) rfl ?_
    refine ev_isub 45 dX6_markEnds_44 rfl ?_
    obtain ⟨x10, ex10, h⟩ := rx_let_o h
    refine ev_nm ex10 ?_
    refine ev_istore (ls' := [some (.ref 81), some (.int x7), some (.int x8), none, some (.int x10), none]) 47 dX6_markEnds_45 (Nat.le_of_ble_eq_true rfl) rfl rfl ?_
    exact (em_X6_markEnds_L47 _ _ _ _ h).fewer (rx_le_s (rx_le_n (rx_le_s (rx_le_n (rx_le_s (rx_le_n rx_le_0))))))
  exact (em_X6_markEnds_L8 hJ42_1 _ _ _ _ _ _ h).fewer (rx_le_s (rx_le_s (rx_le_s (rx_le_s (rx_le_s (rx_le_n rx_le_0))))))

def f_X6_leastRow_L8 (N : Nat) : Nat → Int32 → Int32 → Int32 → Int32 → Int32 → rx_S → Option (Int32 × rx_S)
  | 0, _, _, _, _, _, _ => none
  | n + 1, x4, x5, x6, x7, x8, S9 => if x4 ≤ x8 then (some (x6, S9)) else (if (5 : Int32) < x7 then (some (x6, S9)) else (rx_bd (f_X6_fittingWord N x8 x7 x5 S9) (fun x13 S12 => if x13 = (-1) then (some ((-2), S12)) else (rx_gd ((x8 * 8) + x13) 32 (rx_let (fun (x17 : Int32) (x18 : Int32) (x19 : Int32) (x20 : Int32) (x21 : Int32) (x22 : Int32) (x23 : Int32) (S24 : rx_S) => rx_let (x22 + x23) (fun x25 => rx_bd (f_X5_with x19 x21 S24) (fun x27 S26 => rx_let (x20 + 1) (fun x29 => f_X6_leastRow_L8 N n x17 x18 x27 x25 x29 S26)))) (fun J65_1 => if (S12.1 84 (Int32.toNatClampNeg ((x8 * 8) + x13))) = 8 then (J65_1 x4 x5 x6 x8 x13 x7 0 S12) else (J65_1 x4 x5 x6 x8 x13 x7 1 S12)))))))
def f_X6_leastRow (N : Nat) (x1 : Int32) (x2 : Int32) (S0 : rx_S) : Option (Int32 × rx_S) := f_X6_leastRow_L8 N N x1 x2 1 0 0 S0
set_option maxHeartbeats 4000000 in
set_option maxRecDepth 20000 in
theorem em_X6_leastRow_L8 {d N : Nat} {zr : Int32} {zS : rx_S} : ∀ (n : Nat) (x4 : Int32) (x5 : Int32) (x6 : Int32) (x7 : Int32) (x8 : Int32) (S9 : rx_S), f_X6_leastRow_L8 N n x4 x5 x6 x7 x8 S9 = some (zr, zS) → EV gC (d + 2) mX6_leastRow 8 [some (.ref 81), some (.int x4), some (.int x5), some (.int x6), some (.int x7), some (.int x8), none] [] S9 (rx_pi zr zS) := by
  intro n
  induction n with
  | zero => intro x4 x5 x6 x7 x8 S9 h; cases h
  | succ n ih =>
    intro x4 x5 x6 x7 x8 S9 h
    rw [f_X6_leastRow_L8] at h
    refine ev_iload 10 dX6_leastRow_8 rfl rfl ?_
    refine ev_iload_n (i := 1) 11 dX6_leastRow_10 rfl rfl rfl ?_
    refine ev_icmp_ge 81 14 dX6_leastRow_11 rfl rfl (fun c10 => ?_) (fun c10 => ?_)
    · replace h := rx_if_t c10 h
      refine ev_iload_n (i := 3) 82 dX6_leastRow_81 rfl rfl rfl ?_
      exact ev_ireturn dX6_leastRow_82 rfl (rx_ret_i h)
    · replace h := rx_if_f c10 h
      refine ev_iload 16 dX6_leastRow_14 rfl rfl ?_
      refine ev_iconst (v := 5) 17 dX6_leastRow_16 (by decide) rfl ?_
      refine ev_icmp_gt 81 20 dX6_leastRow_17 rfl rfl (fun c11 => ?_) (fun c11 => ?_)
      · replace h := rx_if_t c11 h
        refine ev_iload_n (i := 3) 82 dX6_leastRow_81 rfl rfl rfl ?_
        exact ev_ireturn dX6_leastRow_82 rfl (rx_ret_i h)
      · replace h := rx_if_f c11 h
        refine ev_aload_n (i := 0) 21 dX6_leastRow_20 rfl rfl rfl ?_
        refine ev_iload 23 dX6_leastRow_21 rfl rfl ?_
        refine ev_iload 25 dX6_leastRow_23 rfl rfl ?_
        refine ev_iload_n (i := 2) 26 dX6_leastRow_25 rfl rfl rfl ?_
        obtain ⟨x13, S12, g14, h⟩ := rx_bd_o h
        refine ev_cVi3 29 dX6_leastRow_26 (em_X6_fittingWord g14) mm_X6_fittingWord mv_X6_fittingWord lk_6_78 dk_81 (by decide) rfl (Nat.le_of_ble_eq_true rfl) (Nat.le_of_ble_eq_true rfl) rfl ?_
        refine ev_istore (ls' := [some (.ref 81), some (.int x4), some (.int x5), some (.int x6), some (.int x7), some (.int x8), some (.int x13)]) 31 dX6_leastRow_29 (Nat.le_of_ble_eq_true rfl) rfl rfl ?_
        refine ev_iload 33 dX6_leastRow_31 rfl rfl ?_
        refine ev_iconst (v := (-1)) 34 dX6_leastRow_33 (by decide) rfl ?_
        refine ev_icmp_ne 40 37 dX6_leastRow_34 rfl rfl (fun c15 => ?_) (fun c15 => ?_)
        · replace h := rx_if_f c15 h
          refine ev_iload 42 dX6_leastRow_40 rfl rfl ?_
          refine ev_aload_n (i := 0) 43 dX6_leastRow_42 rfl rfl rfl ?_
          refine ev_get (v := .ref 84) 46 dX6_leastRow_43 dk_81 fl_6_18 (by decide) rfl rfl rfl ?_
          refine ev_iload 48 dX6_leastRow_46 rfl rfl ?_
          refine ev_bipush (v := 8) 50 dX6_leastRow_48 (by decide) rfl ?_
          refine ev_imul 51 dX6_leastRow_50 rfl ?_
          refine ev_iload 53 dX6_leastRow_51 rfl rfl ?_
          refine ev_iadd 54 dX6_leastRow_53 rfl ?_
          obtain ⟨g16, h⟩ := rx_gd_o h
          refine ex_iald _ 55 dX6_leastRow_54 dk_84 g16 rfl rfl ?_
          refine ev_bipush (v := 8) 57 dX6_leastRow_55 (by decide) rfl ?_
          obtain ⟨J65_1, eJ65_1, h⟩ := rx_let_o h
          have hJ65_1 : ∀ (x17 : Int32) (x18 : Int32) (x19 : Int32) (x20 : Int32) (x21 : Int32) (x22 : Int32) (x23 : Int32) (S24 : rx_S), J65_1 x17 x18 x19 x20 x21 x22 x23 S24 = some (zr, zS) → EV gC (d + 2) mX6_leastRow 65 [some (.ref 81), some (.int x17), some (.int x18), some (.int x19), none, some (.int x20), some (.int x21)] [.int x23, .int x22] S24 (rx_pi zr zS) := by
            intro x17 x18 x19 x20 x21 x22 x23 S24 h
            subst eJ65_1
            refine ev_iadd 66 dX6_leastRow_65 rfl ?_
            obtain ⟨x25, ex25, h⟩ := rx_let_o h
            refine ev_nm ex25 ?_
            refine ev_istore (ls' := [some (.ref 81), some (.int x17), some (.int x18), some (.int x19), some (.int x25), some (.int x20), some (.int x21)]) 68 dX6_leastRow_66 (Nat.le_of_ble_eq_true rfl) rfl rfl ?_
            refine ev_iload_n (i := 3) 69 dX6_leastRow_68 rfl rfl rfl ?_
            refine ev_iload 71 dX6_leastRow_69 rfl rfl ?_
            obtain ⟨x27, S26, g28, h⟩ := rx_bd_o h
            refine ev_cSi2 74 dX6_leastRow_71 (em_X5_with g28) mm_X5_with ms_X5_with lk_6_85 (Nat.le_of_ble_eq_true rfl) (Nat.le_of_ble_eq_true rfl) rfl ?_
            refine ev_istore_n (ls' := [some (.ref 81), some (.int x17), some (.int x18), some (.int x27), some (.int x25), some (.int x20), some (.int x21)]) 75 dX6_leastRow_74 rfl (Nat.le_of_ble_eq_true rfl) rfl rfl ?_
            obtain ⟨x29, ex29, h⟩ := rx_let_o h
            refine ev_iinc (v := x29) (ls' := [some (.ref 81), some (.int x17), some (.int x18), some (.int x27), some (.int x25), some (.int x29), some (.int x21)]) 78 dX6_leastRow_75 rfl (by rw [ex29]; rfl) (Nat.le_of_ble_eq_true rfl) rfl rfl ?_
            refine ev_goto 8 dX6_leastRow_78 rfl ?_
            exact (ih _ _ _ _ _ _ h).fewer (rx_le_s (rx_le_s (rx_le_s (rx_le_s (rx_le_s (rx_le_s (rx_le_n rx_le_0)))))))
          refine ev_icmp_ne 64 60 dX6_leastRow_57 rfl rfl (fun c30 => ?_) (fun c30 => ?_)
          · replace h := rx_if_f c30 h
            refine ev_iconst (v := 1) 65 dX6_leastRow_64 (by decide) rfl ?_
            exact (hJ65_1 _ _ _ _ _ _ _ _ h).fewer (rx_le_s (rx_le_s (rx_le_s (rx_le_s (rx_le_n (rx_le_s (rx_le_s rx_le_0)))))))
          · replace h := rx_if_t c30 h
            refine ev_iconst (v := 0) 61 dX6_leastRow_60 (by decide) rfl ?_
            refine ev_goto 65 dX6_leastRow_61 rfl ?_
            exact (hJ65_1 _ _ _ _ _ _ _ _ h).fewer (rx_le_s (rx_le_s (rx_le_s (rx_le_s (rx_le_n (rx_le_s (rx_le_s rx_le_0)))))))
        · replace h := rx_if_t c15 h
          refine ev_bipush (v := (-2)) 39 dX6_leastRow_37 (by decide) rfl ?_
          exact ev_ireturn dX6_leastRow_39 rfl (rx_ret_i h)

set_option maxHeartbeats 4000000 in
set_option maxRecDepth 20000 in
theorem em_X6_leastRow {d N : Nat} {x1 : Int32} {x2 : Int32} {S0 : rx_S} {zr : Int32} {zS : rx_S} (h : f_X6_leastRow N x1 x2 S0 = some (zr, zS)) : EM gC (d + 2) mX6_leastRow [.ref 81, .int x1, .int x2] S0 (rx_pi zr zS) := by
  unfold f_X6_leastRow at h
  show EV gC (d + 2) mX6_leastRow 0 [some (.ref 81), some (.int x1), some (.int x2), none, none, none, none] [] S0 (rx_pi zr zS)
  refine ev_iconst (v := 1) 1 dX6_leastRow_0 (by decide) rfl ?_
  refine ev_istore_n (ls' := [some (.ref 81), some (.int x1), some (.int x2), some (.int 1), none, none, none]) 2 dX6_leastRow_1 rfl (Nat.le_of_ble_eq_true rfl) rfl rfl ?_
  refine ev_iconst (v := 0) 3 dX6_leastRow_2 (by decide) rfl ?_
  refine ev_istore (ls' := [some (.ref 81), some (.int x1), some (.int x2), some (.int 1), some (.int 0), none, none]) 5 dX6_leastRow_3 (Nat.le_of_ble_eq_true rfl) rfl rfl ?_
  refine ev_iconst (v := 0) 6 dX6_leastRow_5 (by decide) rfl ?_
  refine ev_istore (ls' := [some (.ref 81), some (.int x1), some (.int x2), some (.int 1), some (.int 0), some (.int 0), none]) 8 dX6_leastRow_6 (Nat.le_of_ble_eq_true rfl) rfl rfl ?_
  exact (em_X6_leastRow_L8 _ _ _ _ _ _ _ h).fewer (rx_le_s (rx_le_s (rx_le_s (rx_le_s (rx_le_s (rx_le_s (rx_le_n rx_le_0)))))))

def f_X6_rowPutAs_L60 (N : Nat) (K82 : Int32 → Int32 → rx_S → Option (Int32 × rx_S)) : Nat → Int32 → Int32 → rx_S → Option (Int32 × rx_S)
  | 0, _, _, _ => none
  | n + 1, x13, x14, S15 => if (4 : Int32) < x14 then (some ((-2), S15)) else (rx_bd (f_X6_markEnds N x14 x13 S15) (fun x21 S20 => if (S20.1 85 0) = 0 then (rx_let (x14 + 1) (fun x24 => f_X6_rowPutAs_L60 N K82 n x13 x24 S20)) else (K82 x13 x14 S20)))
def f_X6_rowPutAs_L12 (N : Nat) (K51 : Int32 → Int32 → Int32 → rx_S → Option (Int32 × rx_S)) : Nat → Int32 → Int32 → Int32 → Int32 → rx_S → Option (Int32 × rx_S)
  | 0, _, _, _, _, _ => none
  | n + 1, x37, x38, x39, x40, S41 => if (8 : Int32) ≤ x40 then (K51 x37 x38 x39 S41) else (rx_bd (f_X7_putWord 32 N x37 x40 x39 S41) (fun x48 S47 => rx_gd ((x39 * 8) + x40) 32 (rx_let (rx_ui S47 84 (Int32.toNatClampNeg ((x39 * 8) + x40)) x48) (fun S51 => rx_let (x40 + 1) (fun x52 => f_X6_rowPutAs_L12 N K51 n x37 x38 x39 x52 S51)))))
def f_X6_rowPutAs_L3 (N : Nat) (K57 : Int32 → rx_S → Option (Int32 × rx_S)) : Nat → Int32 → Int32 → Int32 → rx_S → Option (Int32 × rx_S)
  | 0, _, _, _, _ => none
  | n + 1, x25, x26, x27, S28 => if (4 : Int32) ≤ x27 then (K57 x26 S28) else (rx_let (fun (x32 : Int32) (x33 : Int32) (x34 : Int32) (S35 : rx_S) => rx_let (x34 + 1) (fun x36 => f_X6_rowPutAs_L3 N K57 n x32 x33 x36 S35)) (fun J51_3 => f_X6_rowPutAs_L12 N J51_3 N x25 x26 x27 0 S28))
def f_X6_rowPutAs (N : Nat) (x2 : Int32) (x3 : Int32) (S0 : rx_S) : Option (Int32 × rx_S) := rx_let (fun (x5 : Int32) (S6 : rx_S) => rx_let (fun (x7 : Int32) (x8 : Int32) (S9 : rx_S) => rx_bd (f_X6_leastRow N x8 x7 S9) (fun x11 S10 => some (x11, S10))) (fun J82_2 => f_X6_rowPutAs_L60 N J82_2 N x5 0 S6)) (fun J57_1 => f_X6_rowPutAs_L3 N J57_1 N x2 x3 0 S0)
set_option maxHeartbeats 4000000 in
set_option maxRecDepth 20000 in
theorem em_X6_rowPutAs_L60 {d N : Nat} {K82 : Int32 → Int32 → rx_S → Option (Int32 × rx_S)} {zr : Int32} {zS : rx_S} (hK82 : ∀ (x16 : Int32) (x17 : Int32) (S18 : rx_S), K82 x16 x17 S18 = some (zr, zS) → EV gC (d + 4) mX6_rowPutAs 82 [some (.ref 81), some (.ref 32), none, some (.int x16), some (.int x17), none] [] S18 (rx_pi zr zS)) : ∀ (n : Nat) (x13 : Int32) (x14 : Int32) (S15 : rx_S), f_X6_rowPutAs_L60 N K82 n x13 x14 S15 = some (zr, zS) → EV gC (d + 4) mX6_rowPutAs 60 [some (.ref 81), some (.ref 32), none, some (.int x13), some (.int x14), none] [] S15 (rx_pi zr zS) := by
  intro n
  induction n with
  | zero => intro x13 x14 S15 h; cases h
  | succ n ih =>
    intro x13 x14 S15 h
    rw [f_X6_rowPutAs_L60] at h
    refine ev_iload 62 dX6_rowPutAs_60 rfl rfl ?_
    refine ev_iconst (v := 4) 63 dX6_rowPutAs_62 (by decide) rfl ?_
    refine ev_icmp_gt 96 66 dX6_rowPutAs_63 rfl rfl (fun c19 => ?_) (fun c19 => ?_)
    · replace h := rx_if_t c19 h
      refine ev_bipush (v := (-2)) 98 dX6_rowPutAs_96 (by decide) rfl ?_
      exact ev_ireturn dX6_rowPutAs_98 rfl (rx_ret_i h)
    · replace h := rx_if_f c19 h
      refine ev_aload_n (i := 0) 67 dX6_rowPutAs_66 rfl rfl rfl ?_
      refine ev_iload 69 dX6_rowPutAs_67 rfl rfl ?_
      refine ev_iload_n (i := 3) 70 dX6_rowPutAs_69 rfl rfl rfl ?_
      obtain ⟨x21, S20, g22, h⟩ := rx_bd_o h
      refine ev_cVv2 73 dX6_rowPutAs_70 (em_X6_markEnds g22) mm_X6_markEnds mv_X6_markEnds lk_6_64 dk_81 (by decide) rfl (Nat.le_of_ble_eq_true rfl) (Nat.le_of_ble_eq_true rfl) rfl ?_
      refine ev_aload_n (i := 0) 74 dX6_rowPutAs_73 rfl rfl rfl ?_
      refine ev_get (v := .ref 85) 77 dX6_rowPutAs_74 dk_81 fl_6_22 (by decide) rfl rfl rfl ?_
      refine ev_iconst (v := 0) 78 dX6_rowPutAs_77 (by decide) rfl ?_
      refine ex_zald 0 79 dX6_rowPutAs_78 dk_85 (rx_vin (by decide)) (by decide) rfl ?_
      refine ev_if_eq 90 82 dX6_rowPutAs_79 rfl rfl (fun c23 => ?_) (fun c23 => ?_)
      · replace h := rx_if_t c23 h
        obtain ⟨x24, ex24, h⟩ := rx_let_o h
        refine ev_iinc (v := x24) (ls' := [some (.ref 81), some (.ref 32), none, some (.int x13), some (.int x24), none]) 93 dX6_rowPutAs_90 rfl (by rw [ex24]; rfl) (Nat.le_of_ble_eq_true rfl) rfl rfl ?_
        refine ev_goto 60 dX6_rowPutAs_93 rfl ?_
        exact (ih _ _ _ h).fewer (rx_le_s (rx_le_s (rx_le_n (rx_le_s (rx_le_s (rx_le_n rx_le_0))))))
      · replace h := rx_if_f c23 h
        exact (hK82 _ _ _ h).fewer (rx_le_s (rx_le_s (rx_le_n (rx_le_s (rx_le_s (rx_le_n rx_le_0))))))

set_option maxHeartbeats 4000000 in
set_option maxRecDepth 20000 in
theorem em_X6_rowPutAs_L12 {d N : Nat} {K51 : Int32 → Int32 → Int32 → rx_S → Option (Int32 × rx_S)} {zr : Int32} {zS : rx_S} (hK51 : ∀ (x42 : Int32) (x43 : Int32) (x44 : Int32) (S45 : rx_S), K51 x42 x43 x44 S45 = some (zr, zS) → EV gC (d + 4) mX6_rowPutAs 51 [some (.ref 81), some (.ref 32), some (.int x42), some (.int x43), some (.int x44), none] [] S45 (rx_pi zr zS)) : ∀ (n : Nat) (x37 : Int32) (x38 : Int32) (x39 : Int32) (x40 : Int32) (S41 : rx_S), f_X6_rowPutAs_L12 N K51 n x37 x38 x39 x40 S41 = some (zr, zS) → EV gC (d + 4) mX6_rowPutAs 12 [some (.ref 81), some (.ref 32), some (.int x37), some (.int x38), some (.int x39), some (.int x40)] [] S41 (rx_pi zr zS) := by
  intro n
  induction n with
  | zero => intro x37 x38 x39 x40 S41 h; cases h
  | succ n ih =>
    intro x37 x38 x39 x40 S41 h
    rw [f_X6_rowPutAs_L12] at h
    refine ev_iload 14 dX6_rowPutAs_12 rfl rfl ?_
    refine ev_bipush (v := 8) 16 dX6_rowPutAs_14 (by decide) rfl ?_
    refine ev_icmp_ge 51 19 dX6_rowPutAs_16 rfl rfl (fun c46 => ?_) (fun c46 => ?_)
    · replace h := rx_if_t c46 h
      exact (hK51 _ _ _ _ h).fewer (rx_le_s (rx_le_s (rx_le_s (rx_le_s (rx_le_s (rx_le_n rx_le_0))))))
    · replace h := rx_if_f c46 h
      refine ev_aload_n (i := 0) 20 dX6_rowPutAs_19 rfl rfl rfl ?_
      refine ev_get (v := .ref 84) 23 dX6_rowPutAs_20 dk_81 fl_6_18 (by decide) rfl rfl rfl ?_
      refine ev_iload 25 dX6_rowPutAs_23 rfl rfl ?_
      refine ev_bipush (v := 8) 27 dX6_rowPutAs_25 (by decide) rfl ?_
      refine ev_imul 28 dX6_rowPutAs_27 rfl ?_
      refine ev_iload 30 dX6_rowPutAs_28 rfl rfl ?_
      refine ev_iadd 31 dX6_rowPutAs_30 rfl ?_
      refine ev_aload_n (i := 0) 32 dX6_rowPutAs_31 rfl rfl rfl ?_
      refine ev_get (v := .ref 80) 35 dX6_rowPutAs_32 dk_81 fl_6_36 (by decide) rfl rfl rfl ?_
      refine ev_aload_n (i := 1) 36 dX6_rowPutAs_35 rfl rfl rfl ?_
      refine ev_iload_n (i := 2) 37 dX6_rowPutAs_36 rfl rfl rfl ?_
      refine ev_iload 39 dX6_rowPutAs_37 rfl rfl ?_
      refine ev_iload 41 dX6_rowPutAs_39 rfl rfl ?_
      obtain ⟨x48, S47, g49, h⟩ := rx_bd_o h
      refine ev_cVi4 44 dX6_rowPutAs_41 (em_X7_putWord_32 g49) mm_X7_putWord mv_X7_putWord lk_6_61 dk_80 (by decide) rfl (Nat.le_of_ble_eq_true rfl) (Nat.le_of_ble_eq_true rfl) rfl ?_
      obtain ⟨g50, h⟩ := rx_gd_o h
      obtain ⟨S51, eS51, h⟩ := rx_let_o h
      refine ex_iast _ 45 dX6_rowPutAs_44 dk_84 g50 rfl rfl eS51 ?_
      obtain ⟨x52, ex52, h⟩ := rx_let_o h
      refine ev_iinc (v := x52) (ls' := [some (.ref 81), some (.ref 32), some (.int x37), some (.int x38), some (.int x39), some (.int x52)]) 48 dX6_rowPutAs_45 rfl (by rw [ex52]; rfl) (Nat.le_of_ble_eq_true rfl) rfl rfl ?_
      refine ev_goto 12 dX6_rowPutAs_48 rfl ?_
      exact (ih _ _ _ _ _ h).fewer (rx_le_s (rx_le_s (rx_le_s (rx_le_s (rx_le_s (rx_le_s rx_le_0))))))

set_option maxHeartbeats 4000000 in
set_option maxRecDepth 20000 in
theorem em_X6_rowPutAs_L3 {d N : Nat} {K57 : Int32 → rx_S → Option (Int32 × rx_S)} {zr : Int32} {zS : rx_S} (hK57 : ∀ (x29 : Int32) (S30 : rx_S), K57 x29 S30 = some (zr, zS) → EV gC (d + 4) mX6_rowPutAs 57 [some (.ref 81), some (.ref 32), none, some (.int x29), none, none] [] S30 (rx_pi zr zS)) : ∀ (n : Nat) (x25 : Int32) (x26 : Int32) (x27 : Int32) (S28 : rx_S), f_X6_rowPutAs_L3 N K57 n x25 x26 x27 S28 = some (zr, zS) → EV gC (d + 4) mX6_rowPutAs 3 [some (.ref 81), some (.ref 32), some (.int x25), some (.int x26), some (.int x27), none] [] S28 (rx_pi zr zS) := by
  intro n
  induction n with
  | zero => intro x25 x26 x27 S28 h; cases h
  | succ n ih =>
    intro x25 x26 x27 S28 h
    rw [f_X6_rowPutAs_L3] at h
    refine ev_iload 5 dX6_rowPutAs_3 rfl rfl ?_
    refine ev_iconst (v := 4) 6 dX6_rowPutAs_5 (by decide) rfl ?_
    refine ev_icmp_ge 57 9 dX6_rowPutAs_6 rfl rfl (fun c31 => ?_) (fun c31 => ?_)
    · replace h := rx_if_t c31 h
      exact (hK57 _ _ h).fewer (rx_le_s (rx_le_s (rx_le_n (rx_le_s (rx_le_n (rx_le_n rx_le_0))))))
    · replace h := rx_if_f c31 h
      refine ev_iconst (v := 0) 10 dX6_rowPutAs_9 (by decide) rfl ?_
      refine ev_istore (ls' := [some (.ref 81), some (.ref 32), some (.int x25), some (.int x26), some (.int x27), some (.int 0)]) 12 dX6_rowPutAs_10 (Nat.le_of_ble_eq_true rfl) rfl rfl ?_
      obtain ⟨J51_3, eJ51_3, h⟩ := rx_let_o h
      have hJ51_3 : ∀ (x32 : Int32) (x33 : Int32) (x34 : Int32) (S35 : rx_S), J51_3 x32 x33 x34 S35 = some (zr, zS) → EV gC (d + 4) mX6_rowPutAs 51 [some (.ref 81), some (.ref 32), some (.int x32), some (.int x33), some (.int x34), none] [] S35 (rx_pi zr zS) := by
        intro x32 x33 x34 S35 h
        subst eJ51_3
        obtain ⟨x36, ex36, h⟩ := rx_let_o h
        refine ev_iinc (v := x36) (ls' := [some (.ref 81), some (.ref 32), some (.int x32), some (.int x33), some (.int x36), none]) 54 dX6_rowPutAs_51 rfl (by rw [ex36]; rfl) (Nat.le_of_ble_eq_true rfl) rfl rfl ?_
        refine ev_goto 3 dX6_rowPutAs_54 rfl ?_
        exact (ih _ _ _ _ h).fewer (rx_le_s (rx_le_s (rx_le_s (rx_le_s (rx_le_s (rx_le_n rx_le_0))))))
      exact (em_X6_rowPutAs_L12 hJ51_3 _ _ _ _ _ _ h).fewer (rx_le_s (rx_le_s (rx_le_s (rx_le_s (rx_le_s (rx_le_s rx_le_0))))))

set_option maxHeartbeats 4000000 in
set_option maxRecDepth 20000 in
theorem em_X6_rowPutAs {d N : Nat} {x2 : Int32} {x3 : Int32} {S0 : rx_S} {zr : Int32} {zS : rx_S} (h : f_X6_rowPutAs N x2 x3 S0 = some (zr, zS)) : EM gC (d + 4) mX6_rowPutAs [.ref 81, .ref 32, .int x2, .int x3] S0 (rx_pi zr zS) := by
  unfold f_X6_rowPutAs at h
  show EV gC (d + 4) mX6_rowPutAs 0 [some (.ref 81), some (.ref 32), some (.int x2), some (.int x3), none, none] [] S0 (rx_pi zr zS)
  refine ev_iconst (v := 0) 1 dX6_rowPutAs_0 (by decide) rfl ?_
  refine ev_istore (ls' := [some (.ref 81), some (.ref 32), some (.int x2), some (.int x3), some (.int 0), none]) 3 dX6_rowPutAs_1 (Nat.le_of_ble_eq_true rfl) rfl rfl ?_
  obtain ⟨J57_1, eJ57_1, h⟩ := rx_let_o h
  have hJ57_1 : ∀ (x5 : Int32) (S6 : rx_S), J57_1 x5 S6 = some (zr, zS) → EV gC (d + 4) mX6_rowPutAs 57 [some (.ref 81), some (.ref 32), none, some (.int x5), none, none] [] S6 (rx_pi zr zS) := by
    intro x5 S6 h
    subst eJ57_1
    refine ev_iconst (v := 0) 58 dX6_rowPutAs_57 (by decide) rfl ?_
    refine ev_istore (ls' := [some (.ref 81), some (.ref 32), none, some (.int x5), some (.int 0), none]) 60 dX6_rowPutAs_58 (Nat.le_of_ble_eq_true rfl) rfl rfl ?_
    obtain ⟨J82_2, eJ82_2, h⟩ := rx_let_o h
    have hJ82_2 : ∀ (x7 : Int32) (x8 : Int32) (S9 : rx_S), J82_2 x7 x8 S9 = some (zr, zS) → EV gC (d + 4) mX6_rowPutAs 82 [some (.ref 81), some (.ref 32), none, some (.int x7), some (.int x8), none] [] S9 (rx_pi zr zS) := by
      intro x7 x8 S9 h
      subst eJ82_2
      refine ev_aload_n (i := 0) 83 dX6_rowPutAs_82 rfl rfl rfl ?_
      refine ev_iload 85 dX6_rowPutAs_83 rfl rfl ?_
      refine ev_iload_n (i := 3) 86 dX6_rowPutAs_85 rfl rfl rfl ?_
      obtain ⟨x11, S10, g12, h⟩ := rx_bd_o h
      refine ev_cVi2 89 dX6_rowPutAs_86 (em_X6_leastRow g12) mm_X6_leastRow mv_X6_leastRow lk_6_68 dk_81 (by decide) rfl (Nat.le_of_ble_eq_true rfl) (Nat.le_of_ble_eq_true rfl) rfl ?_
      exact ev_ireturn dX6_rowPutAs_89 rfl (rx_ret_i h)
    exact (em_X6_rowPutAs_L60 hJ82_2 _ _ _ _ h).fewer (rx_le_s (rx_le_s (rx_le_n (rx_le_s (rx_le_s (rx_le_n rx_le_0))))))
  exact (em_X6_rowPutAs_L3 hJ57_1 _ _ _ _ _ h).fewer (rx_le_s (rx_le_s (rx_le_s (rx_le_s (rx_le_s (rx_le_n rx_le_0))))))

