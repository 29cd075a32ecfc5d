def f_X2_copy (S0 : rx_S) : Option (Unit × rx_S) := rx_let (rx_ur S0 4 (va_cpy (S0.1 21) (S0.1 4) 0 0 420)) (fun S3 => rx_let (rx_ur S3 5 (va_cpy (S3.1 22) (S3.1 5) 0 0 7)) (fun S4 => rx_let (rx_ui S4 3 4 (S4.1 20 4)) (fun S5 => some ((), S5))))
set_option maxHeartbeats 4000000 in
set_option maxRecDepth 20000 in
theorem em_X2_copy {d : Nat} {S0 : rx_S} {zr : Unit} {zS : rx_S} (h : f_X2_copy S0 = some (zr, zS)) : EM gC (d + 1) mX2_copy [.ref 3, .ref 20] S0 (rx_pv zS) := by
  unfold f_X2_copy at h
  show EV gC (d + 1) mX2_copy 0 [some (.ref 3), some (.ref 20)] [] S0 (rx_pv zS)
  refine ev_aload_n (i := 1) 1 dX2_copy_0 rfl rfl rfl ?_
  refine ev_get (v := .ref 21) 4 dX2_copy_1 dk_20 fl_2_9 (by decide) rfl rfl rfl ?_
  refine ev_iconst (v := 0) 5 dX2_copy_4 (by decide) rfl ?_
  refine ev_aload_n (i := 0) 6 dX2_copy_5 rfl rfl rfl ?_
  refine ev_get (v := .ref 4) 9 dX2_copy_6 dk_3 fl_2_9 (by decide) rfl rfl rfl ?_
  refine ev_iconst (v := 0) 10 dX2_copy_9 (by decide) rfl ?_
  refine ev_sipush (v := 420) 13 dX2_copy_10 (by decide) rfl ?_
  obtain ⟨S3, eS3, h⟩ := rx_let_o h
  refine ex_cp 0 0 420 16 dX2_copy_13 lk_2_39 dk_21 dk_4 (by decide) (by decide) (by decide) (by decide) (by decide) (by decide) (by decide) (by decide) (Nat.le_of_ble_eq_true rfl) rfl eS3 ?_
  refine ev_aload_n (i := 1) 17 dX2_copy_16 rfl rfl rfl ?_
  refine ev_get (v := .ref 22) 20 dX2_copy_17 dk_20 fl_2_15 (by decide) rfl rfl rfl ?_
  refine ev_iconst (v := 0) 21 dX2_copy_20 (by decide) rfl ?_
  refine ev_aload_n (i := 0) 22 dX2_copy_21 rfl rfl rfl ?_
  refine ev_get (v := .ref 5) 25 dX2_copy_22 dk_3 fl_2_15 (by decide) rfl rfl rfl ?_
  refine ev_iconst (v := 0) 26 dX2_copy_25 (by decide) rfl ?_
  refine ev_bipush (v := 7) 28 dX2_copy_26 (by decide) rfl ?_
  obtain ⟨S4, eS4, h⟩ := rx_let_o h
  refine ex_cp 0 0 7 31 dX2_copy_28 lk_2_39 dk_22 dk_5 (by decide) (by decide) (by decide) (by decide) (by decide) (by decide) (by decide) (by decide) (Nat.le_of_ble_eq_true rfl) rfl eS4 ?_
  refine ev_aload_n (i := 0) 32 dX2_copy_31 rfl rfl rfl ?_
  refine ev_aload_n (i := 1) 33 dX2_copy_32 rfl rfl rfl ?_
  refine ev_get (v := .int (S4.1 20 4)) 36 dX2_copy_33 dk_20 fl_2_24 (by decide) rfl rfl rfl ?_
  obtain ⟨S5, eS5, h⟩ := rx_let_o h
  refine ex_put 39 dX2_copy_36 dk_3 fl_2_24 pp_2_4 (by decide) rfl rfl rfl rfl eS5 ?_
  exact ev_return dX2_copy_39 rfl (rx_ret_v h)

def f_X2_jumpHere (k : Nat) (x1 : Int32) (S0 : rx_S) : Option (Unit × rx_S) := if x1 < 0 then (some ((), S0)) else (if (420 : Int32) ≤ x1 then (some ((), S0)) else (rx_gd x1 420 (rx_let (rx_ui S0 (k + 1) (Int32.toNatClampNeg x1) (((-100) : Int32) - (S0.1 k 4))) (fun S6 => some ((), S6)))))
set_option maxHeartbeats 4000000 in
set_option maxRecDepth 20000 in
theorem em_X2_jumpHere_3 {d : Nat} {x1 : Int32} {S0 : rx_S} {zr : Unit} {zS : rx_S} (h : f_X2_jumpHere 3 x1 S0 = some (zr, zS)) : EM gC d mX2_jumpHere [.ref 3, .int x1] S0 (rx_pv zS) := by
  unfold f_X2_jumpHere at h
  show EV gC d mX2_jumpHere 0 [some (.ref 3), some (.int x1)] [] S0 (rx_pv zS)
  refine ev_iload_n (i := 1) 1 dX2_jumpHere_0 rfl rfl rfl ?_
  refine ev_if_lt 24 4 dX2_jumpHere_1 rfl rfl (fun c3 => ?_) (fun c3 => ?_)
  · replace h := rx_if_t c3 h
    exact ev_return dX2_jumpHere_24 rfl (rx_ret_v h)
  · replace h := rx_if_f c3 h
    refine ev_iload_n (i := 1) 5 dX2_jumpHere_4 rfl rfl rfl ?_
    refine ev_sipush (v := 420) 8 dX2_jumpHere_5 (by decide) rfl ?_
    refine ev_icmp_ge 24 11 dX2_jumpHere_8 rfl rfl (fun c4 => ?_) (fun c4 => ?_)
    · replace h := rx_if_t c4 h
      exact ev_return dX2_jumpHere_24 rfl (rx_ret_v h)
    · replace h := rx_if_f c4 h
      refine ev_aload_n (i := 0) 12 dX2_jumpHere_11 rfl rfl rfl ?_
      refine ev_get (v := .ref 4) 15 dX2_jumpHere_12 dk_3 fl_2_9 (by decide) rfl rfl rfl ?_
      refine ev_iload_n (i := 1) 16 dX2_jumpHere_15 rfl rfl rfl ?_
      refine ev_bipush (v := (-100)) 18 dX2_jumpHere_16 (by decide) rfl ?_
      refine ev_aload_n (i := 0) 19 dX2_jumpHere_18 rfl rfl rfl ?_
      refine ev_get (v := .int (S0.1 3 4)) 22 dX2_jumpHere_19 dk_3 fl_2_24 (by decide) rfl rfl rfl ?_
      refine ev_isub 23 dX2_jumpHere_22 rfl ?_
      obtain ⟨g5, h⟩ := rx_gd_o h
      obtain ⟨S6, eS6, h⟩ := rx_let_o h
      refine ex_iast _ 24 dX2_jumpHere_23 dk_4 g5 rfl rfl eS6 ?_
      exact ev_return dX2_jumpHere_24 rfl (rx_ret_v h)

set_option maxHeartbeats 4000000 in
set_option maxRecDepth 20000 in
theorem em_X2_jumpHere_20 {d : Nat} {x1 : Int32} {S0 : rx_S} {zr : Unit} {zS : rx_S} (h : f_X2_jumpHere 20 x1 S0 = some (zr, zS)) : EM gC d mX2_jumpHere [.ref 20, .int x1] S0 (rx_pv zS) := by
  unfold f_X2_jumpHere at h
  show EV gC d mX2_jumpHere 0 [some (.ref 20), some (.int x1)] [] S0 (rx_pv zS)
  refine ev_iload_n (i := 1) 1 dX2_jumpHere_0 rfl rfl rfl ?_
  refine ev_if_lt 24 4 dX2_jumpHere_1 rfl rfl (fun c3 => ?_) (fun c3 => ?_)
  · replace h := rx_if_t c3 h
    exact ev_return dX2_jumpHere_24 rfl (rx_ret_v h)
  · replace h := rx_if_f c3 h
    refine ev_iload_n (i := 1) 5 dX2_jumpHere_4 rfl rfl rfl ?_
    refine ev_sipush (v := 420) 8 dX2_jumpHere_5 (by decide) rfl ?_
    refine ev_icmp_ge 24 11 dX2_jumpHere_8 rfl rfl (fun c4 => ?_) (fun c4 => ?_)
    · replace h := rx_if_t c4 h
      exact ev_return dX2_jumpHere_24 rfl (rx_ret_v h)
    · replace h := rx_if_f c4 h
      refine ev_aload_n (i := 0) 12 dX2_jumpHere_11 rfl rfl rfl ?_
      refine ev_get (v := .ref 21) 15 dX2_jumpHere_12 dk_20 fl_2_9 (by decide) rfl rfl rfl ?_
      refine ev_iload_n (i := 1) 16 dX2_jumpHere_15 rfl rfl rfl ?_
      refine ev_bipush (v := (-100)) 18 dX2_jumpHere_16 (by decide) rfl ?_
      refine ev_aload_n (i := 0) 19 dX2_jumpHere_18 rfl rfl rfl ?_
      refine ev_get (v := .int (S0.1 20 4)) 22 dX2_jumpHere_19 dk_20 fl_2_24 (by decide) rfl rfl rfl ?_
      refine ev_isub 23 dX2_jumpHere_22 rfl ?_
      obtain ⟨g5, h⟩ := rx_gd_o h
      obtain ⟨S6, eS6, h⟩ := rx_let_o h
      refine ex_iast _ 24 dX2_jumpHere_23 dk_21 g5 rfl rfl eS6 ?_
      exact ev_return dX2_jumpHere_24 rfl (rx_ret_v h)

def f_X3_remember (S0 : rx_S) : Option (Unit × rx_S) := if (S0.1 33 3) < 0 then (some ((), S0)) else (if (40 : Int32) ≤ (S0.1 33 3) then (some ((), S0)) else (rx_gd (S0.1 33 3) 40 (rx_let (rx_ur S0 (35 + Int32.toNatClampNeg (S0.1 33 3)) (va_cpy (S0.1 32) (S0.1 (35 + Int32.toNatClampNeg (S0.1 33 3))) 0 0 48)) (fun S6 => rx_let (fun (x7 : Int32) (S8 : rx_S) => rx_let (rx_ui S8 33 3 x7) (fun S9 => rx_let (rx_ui S9 33 4 (if ((S9.1 33 4) + 1) < 40 then ((S9.1 33 4) + 1) else 40)) (fun S10 => some ((), S10)))) (fun J55_1 => if (40 : Int32) ≤ ((S6.1 33 3) + 1) then (J55_1 0 S6) else (J55_1 ((S6.1 33 3) + 1) S6))))))
set_option maxHeartbeats 4000000 in
set_option maxRecDepth 20000 in
theorem em_X3_remember {d : Nat} {S0 : rx_S} {zr : Unit} {zS : rx_S} (h : f_X3_remember S0 = some (zr, zS)) : EM gC (d + 1) mX3_remember [.ref 33, .ref 32] S0 (rx_pv zS) := by
  unfold f_X3_remember at h
  show EV gC (d + 1) mX3_remember 0 [some (.ref 33), some (.ref 32)] [] S0 (rx_pv zS)
  refine ev_aload_n (i := 0) 1 dX3_remember_0 rfl rfl rfl ?_
  refine ev_get (v := .int (S0.1 33 3)) 4 dX3_remember_1 dk_33 fl_3_23 (by decide) rfl rfl rfl ?_
  refine ev_if_lt 73 7 dX3_remember_4 rfl rfl (fun c3 => ?_) (fun c3 => ?_)
  · replace h := rx_if_t c3 h
    exact ev_return dX3_remember_73 rfl (rx_ret_v h)
  · replace h := rx_if_f c3 h
    refine ev_aload_n (i := 0) 8 dX3_remember_7 rfl rfl rfl ?_
    refine ev_get (v := .int (S0.1 33 3)) 11 dX3_remember_8 dk_33 fl_3_23 (by decide) rfl rfl rfl ?_
    refine ev_bipush (v := 40) 13 dX3_remember_11 (by decide) rfl ?_
    refine ev_icmp_ge 73 16 dX3_remember_13 rfl rfl (fun c4 => ?_) (fun c4 => ?_)
    · replace h := rx_if_t c4 h
      exact ev_return dX3_remember_73 rfl (rx_ret_v h)
    · replace h := rx_if_f c4 h
      refine ev_aload_n (i := 1) 17 dX3_remember_16 rfl rfl rfl ?_
      refine ev_iconst (v := 0) 18 dX3_remember_17 (by decide) rfl ?_
      refine ev_aload_n (i := 0) 19 dX3_remember_18 rfl rfl rfl ?_
      refine ev_get (v := .ref 34) 22 dX3_remember_19 dk_33 fl_3_11 (by decide) rfl rfl rfl ?_
      refine ev_aload_n (i := 0) 23 dX3_remember_22 rfl rfl rfl ?_
      refine ev_get (v := .int (S0.1 33 3)) 26 dX3_remember_23 dk_33 fl_3_23 (by decide) rfl rfl rfl ?_
      obtain ⟨g5, h⟩ := rx_gd_o h
      refine ev_aald (k' := (35 + Int32.toNatClampNeg (S0.1 33 3))) 27 dX3_remember_26 dk_34 g5 (dkr_34 g5) rfl ?_
      refine ev_iconst (v := 0) 28 dX3_remember_27 (by decide) rfl ?_
      refine ev_bipush (v := 48) 30 dX3_remember_28 (by decide) rfl ?_
      obtain ⟨S6, eS6, h⟩ := rx_let_o h
      refine ex_cp 0 0 48 33 dX3_remember_30 lk_3_27 dk_32 (dkv_34 g5) (by decide) (by decide) (by decide) (by decide) (by decide) (by decide) (by decide) (by decide) (Nat.le_of_ble_eq_true rfl) rfl eS6 ?_
      refine ev_aload_n (i := 0) 34 dX3_remember_33 rfl rfl rfl ?_
      refine ev_aload_n (i := 0) 35 dX3_remember_34 rfl rfl rfl ?_
      refine ev_get (v := .int (S6.1 33 3)) 38 dX3_remember_35 dk_33 fl_3_23 (by decide) rfl rfl rfl ?_
      refine ev_iconst (v := 1) 39 dX3_remember_38 (by decide) rfl ?_
      refine ev_iadd 40 dX3_remember_39 rfl ?_
      refine ev_bipush (v := 40) 42 dX3_remember_40 (by decide) rfl ?_
      obtain ⟨J55_1, eJ55_1, h⟩ := rx_let_o h
      have hJ55_1 : ∀ (x7 : Int32) (S8 : rx_S), J55_1 x7 S8 = some (zr, zS) → EV gC (d + 1) mX3_remember 55 [some (.ref 33), some (.ref 32)] [.int x7, .ref 33] S8 (rx_pv zS) := by
        intro x7 S8 h
        subst eJ55_1
        obtain ⟨S9, eS9, h⟩ := rx_let_o h
        refine ex_put 58 dX3_remember_55 dk_33 fl_3_23 pp_3_3 (by decide) rfl rfl rfl rfl eS9 ?_
        refine ev_aload_n (i := 0) 59 dX3_remember_58 rfl rfl rfl ?_
        refine ev_bipush (v := 40) 61 dX3_remember_59 (by decide) rfl ?_
        refine ev_aload_n (i := 0) 62 dX3_remember_61 rfl rfl rfl ?_
        refine ev_get (v := .int (S9.1 33 4)) 65 dX3_remember_62 dk_33 fl_3_33 (by decide) rfl rfl rfl ?_
        refine ev_iconst (v := 1) 66 dX3_remember_65 (by decide) rfl ?_
        refine ev_iadd 67 dX3_remember_66 rfl ?_
        refine ev_min 70 dX3_remember_67 lk_3_36 w_min (Nat.le_of_ble_eq_true rfl) rfl ?_
        obtain ⟨S10, eS10, h⟩ := rx_let_o h
        refine ex_put 73 dX3_remember_70 dk_33 fl_3_33 pp_3_4 (by decide) rfl rfl rfl rfl eS10 ?_
        exact ev_return dX3_remember_73 rfl (rx_ret_v h)
      refine ev_icmp_ge 54 45 dX3_remember_42 rfl rfl (fun c11 => ?_) (fun c11 => ?_)
      · replace h := rx_if_t c11 h
        refine ev_iconst (v := 0) 55 dX3_remember_54 (by decide) rfl ?_
        exact (hJ55_1 _ _ h).fewer (rx_le_s (rx_le_s rx_le_0))
      · replace h := rx_if_f c11 h
        refine ev_aload_n (i := 0) 46 dX3_remember_45 rfl rfl rfl ?_
        refine ev_get (v := .int (S6.1 33 3)) 49 dX3_remember_46 dk_33 fl_3_23 (by decide) rfl rfl rfl ?_
        refine ev_iconst (v := 1) 50 dX3_remember_49 (by decide) rfl ?_
        refine ev_iadd 51 dX3_remember_50 rfl ?_
        refine ev_goto 55 dX3_remember_51 rfl ?_
        exact (hJ55_1 _ _ h).fewer (rx_le_s (rx_le_s rx_le_0))

def f_X3_takeBack (S0 : rx_S) : Option (Int32 × rx_S) := rx_let (fun (x3 : Int32) (S4 : rx_S) => if (S4.1 33 4) = 0 then (some (0, S4)) else (if x3 < 40 then (rx_gd x3 40 (rx_let (rx_ur S4 32 (va_cpy (S4.1 (35 + Int32.toNatClampNeg x3)) (S4.1 32) 0 0 48)) (fun S8 => rx_let (rx_ui S8 33 3 x3) (fun S9 => rx_let (rx_ui S9 33 4 ((S9.1 33 4) - 1)) (fun S10 => some (1, S10)))))) else (some (0, S4)))) (fun J18_1 => if (S0.1 33 3) ≤ 0 then (J18_1 39 S0) else (J18_1 ((S0.1 33 3) - 1) S0))
set_option maxHeartbeats 4000000 in
set_option maxRecDepth 20000 in
theorem em_X3_takeBack {d : Nat} {S0 : rx_S} {zr : Int32} {zS : rx_S} (h : f_X3_takeBack S0 = some (zr, zS)) : EM gC (d + 1) mX3_takeBack [.ref 33, .ref 32] S0 (rx_pi zr zS) := by
  unfold f_X3_takeBack at h
  show EV gC (d + 1) mX3_takeBack 0 [some (.ref 33), some (.ref 32), none] [] S0 (rx_pi zr zS)
  refine ev_aload_n (i := 0) 1 dX3_takeBack_0 rfl rfl rfl ?_
  refine ev_get (v := .int (S0.1 33 3)) 4 dX3_takeBack_1 dk_33 fl_3_23 (by decide) rfl rfl rfl ?_
  obtain ⟨J18_1, eJ18_1, h⟩ := rx_let_o h
  have hJ18_1 : ∀ (x3 : Int32) (S4 : rx_S), J18_1 x3 S4 = some (zr, zS) → EV gC (d + 1) mX3_takeBack 18 [some (.ref 33), some (.ref 32), none] [.int x3] S4 (rx_pi zr zS) := by
    intro x3 S4 h
    subst eJ18_1
    refine ev_istore_n (ls' := [some (.ref 33), some (.ref 32), some (.int x3)]) 19 dX3_takeBack_18 rfl (Nat.le_of_ble_eq_true rfl) rfl rfl ?_
    refine ev_aload_n (i := 0) 20 dX3_takeBack_19 rfl rfl rfl ?_
    refine ev_get (v := .int (S4.1 33 4)) 23 dX3_takeBack_20 dk_33 fl_3_33 (by decide) rfl rfl rfl ?_
    refine ev_if_eq 32 26 dX3_takeBack_23 rfl rfl (fun c5 => ?_) (fun c5 => ?_)
    · replace h := rx_if_t c5 h
      refine ev_iconst (v := 0) 33 dX3_takeBack_32 (by decide) rfl ?_
      exact ev_zreturn dX3_takeBack_33 rfl (by decide) (rx_ret_i h)
    · replace h := rx_if_f c5 h
      refine ev_iload_n (i := 2) 27 dX3_takeBack_26 rfl rfl rfl ?_
      refine ev_bipush (v := 40) 29 dX3_takeBack_27 (by decide) rfl ?_
      refine ev_icmp_lt 34 32 dX3_takeBack_29 rfl rfl (fun c6 => ?_) (fun c6 => ?_)
      · replace h := rx_if_t c6 h
        refine ev_aload_n (i := 0) 35 dX3_takeBack_34 rfl rfl rfl ?_
        refine ev_get (v := .ref 34) 38 dX3_takeBack_35 dk_33 fl_3_11 (by decide) rfl rfl rfl ?_
        refine ev_iload_n (i := 2) 39 dX3_takeBack_38 rfl rfl rfl ?_
        obtain ⟨g7, h⟩ := rx_gd_o h
        refine ev_aald (k' := (35 + Int32.toNatClampNeg x3)) 40 dX3_takeBack_39 dk_34 g7 (dkr_34 g7) rfl ?_
        refine ev_iconst (v := 0) 41 dX3_takeBack_40 (by decide) rfl ?_
        refine ev_aload_n (i := 1) 42 dX3_takeBack_41 rfl rfl rfl ?_
        refine ev_iconst (v := 0) 43 dX3_takeBack_42 (by decide) rfl ?_
        refine ev_bipush (v := 48) 45 dX3_takeBack_43 (by decide) rfl ?_
        obtain ⟨S8, eS8, h⟩ := rx_let_o h
        refine ex_cp 0 0 48 48 dX3_takeBack_45 lk_3_27 (dkv_34 g7) dk_32 (by decide) (by decide) (by decide) (by decide) (by decide) (by decide) (by decide) (by decide) (Nat.le_of_ble_eq_true rfl) rfl eS8 ?_
        refine ev_aload_n (i := 0) 49 dX3_takeBack_48 rfl rfl rfl ?_
        refine ev_iload_n (i := 2) 50 dX3_takeBack_49 rfl rfl rfl ?_
        obtain ⟨S9, eS9, h⟩ := rx_let_o h
        refine ex_put 53 dX3_takeBack_50 dk_33 fl_3_23 pp_3_3 (by decide) rfl rfl rfl rfl eS9 ?_
        refine ev_aload_n (i := 0) 54 dX3_takeBack_53 rfl rfl rfl ?_
        refine ev_dup 55 dX3_takeBack_54 rfl rfl ?_
        refine ev_get (v := .int (S9.1 33 4)) 58 dX3_takeBack_55 dk_33 fl_3_33 (by decide) rfl rfl rfl ?_
        refine ev_iconst (v := 1) 59 dX3_takeBack_58 (by decide) rfl ?_
        refine ev_isub 60 dX3_takeBack_59 rfl ?_
        obtain ⟨S10, eS10, h⟩ := rx_let_o h
        refine ex_put 63 dX3_takeBack_60 dk_33 fl_3_33 pp_3_4 (by decide) rfl rfl rfl rfl eS10 ?_
        refine ev_iconst (v := 1) 64 dX3_takeBack_63 (by decide) rfl ?_
        exact ev_zreturn dX3_takeBack_64 rfl (by decide) (rx_ret_i h)
      · replace h := rx_if_f c6 h
        refine ev_iconst (v := 0) 33 dX3_takeBack_32 (by decide) rfl ?_
        exact ev_zreturn dX3_takeBack_33 rfl (by decide) (rx_ret_i h)
  refine ev_if_le 16 7 dX3_takeBack_4 rfl rfl (fun c11 => ?_) (fun c11 => ?_)
  · replace h := rx_if_t c11 h
    refine ev_bipush (v := 39) 18 dX3_takeBack_16 (by decide) rfl ?_
    exact (hJ18_1 _ _ h).fewer (rx_le_s (rx_le_s (rx_le_n rx_le_0)))
  · replace h := rx_if_f c11 h
    refine ev_aload_n (i := 0) 8 dX3_takeBack_7 rfl rfl rfl ?_
    refine ev_get (v := .int (S0.1 33 3)) 11 dX3_takeBack_8 dk_33 fl_3_23 (by decide) rfl rfl rfl ?_
    refine ev_iconst (v := 1) 12 dX3_takeBack_11 (by decide) rfl ?_
    refine ev_isub 13 dX3_takeBack_12 rfl ?_
    refine ev_goto 18 dX3_takeBack_13 rfl ?_
    exact (hJ18_1 _ _ h).fewer (rx_le_s (rx_le_s (rx_le_n rx_le_0)))

def f_X3_forgetDone (S0 : rx_S) : Option (Unit × rx_S) := rx_let (rx_ui S0 33 4 0) (fun S2 => some ((), S2))
set_option maxHeartbeats 4000000 in
set_option maxRecDepth 20000 in
theorem em_X3_forgetDone {d : Nat} {S0 : rx_S} {zr : Unit} {zS : rx_S} (h : f_X3_forgetDone S0 = some (zr, zS)) : EM gC d mX3_forgetDone [.ref 33] S0 (rx_pv zS) := by
  unfold f_X3_forgetDone at h
  show EV gC d mX3_forgetDone 0 [some (.ref 33)] [] S0 (rx_pv zS)
  refine ev_aload_n (i := 0) 1 dX3_forgetDone_0 rfl rfl rfl ?_
  refine ev_iconst (v := 0) 2 dX3_forgetDone_1 (by decide) rfl ?_
  obtain ⟨S2, eS2, h⟩ := rx_let_o h
  refine ex_put 5 dX3_forgetDone_2 dk_33 fl_3_33 pp_3_4 (by decide) rfl rfl rfl rfl eS2 ?_
  exact ev_return dX3_forgetDone_5 rfl (rx_ret_v h)

def f_X3_isSlot (x0 : Int32) (S0 : rx_S) : Option (Int32 × rx_S) := if x0 < 0 then (some (0, S0)) else (if (3 : Int32) ≤ x0 then (some (0, S0)) else (some (1, S0)))
set_option maxHeartbeats 4000000 in
set_option maxRecDepth 20000 in
theorem em_X3_isSlot {G : Nat × Nat} {d : Nat} {x0 : Int32} {S0 : rx_S} {zr : Int32} {zS : rx_S} (h : f_X3_isSlot x0 S0 = some (zr, zS)) : EM G d mX3_isSlot [.int x0] S0 (rx_pi zr zS) := by
  unfold f_X3_isSlot at h
  show EV G d mX3_isSlot 0 [some (.int x0)] [] S0 (rx_pi zr zS)
  refine ev_iload_n (i := 0) 1 dX3_isSlot_0 rfl rfl rfl ?_
  refine ev_if_lt 13 4 dX3_isSlot_1 rfl rfl (fun c2 => ?_) (fun c2 => ?_)
  · replace h := rx_if_t c2 h
    refine ev_iconst (v := 0) 14 dX3_isSlot_13 (by decide) rfl ?_
    exact ev_zreturn dX3_isSlot_14 rfl (by decide) (rx_ret_i h)
  · replace h := rx_if_f c2 h
    refine ev_iload_n (i := 0) 5 dX3_isSlot_4 rfl rfl rfl ?_
    refine ev_iconst (v := 3) 6 dX3_isSlot_5 (by decide) rfl ?_
    refine ev_icmp_ge 13 9 dX3_isSlot_6 rfl rfl (fun c3 => ?_) (fun c3 => ?_)
    · replace h := rx_if_t c3 h
      refine ev_iconst (v := 0) 14 dX3_isSlot_13 (by decide) rfl ?_
      exact ev_zreturn dX3_isSlot_14 rfl (by decide) (rx_ret_i h)
    · replace h := rx_if_f c3 h
      refine ev_iconst (v := 1) 10 dX3_isSlot_9 (by decide) rfl ?_
      refine ev_goto 14 dX3_isSlot_10 rfl ?_
      exact ev_zreturn dX3_isSlot_14 rfl (by decide) (rx_ret_i h)

def f_X3_keep (x1 : Int32) (S0 : rx_S) : Option (Int32 × rx_S) := rx_bd (f_X3_isSlot x1 S0) (fun x5 S4 => if x5 = 0 then (some (0, S4)) else (rx_gd x1 3 (rx_let (rx_ur S4 (76 + Int32.toNatClampNeg x1) (va_cpy (S4.1 32) (S4.1 (76 + Int32.toNatClampNeg x1)) 0 0 48)) (fun S9 => rx_gd x1 3 (rx_let (rx_ui S9 79 (Int32.toNatClampNeg x1) (vp_nar .boolean 1)) (fun S11 => some (1, S11)))))))
set_option maxHeartbeats 4000000 in
set_option maxRecDepth 20000 in
theorem em_X3_keep {d : Nat} {x1 : Int32} {S0 : rx_S} {zr : Int32} {zS : rx_S} (h : f_X3_keep x1 S0 = some (zr, zS)) : EM gC (d + 1) mX3_keep [.ref 33, .int x1, .ref 32] S0 (rx_pi zr zS) := by
  unfold f_X3_keep at h
  show EV gC (d + 1) mX3_keep 0 [some (.ref 33), some (.int x1), some (.ref 32)] [] S0 (rx_pi zr zS)
  refine ev_iload_n (i := 1) 1 dX3_keep_0 rfl rfl rfl ?_
  obtain ⟨x5, S4, g6, h⟩ := rx_bd_o h
  refine ev_cSi1 4 dX3_keep_1 (em_X3_isSlot g6) mm_X3_isSlot ms_X3_isSlot lk_3_42 (Nat.le_of_ble_eq_true rfl) (Nat.le_of_ble_eq_true rfl) rfl ?_
  refine ev_if_ne 9 7 dX3_keep_4 rfl rfl (fun c7 => ?_) (fun c7 => ?_)
  · replace h := rx_if_f c7 h
    refine ev_aload_n (i := 2) 10 dX3_keep_9 rfl rfl rfl ?_
    refine ev_iconst (v := 0) 11 dX3_keep_10 (by decide) rfl ?_
    refine ev_aload_n (i := 0) 12 dX3_keep_11 rfl rfl rfl ?_
    refine ev_get (v := .ref 75) 15 dX3_keep_12 dk_33 fl_3_16 (by decide) rfl rfl rfl ?_
    refine ev_iload_n (i := 1) 16 dX3_keep_15 rfl rfl rfl ?_
    obtain ⟨g8, h⟩ := rx_gd_o h
    refine ev_aald (k' := (76 + Int32.toNatClampNeg x1)) 17 dX3_keep_16 dk_75 g8 (dkr_75 g8) rfl ?_
    refine ev_iconst (v := 0) 18 dX3_keep_17 (by decide) rfl ?_
    refine ev_bipush (v := 48) 20 dX3_keep_18 (by decide) rfl ?_
    obtain ⟨S9, eS9, h⟩ := rx_let_o h
    refine ex_cp 0 0 48 23 dX3_keep_20 lk_3_27 dk_32 (dkv_75 g8) (by decide) (by decide) (by decide) (by decide) (by decide) (by decide) (by decide) (by decide) (Nat.le_of_ble_eq_true rfl) rfl eS9 ?_
    refine ev_aload_n (i := 0) 24 dX3_keep_23 rfl rfl rfl ?_
    refine ev_get (v := .ref 79) 27 dX3_keep_24 dk_33 fl_3_19 (by decide) rfl rfl rfl ?_
    refine ev_iload_n (i := 1) 28 dX3_keep_27 rfl rfl rfl ?_
    refine ev_iconst (v := 1) 29 dX3_keep_28 (by decide) rfl ?_
    obtain ⟨g10, h⟩ := rx_gd_o h
    obtain ⟨S11, eS11, h⟩ := rx_let_o h
    refine ex_zast _ 30 dX3_keep_29 dk_79 g10 rfl rfl eS11 ?_
    refine ev_iconst (v := 1) 31 dX3_keep_30 (by decide) rfl ?_
    exact ev_zreturn dX3_keep_31 rfl (by decide) (rx_ret_i h)
  · replace h := rx_if_t c7 h
    refine ev_iconst (v := 0) 8 dX3_keep_7 (by decide) rfl ?_
    exact ev_zreturn dX3_keep_8 rfl (by decide) (rx_ret_i h)

def f_X3_bringBack (x1 : Int32) (S0 : rx_S) : Option (Int32 × rx_S) := rx_bd (f_X3_isSlot x1 S0) (fun x5 S4 => if x5 = 0 then (some (0, S4)) else (rx_gd x1 3 (if (S4.1 79 (Int32.toNatClampNeg x1)) = 0 then (some (0, S4)) else (rx_gd x1 3 (rx_let (rx_ur S4 32 (va_cpy (S4.1 (76 + Int32.toNatClampNeg x1)) (S4.1 32) 0 0 48)) (fun S11 => some (1, S11)))))))
set_option maxHeartbeats 4000000 in
set_option maxRecDepth 20000 in
theorem em_X3_bringBack {d : Nat} {x1 : Int32} {S0 : rx_S} {zr : Int32} {zS : rx_S} (h : f_X3_bringBack x1 S0 = some (zr, zS)) : EM gC (d + 1) mX3_bringBack [.ref 33, .int x1, .ref 32] S0 (rx_pi zr zS) := by
  unfold f_X3_bringBack at h
  show EV gC (d + 1) mX3_bringBack 0 [some (.ref 33), some (.int x1), some (.ref 32)] [] S0 (rx_pi zr zS)
  refine ev_iload_n (i := 1) 1 dX3_bringBack_0 rfl rfl rfl ?_
  obtain ⟨x5, S4, g6, h⟩ := rx_bd_o h
  refine ev_cSi1 4 dX3_bringBack_1 (em_X3_isSlot g6) mm_X3_isSlot ms_X3_isSlot lk_3_42 (Nat.le_of_ble_eq_true rfl) (Nat.le_of_ble_eq_true rfl) rfl ?_
  refine ev_if_eq 16 7 dX3_bringBack_4 rfl rfl (fun c7 => ?_) (fun c7 => ?_)
  · replace h := rx_if_t c7 h
    refine ev_iconst (v := 0) 17 dX3_bringBack_16 (by decide) rfl ?_
    exact ev_zreturn dX3_bringBack_17 rfl (by decide) (rx_ret_i h)
  · replace h := rx_if_f c7 h
    refine ev_aload_n (i := 0) 8 dX3_bringBack_7 rfl rfl rfl ?_
    refine ev_get (v := .ref 79) 11 dX3_bringBack_8 dk_33 fl_3_19 (by decide) rfl rfl rfl ?_
    refine ev_iload_n (i := 1) 12 dX3_bringBack_11 rfl rfl rfl ?_
    obtain ⟨g8, h⟩ := rx_gd_o h
    refine ex_zald _ 13 dX3_bringBack_12 dk_79 g8 rfl rfl ?_
    refine ev_if_ne 18 16 dX3_bringBack_13 rfl rfl (fun c9 => ?_) (fun c9 => ?_)
    · replace h := rx_if_f c9 h
      refine ev_aload_n (i := 0) 19 dX3_bringBack_18 rfl rfl rfl ?_
      refine ev_get (v := .ref 75) 22 dX3_bringBack_19 dk_33 fl_3_16 (by decide) rfl rfl rfl ?_
      refine ev_iload_n (i := 1) 23 dX3_bringBack_22 rfl rfl rfl ?_
      obtain ⟨g10, h⟩ := rx_gd_o h
      refine ev_aald (k' := (76 + Int32.toNatClampNeg x1)) 24 dX3_bringBack_23 dk_75 g10 (dkr_75 g10) rfl ?_
      refine ev_iconst (v := 0) 25 dX3_bringBack_24 (by decide) rfl ?_
      refine ev_aload_n (i := 2) 26 dX3_bringBack_25 rfl rfl rfl ?_
      refine ev_iconst (v := 0) 27 dX3_bringBack_26 (by decide) rfl ?_
      refine ev_bipush (v := 48) 29 dX3_bringBack_27 (by decide) rfl ?_
      obtain ⟨S11, eS11, h⟩ := rx_let_o h
      refine ex_cp 0 0 48 32 dX3_bringBack_29 lk_3_27 (dkv_75 g10) dk_32 (by decide) (by decide) (by decide) (by decide) (by decide) (by decide) (by decide) (by decide) (Nat.le_of_ble_eq_true rfl) rfl eS11 ?_
      refine ev_iconst (v := 1) 33 dX3_bringBack_32 (by decide) rfl ?_
      exact ev_zreturn dX3_bringBack_33 rfl (by decide) (rx_ret_i h)
    · replace h := rx_if_t c9 h
      refine ev_iconst (v := 0) 17 dX3_bringBack_16 (by decide) rfl ?_
      exact ev_zreturn dX3_bringBack_17 rfl (by decide) (rx_ret_i h)

def f_X3_emptySlots_L2 (N : Nat) : Nat → Int32 → rx_S → Option (Unit × rx_S)
  | 0, _, _ => none
  | n + 1, x2, S3 => if (3 : Int32) ≤ x2 then (some ((), S3)) else (rx_gd x2 3 (rx_let (rx_ui S3 79 (Int32.toNatClampNeg x2) (vp_nar .boolean 0)) (fun S6 => rx_let (x2 + 1) (fun x7 => f_X3_emptySlots_L2 N n x7 S6))))
def f_X3_emptySlots (N : Nat) (S0 : rx_S) : Option (Unit × rx_S) := f_X3_emptySlots_L2 N N 0 S0
set_option maxHeartbeats 4000000 in
set_option maxRecDepth 20000 in
theorem em_X3_emptySlots_L2 {d N : Nat} {zr : Unit} {zS : rx_S} : ∀ (n : Nat) (x2 : Int32) (S3 : rx_S), f_X3_emptySlots_L2 N n x2 S3 = some (zr, zS) → EV gC d mX3_emptySlots 2 [some (.ref 33), some (.int x2)] [] S3 (rx_pv zS) := by
  intro n
  induction n with
  | zero => intro x2 S3 h; cases h
  | succ n ih =>
    intro x2 S3 h
    rw [f_X3_emptySlots_L2] at h
    refine ev_iload_n (i := 1) 3 dX3_emptySlots_2 rfl rfl rfl ?_
    refine ev_iconst (v := 3) 4 dX3_emptySlots_3 (by decide) rfl ?_
    refine ev_icmp_ge 20 7 dX3_emptySlots_4 rfl rfl (fun c4 => ?_) (fun c4 => ?_)
    · replace h := rx_if_t c4 h
      exact ev_return dX3_emptySlots_20 rfl (rx_ret_v h)
    · replace h := rx_if_f c4 h
      refine ev_aload_n (i := 0) 8 dX3_emptySlots_7 rfl rfl rfl ?_
      refine ev_get (v := .ref 79) 11 dX3_emptySlots_8 dk_33 fl_3_19 (by decide) rfl rfl rfl ?_
      refine ev_iload_n (i := 1) 12 dX3_emptySlots_11 rfl rfl rfl ?_
      refine ev_iconst (v := 0) 13 dX3_emptySlots_12 (by decide) rfl ?_
      obtain ⟨g5, h⟩ := rx_gd_o h
      obtain ⟨S6, eS6, h⟩ := rx_let_o h
      refine ex_zast _ 14 dX3_emptySlots_13 dk_79 g5 rfl rfl eS6 ?_
      obtain ⟨x7, ex7, h⟩ := rx_let_o h
      refine ev_iinc (v := x7) (ls' := [some (.ref 33), some (.int x7)]) 17 dX3_emptySlots_14 rfl (by rw [ex7]; rfl) (Nat.le_of_ble_eq_true rfl) rfl rfl ?_
      refine ev_goto 2 dX3_emptySlots_17 rfl ?_
      exact (ih _ _ h).fewer (rx_le_s (rx_le_s rx_le_0))

set_option maxHeartbeats 4000000 in
set_option maxRecDepth 20000 in
theorem em_X3_emptySlots {d N : Nat} {S0 : rx_S} {zr : Unit} {zS : rx_S} (h : f_X3_emptySlots N S0 = some (zr, zS)) : EM gC d mX3_emptySlots [.ref 33] S0 (rx_pv zS) := by
  unfold f_X3_emptySlots at h
  show EV gC d mX3_emptySlots 0 [some (.ref 33), none] [] S0 (rx_pv zS)
  refine ev_iconst (v := 0) 1 dX3_emptySlots_0 (by decide) rfl ?_
  refine ev_istore_n (ls' := [some (.ref 33), some (.int 0)]) 2 dX3_emptySlots_1 rfl (Nat.le_of_ble_eq_true rfl) rfl rfl ?_
  exact (em_X3_emptySlots_L2 _ _ _ h).fewer (rx_le_s (rx_le_s rx_le_0))

def f_X3_heldCount_L4 (N : Nat) : Nat → Int32 → Int32 → rx_S → Option (Int32 × rx_S)
  | 0, _, _, _ => none
  | n + 1, x2, x3, S4 => if (3 : Int32) ≤ x3 then (some (x2, S4)) else (rx_gd x3 3 (if (S4.1 79 (Int32.toNatClampNeg x3)) = 0 then (rx_let (x3 + 1) (fun x8 => f_X3_heldCount_L4 N n x2 x8 S4)) else (rx_let (x2 + 1) (fun x9 => rx_let (x3 + 1) (fun x10 => f_X3_heldCount_L4 N n x9 x10 S4)))))
def f_X3_heldCount (N : Nat) (S0 : rx_S) : Option (Int32 × rx_S) := f_X3_heldCount_L4 N N 0 0 S0
set_option maxHeartbeats 4000000 in
set_option maxRecDepth 20000 in
theorem em_X3_heldCount_L4 {d N : Nat} {zr : Int32} {zS : rx_S} : ∀ (n : Nat) (x2 : Int32) (x3 : Int32) (S4 : rx_S), f_X3_heldCount_L4 N n x2 x3 S4 = some (zr, zS) → EV gC d mX3_heldCount 4 [some (.ref 33), some (.int x2), some (.int x3)] [] S4 (rx_pi zr zS) := by
  intro n
  induction n with
  | zero => intro x2 x3 S4 h; cases h
  | succ n ih =>
    intro x2 x3 S4 h
    rw [f_X3_heldCount_L4] at h
    refine ev_iload_n (i := 2) 5 dX3_heldCount_4 rfl rfl rfl ?_
    refine ev_iconst (v := 3) 6 dX3_heldCount_5 (by decide) rfl ?_
    refine ev_icmp_ge 27 9 dX3_heldCount_6 rfl rfl (fun c5 => ?_) (fun c5 => ?_)
    · replace h := rx_if_t c5 h
      refine ev_iload_n (i := 1) 28 dX3_heldCount_27 rfl rfl rfl ?_
      exact ev_ireturn dX3_heldCount_28 rfl (rx_ret_i h)
    · replace h := rx_if_f c5 h
      refine ev_aload_n (i := 0) 10 dX3_heldCount_9 rfl rfl rfl ?_
      refine ev_get (v := .ref 79) 13 dX3_heldCount_10 dk_33 fl_3_19 (by decide) rfl rfl rfl ?_
      refine ev_iload_n (i := 2) 14 dX3_heldCount_13 rfl rfl rfl ?_
      obtain ⟨g6, h⟩ := rx_gd_o h
      refine ex_zald _ 15 dX3_heldCount_14 dk_79 g6 rfl rfl ?_
      refine ev_if_eq 21 18 dX3_heldCount_15 rfl rfl (fun c7 => ?_) (fun c7 => ?_)
      · replace h := rx_if_t c7 h
        obtain ⟨x8, ex8, h⟩ := rx_let_o h
        refine ev_iinc (v := x8) (ls' := [some (.ref 33), some (.int x2), some (.int x8)]) 24 dX3_heldCount_21 rfl (by rw [ex8]; rfl) (Nat.le_of_ble_eq_true rfl) rfl rfl ?_
        refine ev_goto 4 dX3_heldCount_24 rfl ?_
        exact (ih _ _ _ h).fewer (rx_le_s (rx_le_s (rx_le_s rx_le_0)))
      · replace h := rx_if_f c7 h
        obtain ⟨x9, ex9, h⟩ := rx_let_o h
        refine ev_iinc (v := x9) (ls' := [some (.ref 33), some (.int x9), some (.int x3)]) 21 dX3_heldCount_18 rfl (by rw [ex9]; rfl) (Nat.le_of_ble_eq_true rfl) rfl rfl ?_
        obtain ⟨x10, ex10, h⟩ := rx_let_o h
        refine ev_iinc (v := x10) (ls' := [some (.ref 33), some (.int x9), some (.int x10)]) 24 dX3_heldCount_21 rfl (by rw [ex10]; rfl) (Nat.le_of_ble_eq_true rfl) rfl rfl ?_
        refine ev_goto 4 dX3_heldCount_24 rfl ?_
        exact (ih _ _ _ h).fewer (rx_le_s (rx_le_s (rx_le_s rx_le_0)))

set_option maxHeartbeats 4000000 in
set_option maxRecDepth 20000 in
theorem em_X3_heldCount {d N : Nat} {S0 : rx_S} {zr : Int32} {zS : rx_S} (h : f_X3_heldCount N S0 = some (zr, zS)) : EM gC d mX3_heldCount [.ref 33] S0 (rx_pi zr zS) := by
  unfold f_X3_heldCount at h
  show EV gC d mX3_heldCount 0 [some (.ref 33), none, none] [] S0 (rx_pi zr zS)
  refine ev_iconst (v := 0) 1 dX3_heldCount_0 (by decide) rfl ?_
  refine ev_istore_n (ls' := [some (.ref 33), some (.int 0), none]) 2 dX3_heldCount_1 rfl (Nat.le_of_ble_eq_true rfl) rfl rfl ?_
  refine ev_iconst (v := 0) 3 dX3_heldCount_2 (by decide) rfl ?_
  refine ev_istore_n (ls' := [some (.ref 33), some (.int 0), some (.int 0)]) 4 dX3_heldCount_3 rfl (Nat.le_of_ble_eq_true rfl) rfl rfl ?_
  exact (em_X3_heldCount_L4 _ _ _ _ h).fewer (rx_le_s (rx_le_s (rx_le_s rx_le_0)))

def f_X9_isBlank (x0 : Int32) (S0 : rx_S) : Option (Int32 × rx_S) := if x0 = 9 then (some (1, S0)) else (if x0 = 10 then (some (1, S0)) else (if x0 = 13 then (some (1, S0)) else (if x0 = 32 then (some (1, S0)) else (some (0, S0)))))
set_option maxHeartbeats 4000000 in
set_option maxRecDepth 20000 in
theorem em_X9_isBlank {G : Nat × Nat} {d : Nat} {x0 : Int32} {S0 : rx_S} {zr : Int32} {zS : rx_S} (h : f_X9_isBlank x0 S0 = some (zr, zS)) : EM G d mX9_isBlank [.int x0] S0 (rx_pi zr zS) := by
  unfold f_X9_isBlank at h
  show EV G d mX9_isBlank 0 [some (.int x0)] [] S0 (rx_pi zr zS)
  refine ev_iload_n (i := 0) 1 dX9_isBlank_0 rfl rfl rfl ?_
  refine ev_bipush (v := 9) 3 dX9_isBlank_1 (by decide) rfl ?_
  refine ev_icmp_eq 24 6 dX9_isBlank_3 rfl rfl (fun c2 => ?_) (fun c2 => ?_)
  · replace h := rx_if_t c2 h
    refine ev_iconst (v := 1) 25 dX9_isBlank_24 (by decide) rfl ?_
    refine ev_goto 29 dX9_isBlank_25 rfl ?_
    exact ev_zreturn dX9_isBlank_29 rfl (by decide) (rx_ret_i h)
  · replace h := rx_if_f c2 h
    refine ev_iload_n (i := 0) 7 dX9_isBlank_6 rfl rfl rfl ?_
    refine ev_bipush (v := 10) 9 dX9_isBlank_7 (by decide) rfl ?_
    refine ev_icmp_eq 24 12 dX9_isBlank_9 rfl rfl (fun c3 => ?_) (fun c3 => ?_)
    · replace h := rx_if_t c3 h
      refine ev_iconst (v := 1) 25 dX9_isBlank_24 (by decide) rfl ?_
      refine ev_goto 29 dX9_isBlank_25 rfl ?_
      exact ev_zreturn dX9_isBlank_29 rfl (by decide) (rx_ret_i h)
    · replace h := rx_if_f c3 h
      refine ev_iload_n (i := 0) 13 dX9_isBlank_12 rfl rfl rfl ?_
      refine ev_bipush (v := 13) 15 dX9_isBlank_13 (by decide) rfl ?_
      refine ev_icmp_eq 24 18 dX9_isBlank_15 rfl rfl (fun c4 => ?_) (fun c4 => ?_)
      · replace h := rx_if_t c4 h
        refine ev_iconst (v := 1) 25 dX9_isBlank_24 (by decide) rfl ?_
        refine ev_goto 29 dX9_isBlank_25 rfl ?_
        exact ev_zreturn dX9_isBlank_29 rfl (by decide) (rx_ret_i h)
      · replace h := rx_if_f c4 h
        refine ev_iload_n (i := 0) 19 dX9_isBlank_18 rfl rfl rfl ?_
        refine ev_bipush (v := 32) 21 dX9_isBlank_19 (by decide) rfl ?_
        refine ev_icmp_ne 28 24 dX9_isBlank_21 rfl rfl (fun c5 => ?_) (fun c5 => ?_)
        · replace h := rx_if_f c5 h
          refine ev_iconst (v := 0) 29 dX9_isBlank_28 (by decide) rfl ?_
          exact ev_zreturn dX9_isBlank_29 rfl (by decide) (rx_ret_i h)
        · replace h := rx_if_t c5 h
          refine ev_iconst (v := 1) 25 dX9_isBlank_24 (by decide) rfl ?_
          refine ev_goto 29 dX9_isBlank_25 rfl ?_
          exact ev_zreturn dX9_isBlank_29 rfl (by decide) (rx_ret_i h)

def f_X9_blanksEnd_L2 (N : Nat) : Nat → Int32 → Int32 → rx_S → Option (Int32 × rx_S)
  | 0, _, _, _ => none
  | n + 1, x4, x5, S6 => if x4 ≤ x5 then (some (x5, S6)) else (rx_gd x5 2000 (rx_bd (f_X9_isBlank (S6.1 1 (Int32.toNatClampNeg x5)) S6) (fun x10 S9 => if x10 = 0 then (some (x5, S9)) else (rx_let (x5 + 1) (fun x13 => f_X9_blanksEnd_L2 N n x4 x13 S9)))))
def f_X9_blanksEnd (N : Nat) (x1 : Int32) (x2 : Int32) (S0 : rx_S) : Option (Int32 × rx_S) := f_X9_blanksEnd_L2 N N x2 x1 S0
set_option maxHeartbeats 4000000 in
set_option maxRecDepth 20000 in
theorem em_X9_blanksEnd_L2 {d N : Nat} {zr : Int32} {zS : rx_S} : ∀ (n : Nat) (x4 : Int32) (x5 : Int32) (S6 : rx_S), f_X9_blanksEnd_L2 N n x4 x5 S6 = some (zr, zS) → EV gC (d + 1) mX9_blanksEnd 2 [some (.ref 1), none, some (.int x4), some (.int x5)] [] S6 (rx_pi zr zS) := by
  intro n
  induction n with
  | zero => intro x4 x5 S6 h; cases h
  | succ n ih =>
    intro x4 x5 S6 h
    rw [f_X9_blanksEnd_L2] at h
    refine ev_iload_n (i := 3) 3 dX9_blanksEnd_2 rfl rfl rfl ?_
    refine ev_iload_n (i := 2) 4 dX9_blanksEnd_3 rfl rfl rfl ?_
    refine ev_icmp_ge 22 7 dX9_blanksEnd_4 rfl rfl (fun c7 => ?_) (fun c7 => ?_)
    · replace h := rx_if_t c7 h
      refine ev_iload_n (i := 3) 23 dX9_blanksEnd_22 rfl rfl rfl ?_
      exact ev_ireturn dX9_blanksEnd_23 rfl (rx_ret_i h)
    · replace h := rx_if_f c7 h
      refine ev_aload_n (i := 0) 8 dX9_blanksEnd_7 rfl rfl rfl ?_
      refine ev_iload_n (i := 3) 9 dX9_blanksEnd_8 rfl rfl rfl ?_
      obtain ⟨g8, h⟩ := rx_gd_o h
      refine ex_bald _ 10 dX9_blanksEnd_9 dk_1 g8 rfl rfl ?_
      obtain ⟨x10, S9, g11, h⟩ := rx_bd_o h
      refine ev_cSi1 13 dX9_blanksEnd_10 (em_X9_isBlank g11) mm_X9_isBlank ms_X9_isBlank lk_9_63 (Nat.le_of_ble_eq_true rfl) (Nat.le_of_ble_eq_true rfl) rfl ?_
      refine ev_if_eq 22 16 dX9_blanksEnd_13 rfl rfl (fun c12 => ?_) (fun c12 => ?_)
      · replace h := rx_if_t c12 h
        refine ev_iload_n (i := 3) 23 dX9_blanksEnd_22 rfl rfl rfl ?_
        exact ev_ireturn dX9_blanksEnd_23 rfl (rx_ret_i h)
      · replace h := rx_if_f c12 h
        obtain ⟨x13, ex13, h⟩ := rx_let_o h
        refine ev_iinc (v := x13) (ls' := [some (.ref 1), none, some (.int x4), some (.int x13)]) 19 dX9_blanksEnd_16 rfl (by rw [ex13]; rfl) (Nat.le_of_ble_eq_true rfl) rfl rfl ?_
        refine ev_goto 2 dX9_blanksEnd_19 rfl ?_
        exact (ih _ _ _ h).fewer (rx_le_s (rx_le_n (rx_le_s (rx_le_s rx_le_0))))

set_option maxHeartbeats 4000000 in
set_option maxRecDepth 20000 in
theorem em_X9_blanksEnd {d N : Nat} {x1 : Int32} {x2 : Int32} {S0 : rx_S} {zr : Int32} {zS : rx_S} (h : f_X9_blanksEnd N x1 x2 S0 = some (zr, zS)) : EM gC (d + 1) mX9_blanksEnd [.ref 1, .int x1, .int x2] S0 (rx_pi zr zS) := by
  unfold f_X9_blanksEnd at h
  show EV gC (d + 1) mX9_blanksEnd 0 [some (.ref 1), some (.int x1), some (.int x2), none] [] S0 (rx_pi zr zS)
  refine ev_iload_n (i := 1) 1 dX9_blanksEnd_0 rfl rfl rfl ?_
  refine ev_istore_n (ls' := [some (.ref 1), some (.int x1), some (.int x2), some (.int x1)]) 2 dX9_blanksEnd_1 rfl (Nat.le_of_ble_eq_true rfl) rfl rfl ?_
  exact (em_X9_blanksEnd_L2 _ _ _ _ h).fewer (rx_le_s (rx_le_n (rx_le_s (rx_le_s rx_le_0))))

def f_X9_isLetter (x0 : Int32) (S0 : rx_S) : Option (Int32 × rx_S) := if x0 < 97 then (some (0, S0)) else (if (122 : Int32) < x0 then (some (0, S0)) else (some (1, S0)))
set_option maxHeartbeats 4000000 in
set_option maxRecDepth 20000 in
theorem em_X9_isLetter {G : Nat × Nat} {d : Nat} {x0 : Int32} {S0 : rx_S} {zr : Int32} {zS : rx_S} (h : f_X9_isLetter x0 S0 = some (zr, zS)) : EM G d mX9_isLetter [.int x0] S0 (rx_pi zr zS) := by
  unfold f_X9_isLetter at h
  show EV G d mX9_isLetter 0 [some (.int x0)] [] S0 (rx_pi zr zS)
  refine ev_iload_n (i := 0) 1 dX9_isLetter_0 rfl rfl rfl ?_
  refine ev_bipush (v := 97) 3 dX9_isLetter_1 (by decide) rfl ?_
  refine ev_icmp_lt 16 6 dX9_isLetter_3 rfl rfl (fun c2 => ?_) (fun c2 => ?_)
  · replace h := rx_if_t c2 h
    refine ev_iconst (v := 0) 17 dX9_isLetter_16 (by decide) rfl ?_
    exact ev_zreturn dX9_isLetter_17 rfl (by decide) (rx_ret_i h)
  · replace h := rx_if_f c2 h
    refine ev_iload_n (i := 0) 7 dX9_isLetter_6 rfl rfl rfl ?_
    refine ev_bipush (v := 122) 9 dX9_isLetter_7 (by decide) rfl ?_
    refine ev_icmp_gt 16 12 dX9_isLetter_9 rfl rfl (fun c3 => ?_) (fun c3 => ?_)
    · replace h := rx_if_t c3 h
      refine ev_iconst (v := 0) 17 dX9_isLetter_16 (by decide) rfl ?_
      exact ev_zreturn dX9_isLetter_17 rfl (by decide) (rx_ret_i h)
    · replace h := rx_if_f c3 h
      refine ev_iconst (v := 1) 13 dX9_isLetter_12 (by decide) rfl ?_
      refine ev_goto 17 dX9_isLetter_13 rfl ?_
      exact ev_zreturn dX9_isLetter_17 rfl (by decide) (rx_ret_i h)

def f_X9_isDigit (x0 : Int32) (S0 : rx_S) : Option (Int32 × rx_S) := if x0 < 48 then (some (0, S0)) else (if (57 : Int32) < x0 then (some (0, S0)) else (some (1, S0)))
set_option maxHeartbeats 4000000 in
set_option maxRecDepth 20000 in
theorem em_X9_isDigit {G : Nat × Nat} {d : Nat} {x0 : Int32} {S0 : rx_S} {zr : Int32} {zS : rx_S} (h : f_X9_isDigit x0 S0 = some (zr, zS)) : EM G d mX9_isDigit [.int x0] S0 (rx_pi zr zS) := by
  unfold f_X9_isDigit at h
  show EV G d mX9_isDigit 0 [some (.int x0)] [] S0 (rx_pi zr zS)
  refine ev_iload_n (i := 0) 1 dX9_isDigit_0 rfl rfl rfl ?_
  refine ev_bipush (v := 48) 3 dX9_isDigit_1 (by decide) rfl ?_
  refine ev_icmp_lt 16 6 dX9_isDigit_3 rfl rfl (fun c2 => ?_) (fun c2 => ?_)
  · replace h := rx_if_t c2 h
    refine ev_iconst (v := 0) 17 dX9_isDigit_16 (by decide) rfl ?_
    exact ev_zreturn dX9_isDigit_17 rfl (by decide) (rx_ret_i h)
  · replace h := rx_if_f c2 h
    refine ev_iload_n (i := 0) 7 dX9_isDigit_6 rfl rfl rfl ?_
    refine ev_bipush (v := 57) 9 dX9_isDigit_7 (by decide) rfl ?_
    refine ev_icmp_gt 16 12 dX9_isDigit_9 rfl rfl (fun c3 => ?_) (fun c3 => ?_)
    · replace h := rx_if_t c3 h
      refine ev_iconst (v := 0) 17 dX9_isDigit_16 (by decide) rfl ?_
      exact ev_zreturn dX9_isDigit_17 rfl (by decide) (rx_ret_i h)
    · replace h := rx_if_f c3 h
      refine ev_iconst (v := 1) 13 dX9_isDigit_12 (by decide) rfl ?_
      refine ev_goto 17 dX9_isDigit_13 rfl ?_
      exact ev_zreturn dX9_isDigit_17 rfl (by decide) (rx_ret_i h)

def f_X9_tokenEnd_L50 (N : Nat) : Nat → Int32 → Int32 → rx_S → Option (Int32 × rx_S)
  | 0, _, _, _ => none
  | n + 1, x20, x21, S22 => if x20 ≤ x21 then (some (x21, S22)) else (rx_gd x21 2000 (rx_bd (f_X9_isDigit (S22.1 1 (Int32.toNatClampNeg x21)) S22) (fun x26 S25 => if x26 = 0 then (some (x21, S25)) else (rx_let (x21 + 1) (fun x29 => f_X9_tokenEnd_L50 N n x20 x29 S25)))))
def f_X9_tokenEnd_L16 (N : Nat) : Nat → Int32 → Int32 → rx_S → Option (Int32 × rx_S)
  | 0, _, _, _ => none
  | n + 1, x36, x37, S38 => if x36 ≤ x37 then (some (x37, S38)) else (rx_gd x37 2000 (rx_bd (f_X9_isLetter (S38.1 1 (Int32.toNatClampNeg x37)) S38) (fun x42 S41 => if x42 = 0 then (some (x37, S41)) else (rx_let (x37 + 1) (fun x45 => f_X9_tokenEnd_L16 N n x36 x45 S41)))))
def f_X9_tokenEnd (N : Nat) (x1 : Int32) (x2 : Int32) (S0 : rx_S) : Option (Int32 × rx_S) := rx_let (fun (x4 : Int32) (x5 : Int32) (x6 : Int32) (S7 : rx_S) => rx_let (fun (x8 : Int32) (x9 : Int32) (x10 : Int32) (S11 : rx_S) => if x9 ≤ x8 then (some (x10, S11)) else (rx_let (x10 + 1) (fun x13 => some (x13, S11)))) (fun J70_2 => if x5 ≤ x4 then (J70_2 x4 x5 x6 S7) else (rx_gd x4 2000 (rx_bd (f_X9_isDigit (S7.1 1 (Int32.toNatClampNeg x4)) S7) (fun x17 S16 => if x17 = 0 then (J70_2 x4 x5 x6 S16) else (f_X9_tokenEnd_L50 N N x5 x6 S16)))))) (fun J36_1 => if x2 ≤ x1 then (J36_1 x1 x2 x1 S0) else (rx_gd x1 2000 (rx_bd (f_X9_isLetter (S0.1 1 (Int32.toNatClampNeg x1)) S0) (fun x33 S32 => if x33 = 0 then (J36_1 x1 x2 x1 S32) else (f_X9_tokenEnd_L16 N N x2 x1 S32)))))
set_option maxHeartbeats 4000000 in
set_option maxRecDepth 20000 in
theorem em_X9_tokenEnd_L50 {d N : Nat} {zr : Int32} {zS : rx_S} : ∀ (n : Nat) (x20 : Int32) (x21 : Int32) (S22 : rx_S), f_X9_tokenEnd_L50 N n x20 x21 S22 = some (zr, zS) → EV gC (d + 1) mX9_tokenEnd 50 [some (.ref 1), none, some (.int x20), some (.int x21)] [] S22 (rx_pi zr zS) := by
  intro n
  induction n with
  | zero => intro x20 x21 S22 h; cases h
  | succ n ih =>
    intro x20 x21 S22 h
    rw [f_X9_tokenEnd_L50] at h
    refine ev_iload_n (i := 3) 51 dX9_tokenEnd_50 rfl rfl rfl ?_
    refine ev_iload_n (i := 2) 52 dX9_tokenEnd_51 rfl rfl rfl ?_
    refine ev_icmp_ge 78 55 dX9_tokenEnd_52 rfl rfl (fun c23 => ?_) (fun c23 => ?_)
    · replace h := rx_if_t c23 h
      refine ev_iload_n (i := 3) 79 dX9_tokenEnd_78 rfl rfl rfl ?_
      exact ev_ireturn dX9_tokenEnd_79 rfl (rx_ret_i h)
    · replace h := rx_if_f c23 h
      refine ev_aload_n (i := 0) 56 dX9_tokenEnd_55 rfl rfl rfl ?_
      refine ev_iload_n (i := 3) 57 dX9_tokenEnd_56 rfl rfl rfl ?_
      obtain ⟨g24, h⟩ := rx_gd_o h
      refine ex_bald _ 58 dX9_tokenEnd_57 dk_1 g24 rfl rfl ?_
      obtain ⟨x26, S25, g27, h⟩ := rx_bd_o h
      refine ev_cSi1 61 dX9_tokenEnd_58 (em_X9_isDigit g27) mm_X9_isDigit ms_X9_isDigit lk_9_70 (Nat.le_of_ble_eq_true rfl) (Nat.le_of_ble_eq_true rfl) rfl ?_
      refine ev_if_eq 78 64 dX9_tokenEnd_61 rfl rfl (fun c28 => ?_) (fun c28 => ?_)
      · replace h := rx_if_t c28 h
        refine ev_iload_n (i := 3) 79 dX9_tokenEnd_78 rfl rfl rfl ?_
        exact ev_ireturn dX9_tokenEnd_79 rfl (rx_ret_i h)
      · replace h := rx_if_f c28 h
        obtain ⟨x29, ex29, h⟩ := rx_let_o h
        refine ev_iinc (v := x29) (ls' := [some (.ref 1), none, some (.int x20), some (.int x29)]) 67 dX9_tokenEnd_64 rfl (by rw [ex29]; rfl) (Nat.le_of_ble_eq_true rfl) rfl rfl ?_
        refine ev_goto 50 dX9_tokenEnd_67 rfl ?_
        exact (ih _ _ _ h).fewer (rx_le_s (rx_le_n (rx_le_s (rx_le_s rx_le_0))))

set_option maxHeartbeats 4000000 in
set_option maxRecDepth 20000 in
theorem em_X9_tokenEnd_L16 {d N : Nat} {zr : Int32} {zS : rx_S} : ∀ (n : Nat) (x36 : Int32) (x37 : Int32) (S38 : rx_S), f_X9_tokenEnd_L16 N n x36 x37 S38 = some (zr, zS) → EV gC (d + 1) mX9_tokenEnd 16 [some (.ref 1), none, some (.int x36), some (.int x37)] [] S38 (rx_pi zr zS) := by
  intro n
  induction n with
  | zero => intro x36 x37 S38 h; cases h
  | succ n ih =>
    intro x36 x37 S38 h
    rw [f_X9_tokenEnd_L16] at h
    refine ev_iload_n (i := 3) 17 dX9_tokenEnd_16 rfl rfl rfl ?_
    refine ev_iload_n (i := 2) 18 dX9_tokenEnd_17 rfl rfl rfl ?_
    refine ev_icmp_ge 78 21 dX9_tokenEnd_18 rfl rfl (fun c39 => ?_) (fun c39 => ?_)
    · replace h := rx_if_t c39 h
      refine ev_iload_n (i := 3) 79 dX9_tokenEnd_78 rfl rfl rfl ?_
      exact ev_ireturn dX9_tokenEnd_79 rfl (rx_ret_i h)
    · replace h := rx_if_f c39 h
      refine ev_aload_n (i := 0) 22 dX9_tokenEnd_21 rfl rfl rfl ?_
      refine ev_iload_n (i := 3) 23 dX9_tokenEnd_22 rfl rfl rfl ?_
      obtain ⟨g40, h⟩ := rx_gd_o h
      refine ex_bald _ 24 dX9_tokenEnd_23 dk_1 g40 rfl rfl ?_
      obtain ⟨x42, S41, g43, h⟩ := rx_bd_o h
      refine ev_cSi1 27 dX9_tokenEnd_24 (em_X9_isLetter g43) mm_X9_isLetter ms_X9_isLetter lk_9_67 (Nat.le_of_ble_eq_true rfl) (Nat.le_of_ble_eq_true rfl) rfl ?_
      refine ev_if_eq 78 30 dX9_tokenEnd_27 rfl rfl (fun c44 => ?_) (fun c44 => ?_)
      · replace h := rx_if_t c44 h
        refine ev_iload_n (i := 3) 79 dX9_tokenEnd_78 rfl rfl rfl ?_
        exact ev_ireturn dX9_tokenEnd_79 rfl (rx_ret_i h)
      · replace h := rx_if_f c44 h
        obtain ⟨x45, ex45, h⟩ := rx_let_o h
        refine ev_iinc (v := x45) (ls' := [some (.ref 1), none, some (.int x36), some (.int x45)]) 33 dX9_tokenEnd_30 rfl (by rw [ex45]; rfl) (Nat.le_of_ble_eq_true rfl) rfl rfl ?_
        refine ev_goto 16 dX9_tokenEnd_33 rfl ?_
        exact (ih _ _ _ h).fewer (rx_le_s (rx_le_n (rx_le_s (rx_le_s rx_le_0))))

set_option maxHeartbeats 4000000 in
set_option maxRecDepth 20000 in
theorem em_X9_tokenEnd {d N : Nat} {x1 : Int32} {x2 : Int32} {S0 : rx_S} {zr : Int32} {zS : rx_S} (h : f_X9_tokenEnd N x1 x2 S0 = some (zr, zS)) : EM gC (d + 1) mX9_tokenEnd [.ref 1, .int x1, .int x2] S0 (rx_pi zr zS) := by
  unfold f_X9_tokenEnd at h
  show EV gC (d + 1) mX9_tokenEnd 0 [some (.ref 1), some (.int x1), some (.int x2), none] [] S0 (rx_pi zr zS)
  refine ev_iload_n (i := 1) 1 dX9_tokenEnd_0 rfl rfl rfl ?_
  refine ev_istore_n (ls' := [some (.ref 1), some (.int x1), some (.int x2), some (.int x1)]) 2 dX9_tokenEnd_1 rfl (Nat.le_of_ble_eq_true rfl) rfl rfl ?_
  refine ev_iload_n (i := 1) 3 dX9_tokenEnd_2 rfl rfl rfl ?_
  refine ev_iload_n (i := 2) 4 dX9_tokenEnd_3 rfl rfl rfl ?_
  obtain ⟨J36_1, eJ36_1, h⟩ := rx_let_o h
  have hJ36_1 : ∀ (x4 : Int32) (x5 : Int32) (x6 : Int32) (S7 : rx_S), J36_1 x4 x5 x6 S7 = some (zr, zS) → EV gC (d + 1) mX9_tokenEnd 36 [some (.ref 1), some (.int x4), some (.int x5), some (.int x6)] [] S7 (rx_pi zr zS) := by
    intro x4 x5 x6 S7 h
    subst eJ36_1
    refine ev_iload_n (i := 1) 37 dX9_tokenEnd_36 rfl rfl rfl ?_
    refine ev_iload_n (i := 2) 38 dX9_tokenEnd_37 rfl rfl rfl ?_
    obtain ⟨J70_2, eJ70_2, h⟩ := rx_let_o h
    have hJ70_2 : ∀ (x8 : Int32) (x9 : Int32) (x10 : Int32) (S11 : rx_S), J70_2 x8 x9 x10 S11 = some (zr, zS) → EV gC (d + 1) mX9_tokenEnd 70 [some (.ref 1), some (.int x8), some (.int x9), some (.int x10)] [] S11 (rx_pi zr zS) := by
      intro x8 x9 x10 S11 h
      subst eJ70_2
      refine ev_iload_n (i := 1) 71 dX9_tokenEnd_70 rfl rfl rfl ?_
      refine ev_iload_n (i := 2) 72 dX9_tokenEnd_71 rfl rfl rfl ?_
      refine ev_icmp_ge 78 75 dX9_tokenEnd_72 rfl rfl (fun c12 => ?_) (fun c12 => ?_)
      · replace h := rx_if_t c12 h
        refine ev_iload_n (i := 3) 79 dX9_tokenEnd_78 rfl rfl rfl ?_
        exact ev_ireturn dX9_tokenEnd_79 rfl (rx_ret_i h)
      · replace h := rx_if_f c12 h
        obtain ⟨x13, ex13, h⟩ := rx_let_o h
        refine ev_iinc (v := x13) (ls' := [some (.ref 1), some (.int x8), some (.int x9), some (.int x13)]) 78 dX9_tokenEnd_75 rfl (by rw [ex13]; rfl) (Nat.le_of_ble_eq_true rfl) rfl rfl ?_
        refine ev_iload_n (i := 3) 79 dX9_tokenEnd_78 rfl rfl rfl ?_
        exact ev_ireturn dX9_tokenEnd_79 rfl (rx_ret_i h)
    refine ev_icmp_ge 70 41 dX9_tokenEnd_38 rfl rfl (fun c14 => ?_) (fun c14 => ?_)
    · replace h := rx_if_t c14 h
      exact (hJ70_2 _ _ _ _ h).fewer (rx_le_s (rx_le_s (rx_le_s (rx_le_s rx_le_0))))
    · replace h := rx_if_f c14 h
      refine ev_aload_n (i := 0) 42 dX9_tokenEnd_41 rfl rfl rfl ?_
      refine ev_iload_n (i := 1) 43 dX9_tokenEnd_42 rfl rfl rfl ?_
      obtain ⟨g15, h⟩ := rx_gd_o h
      refine ex_bald _ 44 dX9_tokenEnd_43 dk_1 g15 rfl rfl ?_
      obtain ⟨x17, S16, g18, h⟩ := rx_bd_o h
      refine ev_cSi1 47 dX9_tokenEnd_44 (em_X9_isDigit g18) mm_X9_isDigit ms_X9_isDigit lk_9_70 (Nat.le_of_ble_eq_true rfl) (Nat.le_of_ble_eq_true rfl) rfl ?_
      refine ev_if_eq 70 50 dX9_tokenEnd_47 rfl rfl (fun c19 => ?_) (fun c19 => ?_)
      · replace h := rx_if_t c19 h
        exact (hJ70_2 _ _ _ _ h).fewer (rx_le_s (rx_le_s (rx_le_s (rx_le_s rx_le_0))))
      · replace h := rx_if_f c19 h
        exact (em_X9_tokenEnd_L50 _ _ _ _ h).fewer (rx_le_s (rx_le_n (rx_le_s (rx_le_s rx_le_0))))
  refine ev_icmp_ge 36 7 dX9_tokenEnd_4 rfl rfl (fun c30 => ?_) (fun c30 => ?_)
  · replace h := rx_if_t c30 h
    exact (hJ36_1 _ _ _ _ h).fewer (rx_le_s (rx_le_s (rx_le_s (rx_le_s rx_le_0))))
  · replace h := rx_if_f c30 h
    refine ev_aload_n (i := 0) 8 dX9_tokenEnd_7 rfl rfl rfl ?_
    refine ev_iload_n (i := 1) 9 dX9_tokenEnd_8 rfl rfl rfl ?_
    obtain ⟨g31, h⟩ := rx_gd_o h
    refine ex_bald _ 10 dX9_tokenEnd_9 dk_1 g31 rfl rfl ?_
    obtain ⟨x33, S32, g34, h⟩ := rx_bd_o h
    refine ev_cSi1 13 dX9_tokenEnd_10 (em_X9_isLetter g34) mm_X9_isLetter ms_X9_isLetter lk_9_67 (Nat.le_of_ble_eq_true rfl) (Nat.le_of_ble_eq_true rfl) rfl ?_
    refine ev_if_eq 36 16 dX9_tokenEnd_13 rfl rfl (fun c35 => ?_) (fun c35 => ?_)
    · replace h := rx_if_t c35 h
      exact (hJ36_1 _ _ _ _ h).fewer (rx_le_s (rx_le_s (rx_le_s (rx_le_s rx_le_0))))
    · replace h := rx_if_f c35 h
      exact (em_X9_tokenEnd_L16 _ _ _ _ h).fewer (rx_le_s (rx_le_n (rx_le_s (rx_le_s rx_le_0))))

def f_X9_withLetter (x0 : Int64) (x1 : Int32) (S0 : rx_S) : Option (Int64 × rx_S) := some (((x0 * (32 : Int64)) + (Int32.toInt64 ((x1 - 97) + 1))), S0)
set_option maxHeartbeats 4000000 in
set_option maxRecDepth 20000 in
theorem em_X9_withLetter {G : Nat × Nat} {d : Nat} {x0 : Int64} {x1 : Int32} {S0 : rx_S} {zr : Int64} {zS : rx_S} (h : f_X9_withLetter x0 x1 S0 = some (zr, zS)) : EM G d mX9_withLetter [.long x0, .int x1] S0 (rx_pl zr zS) := by
  unfold f_X9_withLetter at h
  show EV G d mX9_withLetter 0 [some (.long x0), none, some (.int x1)] [] S0 (rx_pl zr zS)
  refine ev_lload_n (i := 0) 1 dX9_withLetter_0 rfl rfl rfl ?_
  refine ev_ldc2 (v := 32) 4 dX9_withLetter_1 rfl ct_9_41 rfl ?_
  refine ev_lmul 5 dX9_withLetter_4 rfl ?_
  refine ev_iload_n (i := 2) 6 dX9_withLetter_5 rfl rfl rfl ?_
  refine ev_bipush (v := 97) 8 dX9_withLetter_6 (by decide) rfl ?_
  refine ev_isub 9 dX9_withLetter_8 rfl ?_
  refine ev_iconst (v := 1) 10 dX9_withLetter_9 (by decide) rfl ?_
  refine ev_iadd 11 dX9_withLetter_10 rfl ?_
  refine ev_i2l 12 dX9_withLetter_11 rfl ?_
  refine ev_ladd 13 dX9_withLetter_12 rfl ?_
  exact ev_lreturn dX9_withLetter_13 rfl (rx_ret_l h)

def f_X9_wordKind_L43 (N : Nat) : Nat → Int64 → Int32 → rx_S → Option (Int32 × rx_S)
  | 0, _, _, _ => none
  | n + 1, x9, x10, S11 => if (24 : Int32) ≤ x10 then (some (2, S11)) else (rx_gd x10 24 (if (lg_cmp (S11.2 15 (Int32.toNatClampNeg x10)) x9) = 0 then (some (((128 : Int32) + x10), S11)) else (rx_let (x10 + 1) (fun x15 => f_X9_wordKind_L43 N n x9 x15 S11))))
def f_X9_wordKind_L6 (N : Nat) (K29 : Int64 → rx_S → Option (Int32 × rx_S)) : Nat → Int32 → Int64 → Int32 → rx_S → Option (Int32 × rx_S)
  | 0, _, _, _, _ => none
  | n + 1, x16, x17, x18, S19 => if x16 ≤ x18 then (K29 x17 S19) else (rx_gd x18 2000 (rx_bd (f_X9_withLetter x17 (S19.1 1 (Int32.toNatClampNeg x18)) S19) (fun x25 S24 => rx_let (x18 + 1) (fun x27 => f_X9_wordKind_L6 N K29 n x16 x25 x27 S24))))
def f_X9_wordKind (N : Nat) (x2 : Int32) (x3 : Int32) (S0 : rx_S) : Option (Int32 × rx_S) := rx_let (fun (x5 : Int64) (S6 : rx_S) => rx_gd (S6.1 14 4) 401 (rx_let (rx_uj S6 18 (Int32.toNatClampNeg (S6.1 14 4)) x5) (fun S8 => f_X9_wordKind_L43 N N x5 0 S8))) (fun J29_1 => f_X9_wordKind_L6 N J29_1 N x3 (0 : Int64) x2 S0)
set_option maxHeartbeats 4000000 in
set_option maxRecDepth 20000 in
theorem em_X9_wordKind_L43 {d N : Nat} {zr : Int32} {zS : rx_S} : ∀ (n : Nat) (x9 : Int64) (x10 : Int32) (S11 : rx_S), f_X9_wordKind_L43 N n x9 x10 S11 = some (zr, zS) → EV gC (d + 1) mX9_wordKind 43 [some (.ref 14), some (.ref 1), none, none, some (.long x9), none, some (.int x10)] [] S11 (rx_pi zr zS) := by
  intro n
  induction n with
  | zero => intro x9 x10 S11 h; cases h
  | succ n ih =>
    intro x9 x10 S11 h
    rw [f_X9_wordKind_L43] at h
    refine ev_iload 45 dX9_wordKind_43 rfl rfl ?_
    refine ev_bipush (v := 24) 47 dX9_wordKind_45 (by decide) rfl ?_
    refine ev_icmp_ge 76 50 dX9_wordKind_47 rfl rfl (fun c12 => ?_) (fun c12 => ?_)
    · replace h := rx_if_t c12 h
      refine ev_iconst (v := 2) 77 dX9_wordKind_76 (by decide) rfl ?_
      exact ev_ireturn dX9_wordKind_77 rfl (rx_ret_i h)
    · replace h := rx_if_f c12 h
      refine ev_aload_n (i := 0) 51 dX9_wordKind_50 rfl rfl rfl ?_
      refine ev_get (v := .ref 15) 54 dX9_wordKind_51 dk_14 fl_9_9 (by decide) rfl rfl rfl ?_
      refine ev_iload 56 dX9_wordKind_54 rfl rfl ?_
      obtain ⟨g13, h⟩ := rx_gd_o h
      refine ex_lald _ 57 dX9_wordKind_56 dk_15 g13 rfl rfl ?_
      refine ev_lload 59 dX9_wordKind_57 rfl rfl ?_
      refine ev_lcmp 60 dX9_wordKind_59 rfl ?_
      refine ev_if_ne 70 63 dX9_wordKind_60 rfl rfl (fun c14 => ?_) (fun c14 => ?_)
      · replace h := rx_if_f c14 h
        obtain ⟨x15, ex15, h⟩ := rx_let_o h
        refine ev_iinc (v := x15) (ls' := [some (.ref 14), some (.ref 1), none, none, some (.long x9), none, some (.int x15)]) 73 dX9_wordKind_70 rfl (by rw [ex15]; rfl) (Nat.le_of_ble_eq_true rfl) rfl rfl ?_
        refine ev_goto 43 dX9_wordKind_73 rfl ?_
        exact (ih _ _ _ h).fewer (rx_le_s (rx_le_s (rx_le_n (rx_le_n (rx_le_s (rx_le_n (rx_le_s rx_le_0)))))))
      · replace h := rx_if_t c14 h
        refine ev_sipush (v := 128) 66 dX9_wordKind_63 (by decide) rfl ?_
        refine ev_iload 68 dX9_wordKind_66 rfl rfl ?_
        refine ev_iadd 69 dX9_wordKind_68 rfl ?_
        exact ev_ireturn dX9_wordKind_69 rfl (rx_ret_i h)

set_option maxHeartbeats 4000000 in
set_option maxRecDepth 20000 in
theorem em_X9_wordKind_L6 {d N : Nat} {K29 : Int64 → rx_S → Option (Int32 × rx_S)} {zr : Int32} {zS : rx_S} (hK29 : ∀ (x20 : Int64) (S21 : rx_S), K29 x20 S21 = some (zr, zS) → EV gC (d + 1) mX9_wordKind 29 [some (.ref 14), some (.ref 1), none, none, some (.long x20), none, none] [] S21 (rx_pi zr zS)) : ∀ (n : Nat) (x16 : Int32) (x17 : Int64) (x18 : Int32) (S19 : rx_S), f_X9_wordKind_L6 N K29 n x16 x17 x18 S19 = some (zr, zS) → EV gC (d + 1) mX9_wordKind 6 [some (.ref 14), some (.ref 1), none, some (.int x16), some (.long x17), none, some (.int x18)] [] S19 (rx_pi zr zS) := by
  intro n
  induction n with
  | zero => intro x16 x17 x18 S19 h; cases h
  | succ n ih =>
    intro x16 x17 x18 S19 h
    rw [f_X9_wordKind_L6] at h
    refine ev_iload 8 dX9_wordKind_6 rfl rfl ?_
    refine ev_iload_n (i := 3) 9 dX9_wordKind_8 rfl rfl rfl ?_
    refine ev_icmp_ge 29 12 dX9_wordKind_9 rfl rfl (fun c22 => ?_) (fun c22 => ?_)
    · replace h := rx_if_t c22 h
      exact (hK29 _ _ h).fewer (rx_le_s (rx_le_s (rx_le_n (rx_le_n (rx_le_s (rx_le_n (rx_le_n rx_le_0)))))))
    · replace h := rx_if_f c22 h
      refine ev_lload 14 dX9_wordKind_12 rfl rfl ?_
      refine ev_aload_n (i := 1) 15 dX9_wordKind_14 rfl rfl rfl ?_
      refine ev_iload 17 dX9_wordKind_15 rfl rfl ?_
      obtain ⟨g23, h⟩ := rx_gd_o h
      refine ex_bald _ 18 dX9_wordKind_17 dk_1 g23 rfl rfl ?_
      obtain ⟨x25, S24, g26, h⟩ := rx_bd_o h
      refine ev_cSl2 21 dX9_wordKind_18 (em_X9_withLetter g26) mm_X9_withLetter ms_X9_withLetter lk_9_37 (Nat.le_of_ble_eq_true rfl) (Nat.le_of_ble_eq_true rfl) rfl ?_
      refine ev_lstore (ls' := [some (.ref 14), some (.ref 1), none, some (.int x16), some (.long x25), none, some (.int x18)]) 23 dX9_wordKind_21 (Nat.le_of_ble_eq_true rfl) rfl rfl ?_
      obtain ⟨x27, ex27, h⟩ := rx_let_o h
      refine ev_iinc (v := x27) (ls' := [some (.ref 14), some (.ref 1), none, some (.int x16), some (.long x25), none, some (.int x27)]) 26 dX9_wordKind_23 rfl (by rw [ex27]; rfl) (Nat.le_of_ble_eq_true rfl) rfl rfl ?_
      refine ev_goto 6 dX9_wordKind_26 rfl ?_
      exact (ih _ _ _ _ h).fewer (rx_le_s (rx_le_s (rx_le_n (rx_le_s (rx_le_s (rx_le_n (rx_le_s rx_le_0)))))))

set_option maxHeartbeats 4000000 in
set_option maxRecDepth 20000 in
theorem em_X9_wordKind {d N : Nat} {x2 : Int32} {x3 : Int32} {S0 : rx_S} {zr : Int32} {zS : rx_S} (h : f_X9_wordKind N x2 x3 S0 = some (zr, zS)) : EM gC (d + 1) mX9_wordKind [.ref 14, .ref 1, .int x2, .int x3] S0 (rx_pi zr zS) := by
  unfold f_X9_wordKind at h
  show EV gC (d + 1) mX9_wordKind 0 [some (.ref 14), some (.ref 1), some (.int x2), some (.int x3), none, none, none] [] S0 (rx_pi zr zS)
  refine ev_lconst (v := 0) 1 dX9_wordKind_0 (by decide) rfl ?_
  refine ev_lstore (ls' := [some (.ref 14), some (.ref 1), some (.int x2), some (.int x3), some (.long (0 : Int64)), none, none]) 3 dX9_wordKind_1 (Nat.le_of_ble_eq_true rfl) rfl rfl ?_
  refine ev_iload_n (i := 2) 4 dX9_wordKind_3 rfl rfl rfl ?_
  refine ev_istore (ls' := [some (.ref 14), some (.ref 1), some (.int x2), some (.int x3), some (.long (0 : Int64)), none, some (.int x2)]) 6 dX9_wordKind_4 (Nat.le_of_ble_eq_true rfl) rfl rfl ?_
  obtain ⟨J29_1, eJ29_1, h⟩ := rx_let_o h
  have hJ29_1 : ∀ (x5 : Int64) (S6 : rx_S), J29_1 x5 S6 = some (zr, zS) → EV gC (d + 1) mX9_wordKind 29 [some (.ref 14), some (.ref 1), none, none, some (.long x5), none, none] [] S6 (rx_pi zr zS) := by
    intro x5 S6 h
    subst eJ29_1
    refine ev_aload_n (i := 0) 30 dX9_wordKind_29 rfl rfl rfl ?_
    refine ev_get (v := .ref 18) 33 dX9_wordKind_30 dk_14 fl_9_22 (by decide) rfl rfl rfl ?_
    refine ev_aload_n (i := 0) 34 dX9_wordKind_33 rfl rfl rfl ?_
    refine ev_get (v := .int (S6.1 14 4)) 37 dX9_wordKind_34 dk_14 fl_9_49 (by decide) rfl rfl rfl ?_
    refine ev_lload 39 dX9_wordKind_37 rfl rfl ?_
    obtain ⟨g7, h⟩ := rx_gd_o h
    obtain ⟨S8, eS8, h⟩ := rx_let_o h
    refine ex_last _ 40 dX9_wordKind_39 dk_18 g7 rfl rfl eS8 ?_
    refine ev_iconst (v := 0) 41 dX9_wordKind_40 (by decide) rfl ?_
    refine ev_istore (ls' := [some (.ref 14), some (.ref 1), none, none, some (.long x5), none, some (.int 0)]) 43 dX9_wordKind_41 (Nat.le_of_ble_eq_true rfl) rfl rfl ?_
    exact (em_X9_wordKind_L43 _ _ _ _ h).fewer (rx_le_s (rx_le_s (rx_le_n (rx_le_n (rx_le_s (rx_le_n (rx_le_s rx_le_0)))))))
  exact (em_X9_wordKind_L6 hJ29_1 _ _ _ _ _ h).fewer (rx_le_s (rx_le_s (rx_le_n (rx_le_s (rx_le_s (rx_le_n (rx_le_s rx_le_0)))))))

def f_X9_numberKind_L6 (N : Nat) (K33 : Int32 → rx_S → Option (Int32 × rx_S)) : Nat → Int32 → Int32 → Int32 → rx_S → Option (Int32 × rx_S)
  | 0, _, _, _, _ => none
  | n + 1, x9, x10, x11, S12 => if x9 ≤ x11 then (K33 x10 S12) else (rx_gd x11 2000 (rx_let ((x10 * 10) + ((S12.1 1 (Int32.toNatClampNeg x11)) - 48)) (fun x17 => rx_let (x11 + 1) (fun x18 => f_X9_numberKind_L6 N K33 n x9 x17 x18 S12))))
def f_X9_numberKind (N : Nat) (x2 : Int32) (x3 : Int32) (S0 : rx_S) : Option (Int32 × rx_S) := rx_let (fun (x5 : Int32) (S6 : rx_S) => rx_gd (S6.1 14 4) 401 (rx_let (rx_uj S6 18 (Int32.toNatClampNeg (S6.1 14 4)) (Int32.toInt64 x5)) (fun S8 => some (3, S8)))) (fun J33_1 => f_X9_numberKind_L6 N J33_1 N x3 0 x2 S0)
set_option maxHeartbeats 4000000 in
set_option maxRecDepth 20000 in
theorem em_X9_numberKind_L6 {d N : Nat} {K33 : Int32 → rx_S → Option (Int32 × rx_S)} {zr : Int32} {zS : rx_S} (hK33 : ∀ (x13 : Int32) (S14 : rx_S), K33 x13 S14 = some (zr, zS) → EV gC d mX9_numberKind 33 [some (.ref 14), some (.ref 1), none, none, some (.int x13), none] [] S14 (rx_pi zr zS)) : ∀ (n : Nat) (x9 : Int32) (x10 : Int32) (x11 : Int32) (S12 : rx_S), f_X9_numberKind_L6 N K33 n x9 x10 x11 S12 = some (zr, zS) → EV gC d mX9_numberKind 6 [some (.ref 14), some (.ref 1), none, some (.int x9), some (.int x10), some (.int x11)] [] S12 (rx_pi zr zS) := by
  intro n
  induction n with
  | zero => intro x9 x10 x11 S12 h; cases h
  | succ n ih =>
    intro x9 x10 x11 S12 h
    rw [f_X9_numberKind_L6] at h
    refine ev_iload 8 dX9_numberKind_6 rfl rfl ?_
    refine ev_iload_n (i := 3) 9 dX9_numberKind_8 rfl rfl rfl ?_
    refine ev_icmp_ge 33 12 dX9_numberKind_9 rfl rfl (fun c15 => ?_) (fun c15 => ?_)
    · replace h := rx_if_t c15 h
      exact (hK33 _ _ h).fewer (rx_le_s (rx_le_s (rx_le_n (rx_le_n (rx_le_s (rx_le_n rx_le_0))))))
    · replace h := rx_if_f c15 h
      refine ev_iload 14 dX9_numberKind_12 rfl rfl ?_
      refine ev_bipush (v := 10) 16 dX9_numberKind_14 (by decide) rfl ?_
      refine ev_imul 17 dX9_numberKind_16 rfl ?_
      refine ev_aload_n (i := 1) 18 dX9_numberKind_17 rfl rfl rfl ?_
      refine ev_iload 20 dX9_numberKind_18 rfl rfl ?_
      obtain ⟨g16, h⟩ := rx_gd_o h
      refine ex_bald _ 21 dX9_numberKind_20 dk_1 g16 rfl rfl ?_
      refine ev_bipush (v := 48) 23 dX9_numberKind_21 (by decide) rfl ?_
      refine ev_isub 24 dX9_numberKind_23 rfl ?_
      refine ev_iadd 25 dX9_numberKind_24 rfl ?_
      obtain ⟨x17, ex17, h⟩ := rx_let_o h
      refine ev_nm ex17 ?_
      refine ev_istore (ls' := [some (.ref 14), some (.ref 1), none, some (.int x9), some (.int x17), some (.int x11)]) 27 dX9_numberKind_25 (Nat.le_of_ble_eq_true rfl) rfl rfl ?_
      obtain ⟨x18, ex18, h⟩ := rx_let_o h
      refine ev_iinc (v := x18) (ls' := [some (.ref 14), some (.ref 1), none, some (.int x9), some (.int x17), some (.int x18)]) 30 dX9_numberKind_27 rfl (by rw [ex18]; rfl) (Nat.le_of_ble_eq_true rfl) rfl rfl ?_
      refine ev_goto 6 dX9_numberKind_30 rfl ?_
      exact (ih _ _ _ _ h).fewer (rx_le_s (rx_le_s (rx_le_n (rx_le_s (rx_le_s (rx_le_s rx_le_0))))))

set_option maxHeartbeats 4000000 in
set_option maxRecDepth 20000 in
theorem em_X9_numberKind {d N : Nat} {x2 : Int32} {x3 : Int32} {S0 : rx_S} {zr : Int32} {zS : rx_S} (h : f_X9_numberKind N x2 x3 S0 = some (zr, zS)) : EM gC d mX9_numberKind [.ref 14, .ref 1, .int x2, .int x3] S0 (rx_pi zr zS) := by
  unfold f_X9_numberKind at h
  show EV gC d mX9_numberKind 0 [some (.ref 14), some (.ref 1), some (.int x2), some (.int x3), none, none] [] S0 (rx_pi zr zS)
  refine ev_iconst (v := 0) 1 dX9_numberKind_0 (by decide) rfl ?_
  refine ev_istore (ls' := [some (.ref 14), some (.ref 1), some (.int x2), some (.int x3), some (.int 0), none]) 3 dX9_numberKind_1 (Nat.le_of_ble_eq_true rfl) rfl rfl ?_
  refine ev_iload_n (i := 2) 4 dX9_numberKind_3 rfl rfl rfl ?_
  refine ev_istore (ls' := [some (.ref 14), some (.ref 1), some (.int x2), some (.int x3), some (.int 0), some (.int x2)]) 6 dX9_numberKind_4 (Nat.le_of_ble_eq_true rfl) rfl rfl ?_
  obtain ⟨J33_1, eJ33_1, h⟩ := rx_let_o h
  have hJ33_1 : ∀ (x5 : Int32) (S6 : rx_S), J33_1 x5 S6 = some (zr, zS) → EV gC d mX9_numberKind 33 [some (.ref 14), some (.ref 1), none, none, some (.int x5), none] [] S6 (rx_pi zr zS) := by
    intro x5 S6 h
    subst eJ33_1
    refine ev_aload_n (i := 0) 34 dX9_numberKind_33 rfl rfl rfl ?_
    refine ev_get (v := .ref 18) 37 dX9_numberKind_34 dk_14 fl_9_22 (by decide) rfl rfl rfl ?_
    refine ev_aload_n (i := 0) 38 dX9_numberKind_37 rfl rfl rfl ?_
    refine ev_get (v := .int (S6.1 14 4)) 41 dX9_numberKind_38 dk_14 fl_9_49 (by decide) rfl rfl rfl ?_
    refine ev_iload 43 dX9_numberKind_41 rfl rfl ?_
    refine ev_i2l 44 dX9_numberKind_43 rfl ?_
    obtain ⟨g7, h⟩ := rx_gd_o h
    obtain ⟨S8, eS8, h⟩ := rx_let_o h
    refine ex_last _ 45 dX9_numberKind_44 dk_18 g7 rfl rfl eS8 ?_
    refine ev_iconst (v := 3) 46 dX9_numberKind_45 (by decide) rfl ?_
    exact ev_ireturn dX9_numberKind_46 rfl (rx_ret_i h)
  exact (em_X9_numberKind_L6 hJ33_1 _ _ _ _ _ h).fewer (rx_le_s (rx_le_s (rx_le_n (rx_le_s (rx_le_s (rx_le_s rx_le_0))))))

def f_X9_kindOf (N : Nat) (x2 : Int32) (x3 : Int32) (S0 : rx_S) : Option (Int32 × rx_S) := if x2 < x3 then (rx_gd x2 2000 (rx_bd (f_X9_isLetter (S0.1 1 (Int32.toNatClampNeg x2)) S0) (fun x8 S7 => if x8 = 0 then (rx_gd x2 2000 (rx_bd (f_X9_isDigit (S7.1 1 (Int32.toNatClampNeg x2)) S7) (fun x13 S12 => if x13 = 0 then (rx_gd x2 2000 (rx_let (rx_i2c ((S12.1 1 (Int32.toNatClampNeg x2)) &&& 255)) (fun x17 => if (rx_ixs x17) < 0 then (some (1, S12)) else (some (x17, S12))))) else (if (x3 - x2) ≤ 4 then (rx_bd (f_X9_numberKind N x2 x3 S12) (fun x21 S20 => some (x21, S20))) else (some (1, S12)))))) else (if (x3 - x2) ≤ 8 then (rx_bd (f_X9_wordKind N x2 x3 S7) (fun x25 S24 => some (x25, S24))) else (some (1, S7)))))) else (some (0, S0))
set_option maxHeartbeats 4000000 in
set_option maxRecDepth 20000 in
theorem em_X9_kindOf {d N : Nat} {x2 : Int32} {x3 : Int32} {S0 : rx_S} {zr : Int32} {zS : rx_S} (h : f_X9_kindOf N x2 x3 S0 = some (zr, zS)) : EM gC (d + 4) mX9_kindOf [.ref 14, .ref 1, .int x2, .int x3] S0 (rx_pi zr zS) := by
  unfold f_X9_kindOf at h
  show EV gC (d + 4) mX9_kindOf 0 [some (.ref 14), some (.ref 1), some (.int x2), some (.int x3), none] [] S0 (rx_pi zr zS)
  refine ev_iload_n (i := 2) 1 dX9_kindOf_0 rfl rfl rfl ?_
  refine ev_iload_n (i := 3) 2 dX9_kindOf_1 rfl rfl rfl ?_
  refine ev_icmp_lt 7 5 dX9_kindOf_2 rfl rfl (fun c5 => ?_) (fun c5 => ?_)
  · replace h := rx_if_t c5 h
    refine ev_aload_n (i := 1) 8 dX9_kindOf_7 rfl rfl rfl ?_
    refine ev_iload_n (i := 2) 9 dX9_kindOf_8 rfl rfl rfl ?_
    obtain ⟨g6, h⟩ := rx_gd_o h
    refine ex_bald _ 10 dX9_kindOf_9 dk_1 g6 rfl rfl ?_
    obtain ⟨x8, S7, g9, h⟩ := rx_bd_o h
    refine ev_cSi1 13 dX9_kindOf_10 (em_X9_isLetter g9) mm_X9_isLetter ms_X9_isLetter lk_9_67 (Nat.le_of_ble_eq_true rfl) (Nat.le_of_ble_eq_true rfl) rfl ?_
    refine ev_if_eq 36 16 dX9_kindOf_13 rfl rfl (fun c10 => ?_) (fun c10 => ?_)
    · replace h := rx_if_t c10 h
      refine ev_aload_n (i := 1) 37 dX9_kindOf_36 rfl rfl rfl ?_
      refine ev_iload_n (i := 2) 38 dX9_kindOf_37 rfl rfl rfl ?_
      obtain ⟨g11, h⟩ := rx_gd_o h
      refine ex_bald _ 39 dX9_kindOf_38 dk_1 g11 rfl rfl ?_
      obtain ⟨x13, S12, g14, h⟩ := rx_bd_o h
      refine ev_cSi1 42 dX9_kindOf_39 (em_X9_isDigit g14) mm_X9_isDigit ms_X9_isDigit lk_9_70 (Nat.le_of_ble_eq_true rfl) (Nat.le_of_ble_eq_true rfl) rfl ?_
      refine ev_if_eq 64 45 dX9_kindOf_42 rfl rfl (fun c15 => ?_) (fun c15 => ?_)
      · replace h := rx_if_t c15 h
        refine ev_aload_n (i := 1) 65 dX9_kindOf_64 rfl rfl rfl ?_
        refine ev_iload_n (i := 2) 66 dX9_kindOf_65 rfl rfl rfl ?_
        obtain ⟨g16, h⟩ := rx_gd_o h
        refine ex_bald _ 67 dX9_kindOf_66 dk_1 g16 rfl rfl ?_
        refine ev_sipush (v := 255) 70 dX9_kindOf_67 (by decide) rfl ?_
        refine ev_iand 71 dX9_kindOf_70 rfl ?_
        refine ev_toc 72 dX9_kindOf_71 rfl ?_
        obtain ⟨x17, ex17, h⟩ := rx_let_o h
        refine ev_nm ex17 ?_
        refine ev_istore (ls' := [some (.ref 14), some (.ref 1), some (.int x2), some (.int x3), some (.int x17)]) 74 dX9_kindOf_72 (Nat.le_of_ble_eq_true rfl) rfl rfl ?_
        refine ev_ldcs1 76 dX9_kindOf_74 rfl rfl ?_
        refine ev_iload 78 dX9_kindOf_76 rfl rfl ?_
        refine ev_cT1 1 81 (by decide) dX9_kindOf_78 em_indexOf mm_J0_indexOf_0f7a4 mv_J0_indexOf_0f7a4 lk_9_81 rfl (Nat.le_of_ble_eq_true rfl) (Nat.le_of_ble_eq_true rfl) rfl ?_
        refine ev_if_lt 89 84 dX9_kindOf_81 rfl rfl (fun c18 => ?_) (fun c18 => ?_)
        · replace h := rx_if_t c18 h
          refine ev_iconst (v := 1) 90 dX9_kindOf_89 (by decide) rfl ?_
          exact ev_ireturn dX9_kindOf_90 rfl (rx_ret_i h)
        · replace h := rx_if_f c18 h
          refine ev_iload 86 dX9_kindOf_84 rfl rfl ?_
          refine ev_goto 90 dX9_kindOf_86 rfl ?_
          exact ev_ireturn dX9_kindOf_90 rfl (rx_ret_i h)
      · replace h := rx_if_f c15 h
        refine ev_iload_n (i := 3) 46 dX9_kindOf_45 rfl rfl rfl ?_
        refine ev_iload_n (i := 2) 47 dX9_kindOf_46 rfl rfl rfl ?_
        refine ev_isub 48 dX9_kindOf_47 rfl ?_
        refine ev_iconst (v := 4) 49 dX9_kindOf_48 (by decide) rfl ?_
        refine ev_icmp_le 56 52 dX9_kindOf_49 rfl rfl (fun c19 => ?_) (fun c19 => ?_)
        · replace h := rx_if_t c19 h
          refine ev_aload_n (i := 0) 57 dX9_kindOf_56 rfl rfl rfl ?_
          refine ev_aload_n (i := 1) 58 dX9_kindOf_57 rfl rfl rfl ?_
          refine ev_iload_n (i := 2) 59 dX9_kindOf_58 rfl rfl rfl ?_
          refine ev_iload_n (i := 3) 60 dX9_kindOf_59 rfl rfl rfl ?_
          obtain ⟨x21, S20, g22, h⟩ := rx_bd_o h
          refine ev_cVi3 63 dX9_kindOf_60 (em_X9_numberKind g22) mm_X9_numberKind mv_X9_numberKind lk_9_76 dk_14 (by decide) rfl (Nat.le_of_ble_eq_true rfl) (Nat.le_of_ble_eq_true rfl) rfl ?_
          exact ev_ireturn dX9_kindOf_63 rfl (rx_ret_i h)
        · replace h := rx_if_f c19 h
          refine ev_iconst (v := 1) 53 dX9_kindOf_52 (by decide) rfl ?_
          refine ev_goto 63 dX9_kindOf_53 rfl ?_
          exact ev_ireturn dX9_kindOf_63 rfl (rx_ret_i h)
    · replace h := rx_if_f c10 h
      refine ev_iload_n (i := 3) 17 dX9_kindOf_16 rfl rfl rfl ?_
      refine ev_iload_n (i := 2) 18 dX9_kindOf_17 rfl rfl rfl ?_
      refine ev_isub 19 dX9_kindOf_18 rfl ?_
      refine ev_bipush (v := 8) 21 dX9_kindOf_19 (by decide) rfl ?_
      refine ev_icmp_le 28 24 dX9_kindOf_21 rfl rfl (fun c23 => ?_) (fun c23 => ?_)
      · replace h := rx_if_t c23 h
        refine ev_aload_n (i := 0) 29 dX9_kindOf_28 rfl rfl rfl ?_
        refine ev_aload_n (i := 1) 30 dX9_kindOf_29 rfl rfl rfl ?_
        refine ev_iload_n (i := 2) 31 dX9_kindOf_30 rfl rfl rfl ?_
        refine ev_iload_n (i := 3) 32 dX9_kindOf_31 rfl rfl rfl ?_
        obtain ⟨x25, S24, g26, h⟩ := rx_bd_o h
        refine ev_cVi3 35 dX9_kindOf_32 (em_X9_wordKind g26) mm_X9_wordKind mv_X9_wordKind lk_9_73 dk_14 (by decide) rfl (Nat.le_of_ble_eq_true rfl) (Nat.le_of_ble_eq_true rfl) rfl ?_
        exact ev_ireturn dX9_kindOf_35 rfl (rx_ret_i h)
      · replace h := rx_if_f c23 h
        refine ev_iconst (v := 1) 25 dX9_kindOf_24 (by decide) rfl ?_
        refine ev_goto 35 dX9_kindOf_25 rfl ?_
        exact ev_ireturn dX9_kindOf_35 rfl (rx_ret_i h)
  · replace h := rx_if_f c5 h
    refine ev_iconst (v := 0) 6 dX9_kindOf_5 (by decide) rfl ?_
    exact ev_ireturn dX9_kindOf_6 rfl (rx_ret_i h)

def f_X9_cut_L18 (N : Nat) : Nat → Int32 → Int32 → Int32 → Int32 → rx_S → Option (Unit × rx_S)
  | 0, _, _, _, _, _ => none
  | n + 1, x6, x7, x8, x9, S10 => if x9 = 0 then (some ((), S10)) else (if (400 : Int32) < (S10.1 14 4) then (some ((), S10)) else (rx_bd (f_X9_blanksEnd N x8 x7 S10) (fun x14 S13 => rx_bd (f_X9_tokenEnd N x14 x7 S13) (fun x17 S16 => rx_let (fun (x19 : Int32) (x20 : Int32) (x21 : Int32) (x22 : Int32) (x23 : Int32) (x24 : Int32) (S25 : rx_S) => rx_gd x23 401 (rx_let (rx_ui S25 17 (Int32.toNatClampNeg x23) x24) (fun S27 => rx_gd (S27.1 14 4) 401 (rx_let (rx_uj S27 18 (Int32.toNatClampNeg (S27.1 14 4)) (0 : Int64)) (fun S29 => rx_bd (f_X9_kindOf N x21 x22 S29) (fun x31 S30 => rx_gd (S29.1 14 4) 401 (rx_let (rx_ui S30 16 (Int32.toNatClampNeg (S29.1 14 4)) x31) (fun S34 => rx_gd (S34.1 14 4) 401 (rx_let (fun (x36 : Int32) (x37 : Int32) (x38 : Int32) (x39 : Int32) (S40 : rx_S) => rx_let (rx_ui S40 14 4 ((S40.1 14 4) + 1)) (fun S41 => f_X9_cut_L18 N n x36 x37 x38 x39 S41)) (fun J130_2 => rx_let (fun (x42 : Int32) (x43 : Int32) (x44 : Int32) (S45 : rx_S) => J130_2 x42 x43 x44 0 S45) (fun J129_3 => if (S34.1 16 (Int32.toNatClampNeg (S34.1 14 4))) = 0 then (J129_3 x19 x20 x22 S34) else (rx_gd (S34.1 14 4) 401 (if (S34.1 16 (Int32.toNatClampNeg (S34.1 14 4))) = 1 then (J129_3 x19 x20 x22 S34) else (J130_2 x19 x20 x22 1 S34)))))))))))))) (fun J71_1 => if x7 ≤ x14 then (J71_1 x6 x7 x14 x17 (S16.1 14 4) x6 S16) else (J71_1 x6 x7 x14 x17 (S16.1 14 4) x14 S16))))))
def f_X9_cut (N : Nat) (x2 : Int32) (S0 : rx_S) : Option (Unit × rx_S) := rx_let (if (2000 : Int32) < x2 then 2000 else x2) (fun x4 => rx_let (rx_ui S0 14 4 0) (fun S5 => f_X9_cut_L18 N N x2 x4 0 1 S5))
set_option maxHeartbeats 4000000 in
set_option maxRecDepth 20000 in
theorem em_X9_cut_L18 {d N : Nat} {zr : Unit} {zS : rx_S} : ∀ (n : Nat) (x6 : Int32) (x7 : Int32) (x8 : Int32) (x9 : Int32) (S10 : rx_S), f_X9_cut_L18 N n x6 x7 x8 x9 S10 = some (zr, zS) → EV gC (d + 5) mX9_cut 18 [some (.ref 14), some (.ref 1), some (.int x6), some (.int x7), some (.int x8), some (.int x9), none] [] S10 (rx_pv zS) := by
  intro n
  induction n with
  | zero => intro x6 x7 x8 x9 S10 h; cases h
  | succ n ih =>
    intro x6 x7 x8 x9 S10 h
    rw [f_X9_cut_L18] at h
    refine ev_iload 20 dX9_cut_18 rfl rfl ?_
    refine ev_if_eq 149 23 dX9_cut_20 rfl rfl (fun c11 => ?_) (fun c11 => ?_)
    · replace h := rx_if_t c11 h
      exact ev_return dX9_cut_149 rfl (rx_ret_v h)
    · replace h := rx_if_f c11 h
      refine ev_aload_n (i := 0) 24 dX9_cut_23 rfl rfl rfl ?_
      refine ev_get (v := .int (S10.1 14 4)) 27 dX9_cut_24 dk_14 fl_9_49 (by decide) rfl rfl rfl ?_
      refine ev_sipush (v := 400) 30 dX9_cut_27 (by decide) rfl ?_
      refine ev_icmp_gt 149 33 dX9_cut_30 rfl rfl (fun c12 => ?_) (fun c12 => ?_)
      · replace h := rx_if_t c12 h
        exact ev_return dX9_cut_149 rfl (rx_ret_v h)
      · replace h := rx_if_f c12 h
        refine ev_aload_n (i := 1) 34 dX9_cut_33 rfl rfl rfl ?_
        refine ev_iload 36 dX9_cut_34 rfl rfl ?_
        refine ev_iload_n (i := 3) 37 dX9_cut_36 rfl rfl rfl ?_
        obtain ⟨x14, S13, g15, h⟩ := rx_bd_o h
        refine ev_cSi3 40 dX9_cut_37 (em_X9_blanksEnd g15) mm_X9_blanksEnd ms_X9_blanksEnd lk_9_53 (Nat.le_of_ble_eq_true rfl) (Nat.le_of_ble_eq_true rfl) rfl ?_
        refine ev_istore (ls' := [some (.ref 14), some (.ref 1), some (.int x6), some (.int x7), some (.int x14), some (.int x9), none]) 42 dX9_cut_40 (Nat.le_of_ble_eq_true rfl) rfl rfl ?_
        refine ev_aload_n (i := 1) 43 dX9_cut_42 rfl rfl rfl ?_
        refine ev_iload 45 dX9_cut_43 rfl rfl ?_
        refine ev_iload_n (i := 3) 46 dX9_cut_45 rfl rfl rfl ?_
        obtain ⟨x17, S16, g18, h⟩ := rx_bd_o h
        refine ev_cSi3 49 dX9_cut_46 (em_X9_tokenEnd g18) mm_X9_tokenEnd ms_X9_tokenEnd lk_9_57 (Nat.le_of_ble_eq_true rfl) (Nat.le_of_ble_eq_true rfl) rfl ?_
        refine ev_istore (ls' := [some (.ref 14), some (.ref 1), some (.int x6), some (.int x7), some (.int x14), some (.int x9), some (.int x17)]) 51 dX9_cut_49 (Nat.le_of_ble_eq_true rfl) rfl rfl ?_
        refine ev_aload_n (i := 0) 52 dX9_cut_51 rfl rfl rfl ?_
        refine ev_get (v := .ref 17) 55 dX9_cut_52 dk_14 fl_9_19 (by decide) rfl rfl rfl ?_
        refine ev_aload_n (i := 0) 56 dX9_cut_55 rfl rfl rfl ?_
        refine ev_get (v := .int (S16.1 14 4)) 59 dX9_cut_56 dk_14 fl_9_49 (by decide) rfl rfl rfl ?_
        refine ev_iload 61 dX9_cut_59 rfl rfl ?_
        refine ev_iload_n (i := 3) 62 dX9_cut_61 rfl rfl rfl ?_
        obtain ⟨J71_1, eJ71_1, h⟩ := rx_let_o h
        have hJ71_1 : ∀ (x19 : Int32) (x20 : Int32) (x21 : Int32) (x22 : Int32) (x23 : Int32) (x24 : Int32) (S25 : rx_S), J71_1 x19 x20 x21 x22 x23 x24 S25 = some (zr, zS) → EV gC (d + 5) mX9_cut 71 [some (.ref 14), some (.ref 1), some (.int x19), some (.int x20), some (.int x21), none, some (.int x22)] [.int x24, .int x23, .ref 17] S25 (rx_pv zS) := by
          intro x19 x20 x21 x22 x23 x24 S25 h
          subst eJ71_1
          obtain ⟨g26, h⟩ := rx_gd_o h
          obtain ⟨S27, eS27, h⟩ := rx_let_o h
          refine ex_iast _ 72 dX9_cut_71 dk_17 g26 rfl rfl eS27 ?_
          refine ev_aload_n (i := 0) 73 dX9_cut_72 rfl rfl rfl ?_
          refine ev_get (v := .ref 18) 76 dX9_cut_73 dk_14 fl_9_22 (by decide) rfl rfl rfl ?_
          refine ev_aload_n (i := 0) 77 dX9_cut_76 rfl rfl rfl ?_
          refine ev_get (v := .int (S27.1 14 4)) 80 dX9_cut_77 dk_14 fl_9_49 (by decide) rfl rfl rfl ?_
          refine ev_lconst (v := 0) 81 dX9_cut_80 (by decide) rfl ?_
          obtain ⟨g28, h⟩ := rx_gd_o h
          obtain ⟨S29, eS29, h⟩ := rx_let_o h
          refine ex_last _ 82 dX9_cut_81 dk_18 g28 rfl rfl eS29 ?_
          refine ev_aload_n (i := 0) 83 dX9_cut_82 rfl rfl rfl ?_
          refine ev_get (v := .ref 16) 86 dX9_cut_83 dk_14 fl_9_15 (by decide) rfl rfl rfl ?_
          refine ev_aload_n (i := 0) 87 dX9_cut_86 rfl rfl rfl ?_
          refine ev_get (v := .int (S29.1 14 4)) 90 dX9_cut_87 dk_14 fl_9_49 (by decide) rfl rfl rfl ?_
          refine ev_aload_n (i := 0) 91 dX9_cut_90 rfl rfl rfl ?_
          refine ev_aload_n (i := 1) 92 dX9_cut_91 rfl rfl rfl ?_
          refine ev_iload 94 dX9_cut_92 rfl rfl ?_
          refine ev_iload 96 dX9_cut_94 rfl rfl ?_
          obtain ⟨x31, S30, g32, h⟩ := rx_bd_o h
          refine ev_cVi3 99 dX9_cut_96 (em_X9_kindOf g32) mm_X9_kindOf mv_X9_kindOf lk_9_60 dk_14 (by decide) rfl (Nat.le_of_ble_eq_true rfl) (Nat.le_of_ble_eq_true rfl) rfl ?_
          obtain ⟨g33, h⟩ := rx_gd_o h
          obtain ⟨S34, eS34, h⟩ := rx_let_o h
          refine ex_iast _ 100 dX9_cut_99 dk_16 g33 rfl rfl eS34 ?_
          refine ev_aload_n (i := 0) 101 dX9_cut_100 rfl rfl rfl ?_
          refine ev_get (v := .ref 16) 104 dX9_cut_101 dk_14 fl_9_15 (by decide) rfl rfl rfl ?_
          refine ev_aload_n (i := 0) 105 dX9_cut_104 rfl rfl rfl ?_
          refine ev_get (v := .int (S34.1 14 4)) 108 dX9_cut_105 dk_14 fl_9_49 (by decide) rfl rfl rfl ?_
          obtain ⟨g35, h⟩ := rx_gd_o h
          refine ex_iald _ 109 dX9_cut_108 dk_16 g35 rfl rfl ?_
          obtain ⟨J130_2, eJ130_2, h⟩ := rx_let_o h
          have hJ130_2 : ∀ (x36 : Int32) (x37 : Int32) (x38 : Int32) (x39 : Int32) (S40 : rx_S), J130_2 x36 x37 x38 x39 S40 = some (zr, zS) → EV gC (d + 5) mX9_cut 130 [some (.ref 14), some (.ref 1), some (.int x36), some (.int x37), none, none, some (.int x38)] [.int x39] S40 (rx_pv zS) := by
            intro x36 x37 x38 x39 S40 h
            subst eJ130_2
            refine ev_istore (ls' := [some (.ref 14), some (.ref 1), some (.int x36), some (.int x37), none, some (.int x39), some (.int x38)]) 132 dX9_cut_130 (Nat.le_of_ble_eq_true rfl) rfl rfl ?_
            refine ev_iload 134 dX9_cut_132 rfl rfl ?_
            refine ev_istore (ls' := [some (.ref 14), some (.ref 1), some (.int x36), some (.int x37), some (.int x38), some (.int x39), some (.int x38)]) 136 dX9_cut_134 (Nat.le_of_ble_eq_true rfl) rfl rfl ?_
            refine ev_aload_n (i := 0) 137 dX9_cut_136 rfl rfl rfl ?_
            refine ev_dup 138 dX9_cut_137 rfl rfl ?_
            refine ev_get (v := .int (S40.1 14 4)) 141 dX9_cut_138 dk_14 fl_9_49 (by decide) rfl rfl rfl ?_
            refine ev_iconst (v := 1) 142 dX9_cut_141 (by decide) rfl ?_
            refine ev_iadd 143 dX9_cut_142 rfl ?_
            obtain ⟨S41, eS41, h⟩ := rx_let_o h
            refine ex_put 146 dX9_cut_143 dk_14 fl_9_49 pp_9_4 (by decide) rfl rfl rfl rfl eS41 ?_
            refine ev_goto 18 dX9_cut_146 rfl ?_
            exact (ih _ _ _ _ _ h).fewer (rx_le_s (rx_le_s (rx_le_s (rx_le_s (rx_le_s (rx_le_s (rx_le_n rx_le_0)))))))
          obtain ⟨J129_3, eJ129_3, h⟩ := rx_let_o h
          have hJ129_3 : ∀ (x42 : Int32) (x43 : Int32) (x44 : Int32) (S45 : rx_S), J129_3 x42 x43 x44 S45 = some (zr, zS) → EV gC (d + 5) mX9_cut 129 [some (.ref 14), some (.ref 1), some (.int x42), some (.int x43), none, none, some (.int x44)] [] S45 (rx_pv zS) := by
            intro x42 x43 x44 S45 h
            subst eJ129_3
            refine ev_iconst (v := 0) 130 dX9_cut_129 (by decide) rfl ?_
            exact (hJ130_2 _ _ _ _ _ h).fewer (rx_le_s (rx_le_s (rx_le_s (rx_le_s (rx_le_n (rx_le_n (rx_le_s rx_le_0)))))))
          refine ev_if_eq 129 112 dX9_cut_109 rfl rfl (fun c46 => ?_) (fun c46 => ?_)
          · replace h := rx_if_t c46 h
            exact (hJ129_3 _ _ _ _ h).fewer (rx_le_s (rx_le_s (rx_le_s (rx_le_s (rx_le_n (rx_le_n (rx_le_s rx_le_0)))))))
          · replace h := rx_if_f c46 h
            refine ev_aload_n (i := 0) 113 dX9_cut_112 rfl rfl rfl ?_
            refine ev_get (v := .ref 16) 116 dX9_cut_113 dk_14 fl_9_15 (by decide) rfl rfl rfl ?_
            refine ev_aload_n (i := 0) 117 dX9_cut_116 rfl rfl rfl ?_
            refine ev_get (v := .int (S34.1 14 4)) 120 dX9_cut_117 dk_14 fl_9_49 (by decide) rfl rfl rfl ?_
            obtain ⟨g47, h⟩ := rx_gd_o h
            refine ex_iald _ 121 dX9_cut_120 dk_16 g47 rfl rfl ?_
            refine ev_iconst (v := 1) 122 dX9_cut_121 (by decide) rfl ?_
            refine ev_icmp_eq 129 125 dX9_cut_122 rfl rfl (fun c48 => ?_) (fun c48 => ?_)
            · replace h := rx_if_t c48 h
              exact (hJ129_3 _ _ _ _ h).fewer (rx_le_s (rx_le_s (rx_le_s (rx_le_s (rx_le_n (rx_le_n (rx_le_s rx_le_0)))))))
            · replace h := rx_if_f c48 h
              refine ev_iconst (v := 1) 126 dX9_cut_125 (by decide) rfl ?_
              refine ev_goto 130 dX9_cut_126 rfl ?_
              exact (hJ130_2 _ _ _ _ _ h).fewer (rx_le_s (rx_le_s (rx_le_s (rx_le_s (rx_le_n (rx_le_n (rx_le_s rx_le_0)))))))
        refine ev_icmp_ge 70 65 dX9_cut_62 rfl rfl (fun c49 => ?_) (fun c49 => ?_)
        · replace h := rx_if_t c49 h
          refine ev_iload_n (i := 2) 71 dX9_cut_70 rfl rfl rfl ?_
          exact (hJ71_1 _ _ _ _ _ _ _ h).fewer (rx_le_s (rx_le_s (rx_le_s (rx_le_s (rx_le_s (rx_le_n (rx_le_s rx_le_0)))))))
        · replace h := rx_if_f c49 h
          refine ev_iload 67 dX9_cut_65 rfl rfl ?_
          refine ev_goto 71 dX9_cut_67 rfl ?_
          exact (hJ71_1 _ _ _ _ _ _ _ h).fewer (rx_le_s (rx_le_s (rx_le_s (rx_le_s (rx_le_s (rx_le_n (rx_le_s rx_le_0)))))))

set_option maxHeartbeats 4000000 in
set_option maxRecDepth 20000 in
theorem em_X9_cut {d N : Nat} {x2 : Int32} {S0 : rx_S} {zr : Unit} {zS : rx_S} (h : f_X9_cut N x2 S0 = some (zr, zS)) : EM gC (d + 5) mX9_cut [.ref 14, .ref 1, .int x2] S0 (rx_pv zS) := by
  unfold f_X9_cut at h
  show EV gC (d + 5) mX9_cut 0 [some (.ref 14), some (.ref 1), some (.int x2), none, none, none, none] [] S0 (rx_pv zS)
  refine ev_iload_n (i := 2) 1 dX9_cut_0 rfl rfl rfl ?_
  refine ev_aload_n (i := 1) 2 dX9_cut_1 rfl rfl rfl ?_
  refine ev_alen (v := 2000) 3 dX9_cut_2 dk_1 (by decide) (by decide) rfl ?_
  refine ev_min 6 dX9_cut_3 lk_9_43 w_min (Nat.le_of_ble_eq_true rfl) rfl ?_
  obtain ⟨x4, ex4, h⟩ := rx_let_o h
  refine ev_nm ex4 ?_
  refine ev_istore_n (ls' := [some (.ref 14), some (.ref 1), some (.int x2), some (.int x4), none, none, none]) 7 dX9_cut_6 rfl (Nat.le_of_ble_eq_true rfl) rfl rfl ?_
  refine ev_iconst (v := 0) 8 dX9_cut_7 (by decide) rfl ?_
  refine ev_istore (ls' := [some (.ref 14), some (.ref 1), some (.int x2), some (.int x4), some (.int 0), none, none]) 10 dX9_cut_8 (Nat.le_of_ble_eq_true rfl) rfl rfl ?_
  refine ev_iconst (v := 1) 11 dX9_cut_10 (by decide) rfl ?_
  refine ev_istore (ls' := [some (.ref 14), some (.ref 1), some (.int x2), some (.int x4), some (.int 0), some (.int 1), none]) 13 dX9_cut_11 (Nat.le_of_ble_eq_true rfl) rfl rfl ?_
  refine ev_aload_n (i := 0) 14 dX9_cut_13 rfl rfl rfl ?_
  refine ev_iconst (v := 0) 15 dX9_cut_14 (by decide) rfl ?_
  obtain ⟨S5, eS5, h⟩ := rx_let_o h
  refine ex_put 18 dX9_cut_15 dk_14 fl_9_49 pp_9_4 (by decide) rfl rfl rfl rfl eS5 ?_
  exact (em_X9_cut_L18 _ _ _ _ _ _ h).fewer (rx_le_s (rx_le_s (rx_le_s (rx_le_s (rx_le_s (rx_le_s (rx_le_n rx_le_0)))))))

def f_X8_clear (k : Nat) (N : Nat) (S0 : rx_S) : Option (Unit × rx_S) := rx_bd (f_X2_clear (k + 1) N S0) (fun x3 S2 => rx_let (rx_ui S2 k 6 0) (fun S5 => rx_let (rx_ui S5 k 7 0) (fun S6 => rx_let (rx_ui S6 k 8 0) (fun S7 => rx_let (rx_ui S7 k 9 10) (fun S8 => rx_let (rx_ui S8 k 10 0) (fun S9 => some ((), S9)))))))
set_option maxHeartbeats 4000000 in
set_option maxRecDepth 20000 in
theorem em_X8_clear_2 {d N : Nat} {S0 : rx_S} {zr : Unit} {zS : rx_S} (h : f_X8_clear 2 N S0 = some (zr, zS)) : EM gC (d + 2) mX8_clear [.ref 2] S0 (rx_pv zS) := by
  unfold f_X8_clear at h
  show EV gC (d + 2) mX8_clear 0 [some (.ref 2)] [] S0 (rx_pv zS)
  refine ev_aload_n (i := 0) 1 dX8_clear_0 rfl rfl rfl ?_
  refine ev_get (v := .ref 3) 4 dX8_clear_1 dk_2 fl_8_12 (by decide) rfl rfl rfl ?_
  obtain ⟨x3, S2, g4, h⟩ := rx_bd_o h
  refine ev_cVv0 7 dX8_clear_4 (em_X2_clear_3 g4) mm_X2_clear mv_X2_clear lk_8_34 dk_3 (by decide) rfl (Nat.le_of_ble_eq_true rfl) (Nat.le_of_ble_eq_true rfl) rfl ?_
  refine ev_aload_n (i := 0) 8 dX8_clear_7 rfl rfl rfl ?_
  refine ev_iconst (v := 0) 9 dX8_clear_8 (by decide) rfl ?_
  obtain ⟨S5, eS5, h⟩ := rx_let_o h
  refine ex_put 12 dX8_clear_9 dk_2 fl_8_37 pp_8_6 (by decide) rfl rfl rfl rfl eS5 ?_
  refine ev_aload_n (i := 0) 13 dX8_clear_12 rfl rfl rfl ?_
  refine ev_iconst (v := 0) 14 dX8_clear_13 (by decide) rfl ?_
  obtain ⟨S6, eS6, h⟩ := rx_let_o h
  refine ex_put 17 dX8_clear_14 dk_2 fl_8_41 pp_8_7 (by decide) rfl rfl rfl rfl eS6 ?_
  refine ev_aload_n (i := 0) 18 dX8_clear_17 rfl rfl rfl ?_
  refine ev_iconst (v := 0) 19 dX8_clear_18 (by decide) rfl ?_
  obtain ⟨S7, eS7, h⟩ := rx_let_o h
  refine ex_put 22 dX8_clear_19 dk_2 fl_8_44 pp_8_8 (by decide) rfl rfl rfl rfl eS7 ?_
  refine ev_aload_n (i := 0) 23 dX8_clear_22 rfl rfl rfl ?_
  refine ev_bipush (v := 10) 25 dX8_clear_23 (by decide) rfl ?_
  obtain ⟨S8, eS8, h⟩ := rx_let_o h
  refine ex_put 28 dX8_clear_25 dk_2 fl_8_47 pp_8_9 (by decide) rfl rfl rfl rfl eS8 ?_
  refine ev_aload_n (i := 0) 29 dX8_clear_28 rfl rfl rfl ?_
  refine ev_iconst (v := 0) 30 dX8_clear_29 (by decide) rfl ?_
  obtain ⟨S9, eS9, h⟩ := rx_let_o h
  refine ex_put 33 dX8_clear_30 dk_2 fl_8_50 pp_8_10 (by decide) rfl rfl rfl rfl eS9 ?_
  exact ev_return dX8_clear_33 rfl (rx_ret_v h)

set_option maxHeartbeats 4000000 in
set_option maxRecDepth 20000 in
theorem em_X8_clear_19 {d N : Nat} {S0 : rx_S} {zr : Unit} {zS : rx_S} (h : f_X8_clear 19 N S0 = some (zr, zS)) : EM gC (d + 2) mX8_clear [.ref 19] S0 (rx_pv zS) := by
  unfold f_X8_clear at h
  show EV gC (d + 2) mX8_clear 0 [some (.ref 19)] [] S0 (rx_pv zS)
  refine ev_aload_n (i := 0) 1 dX8_clear_0 rfl rfl rfl ?_
  refine ev_get (v := .ref 20) 4 dX8_clear_1 dk_19 fl_8_12 (by decide) rfl rfl rfl ?_
  obtain ⟨x3, S2, g4, h⟩ := rx_bd_o h
  refine ev_cVv0 7 dX8_clear_4 (em_X2_clear_20 g4) mm_X2_clear mv_X2_clear lk_8_34 dk_20 (by decide) rfl (Nat.le_of_ble_eq_true rfl) (Nat.le_of_ble_eq_true rfl) rfl ?_
  refine ev_aload_n (i := 0) 8 dX8_clear_7 rfl rfl rfl ?_
  refine ev_iconst (v := 0) 9 dX8_clear_8 (by decide) rfl ?_
  obtain ⟨S5, eS5, h⟩ := rx_let_o h
  refine ex_put 12 dX8_clear_9 dk_19 fl_8_37 pp_8_6 (by decide) rfl rfl rfl rfl eS5 ?_
  refine ev_aload_n (i := 0) 13 dX8_clear_12 rfl rfl rfl ?_
  refine ev_iconst (v := 0) 14 dX8_clear_13 (by decide) rfl ?_
  obtain ⟨S6, eS6, h⟩ := rx_let_o h
  refine ex_put 17 dX8_clear_14 dk_19 fl_8_41 pp_8_7 (by decide) rfl rfl rfl rfl eS6 ?_
  refine ev_aload_n (i := 0) 18 dX8_clear_17 rfl rfl rfl ?_
  refine ev_iconst (v := 0) 19 dX8_clear_18 (by decide) rfl ?_
  obtain ⟨S7, eS7, h⟩ := rx_let_o h
  refine ex_put 22 dX8_clear_19 dk_19 fl_8_44 pp_8_8 (by decide) rfl rfl rfl rfl eS7 ?_
  refine ev_aload_n (i := 0) 23 dX8_clear_22 rfl rfl rfl ?_
  refine ev_bipush (v := 10) 25 dX8_clear_23 (by decide) rfl ?_
  obtain ⟨S8, eS8, h⟩ := rx_let_o h
  refine ex_put 28 dX8_clear_25 dk_19 fl_8_47 pp_8_9 (by decide) rfl rfl rfl rfl eS8 ?_
  refine ev_aload_n (i := 0) 29 dX8_clear_28 rfl rfl rfl ?_
  refine ev_iconst (v := 0) 30 dX8_clear_29 (by decide) rfl ?_
  obtain ⟨S9, eS9, h⟩ := rx_let_o h
  refine ex_put 33 dX8_clear_30 dk_19 fl_8_50 pp_8_10 (by decide) rfl rfl rfl rfl eS9 ?_
  exact ev_return dX8_clear_33 rfl (rx_ret_v h)

def f_X9_kindAt (x1 : Int32) (S0 : rx_S) : Option (Int32 × rx_S) := if x1 < 0 then (some (1, S0)) else (if (S0.1 14 4) ≤ x1 then (some (1, S0)) else (rx_gd x1 401 (some ((S0.1 16 (Int32.toNatClampNeg x1)), S0))))
set_option maxHeartbeats 4000000 in
set_option maxRecDepth 20000 in
theorem em_X9_kindAt {d : Nat} {x1 : Int32} {S0 : rx_S} {zr : Int32} {zS : rx_S} (h : f_X9_kindAt x1 S0 = some (zr, zS)) : EM gC d mX9_kindAt [.ref 14, .int x1] S0 (rx_pi zr zS) := by
  unfold f_X9_kindAt at h
  show EV gC d mX9_kindAt 0 [some (.ref 14), some (.int x1)] [] S0 (rx_pi zr zS)
  refine ev_iload_n (i := 1) 1 dX9_kindAt_0 rfl rfl rfl ?_
  refine ev_if_lt 21 4 dX9_kindAt_1 rfl rfl (fun c3 => ?_) (fun c3 => ?_)
  · replace h := rx_if_t c3 h
    refine ev_iconst (v := 1) 22 dX9_kindAt_21 (by decide) rfl ?_
    exact ev_ireturn dX9_kindAt_22 rfl (rx_ret_i h)
  · replace h := rx_if_f c3 h
    refine ev_iload_n (i := 1) 5 dX9_kindAt_4 rfl rfl rfl ?_
    refine ev_aload_n (i := 0) 6 dX9_kindAt_5 rfl rfl rfl ?_
    refine ev_get (v := .int (S0.1 14 4)) 9 dX9_kindAt_6 dk_14 fl_9_49 (by decide) rfl rfl rfl ?_
    refine ev_icmp_ge 21 12 dX9_kindAt_9 rfl rfl (fun c4 => ?_) (fun c4 => ?_)
    · replace h := rx_if_t c4 h
      refine ev_iconst (v := 1) 22 dX9_kindAt_21 (by decide) rfl ?_
      exact ev_ireturn dX9_kindAt_22 rfl (rx_ret_i h)
    · replace h := rx_if_f c4 h
      refine ev_aload_n (i := 0) 13 dX9_kindAt_12 rfl rfl rfl ?_
      refine ev_get (v := .ref 16) 16 dX9_kindAt_13 dk_14 fl_9_15 (by decide) rfl rfl rfl ?_
      refine ev_iload_n (i := 1) 17 dX9_kindAt_16 rfl rfl rfl ?_
      obtain ⟨g5, h⟩ := rx_gd_o h
      refine ex_iald _ 18 dX9_kindAt_17 dk_16 g5 rfl rfl ?_
      refine ev_goto 22 dX9_kindAt_18 rfl ?_
      exact ev_ireturn dX9_kindAt_22 rfl (rx_ret_i h)

def f_X4_take (x1 : Int32) (S0 : rx_S) : Option (Int32 × rx_S) := rx_bd (f_X9_kindAt (S0.1 13 5) S0) (fun x4 S3 => if x4 = x1 then (if (S3.1 13 5) < 400 then (rx_let (rx_ui S3 13 5 ((S3.1 13 5) + 1)) (fun S8 => some (1, S8))) else (rx_let (rx_ui S3 13 6 2) (fun S9 => some (0, S9)))) else (rx_let (rx_ui S3 13 6 1) (fun S10 => some (0, S10))))
set_option maxHeartbeats 4000000 in
set_option maxRecDepth 20000 in
theorem em_X4_take {d : Nat} {x1 : Int32} {S0 : rx_S} {zr : Int32} {zS : rx_S} (h : f_X4_take x1 S0 = some (zr, zS)) : EM gC (d + 1) mX4_take [.ref 13, .int x1] S0 (rx_pi zr zS) := by
  unfold f_X4_take at h
  show EV gC (d + 1) mX4_take 0 [some (.ref 13), some (.int x1)] [] S0 (rx_pi zr zS)
  refine ev_aload_n (i := 0) 1 dX4_take_0 rfl rfl rfl ?_
  refine ev_get (v := .ref 14) 4 dX4_take_1 dk_13 fl_4_12 (by decide) rfl rfl rfl ?_
  refine ev_aload_n (i := 0) 5 dX4_take_4 rfl rfl rfl ?_
  refine ev_get (v := .int (S0.1 13 5)) 8 dX4_take_5 dk_13 fl_4_44 (by decide) rfl rfl rfl ?_
  obtain ⟨x4, S3, g5, h⟩ := rx_bd_o h
  refine ev_cVi1 11 dX4_take_8 (em_X9_kindAt g5) mm_X9_kindAt mv_X9_kindAt lk_4_56 dk_14 (by decide) rfl (Nat.le_of_ble_eq_true rfl) (Nat.le_of_ble_eq_true rfl) rfl ?_
  refine ev_iload_n (i := 1) 12 dX4_take_11 rfl rfl rfl ?_
  refine ev_icmp_eq 22 15 dX4_take_12 rfl rfl (fun c6 => ?_) (fun c6 => ?_)
  · replace h := rx_if_t c6 h
    refine ev_aload_n (i := 0) 23 dX4_take_22 rfl rfl rfl ?_
    refine ev_get (v := .int (S3.1 13 5)) 26 dX4_take_23 dk_13 fl_4_44 (by decide) rfl rfl rfl ?_
    refine ev_sipush (v := 400) 29 dX4_take_26 (by decide) rfl ?_
    refine ev_icmp_lt 39 32 dX4_take_29 rfl rfl (fun c7 => ?_) (fun c7 => ?_)
    · replace h := rx_if_t c7 h
      refine ev_aload_n (i := 0) 40 dX4_take_39 rfl rfl rfl ?_
      refine ev_dup 41 dX4_take_40 rfl rfl ?_
      refine ev_get (v := .int (S3.1 13 5)) 44 dX4_take_41 dk_13 fl_4_44 (by decide) rfl rfl rfl ?_
      refine ev_iconst (v := 1) 45 dX4_take_44 (by decide) rfl ?_
      refine ev_iadd 46 dX4_take_45 rfl ?_
      obtain ⟨S8, eS8, h⟩ := rx_let_o h
      refine ex_put 49 dX4_take_46 dk_13 fl_4_44 pp_4_5 (by decide) rfl rfl rfl rfl eS8 ?_
      refine ev_iconst (v := 1) 50 dX4_take_49 (by decide) rfl ?_
      exact ev_zreturn dX4_take_50 rfl (by decide) (rx_ret_i h)
    · replace h := rx_if_f c7 h
      refine ev_aload_n (i := 0) 33 dX4_take_32 rfl rfl rfl ?_
      refine ev_iconst (v := 2) 34 dX4_take_33 (by decide) rfl ?_
      obtain ⟨S9, eS9, h⟩ := rx_let_o h
      refine ex_put 37 dX4_take_34 dk_13 fl_4_47 pp_4_6 (by decide) rfl rfl rfl rfl eS9 ?_
      refine ev_iconst (v := 0) 38 dX4_take_37 (by decide) rfl ?_
      exact ev_zreturn dX4_take_38 rfl (by decide) (rx_ret_i h)
  · replace h := rx_if_f c6 h
    refine ev_aload_n (i := 0) 16 dX4_take_15 rfl rfl rfl ?_
    refine ev_iconst (v := 1) 17 dX4_take_16 (by decide) rfl ?_
    obtain ⟨S10, eS10, h⟩ := rx_let_o h
    refine ex_put 20 dX4_take_17 dk_13 fl_4_47 pp_4_6 (by decide) rfl rfl rfl rfl eS10 ?_
    refine ev_iconst (v := 0) 21 dX4_take_20 (by decide) rfl ?_
    exact ev_zreturn dX4_take_21 rfl (by decide) (rx_ret_i h)

def f_X4_refuse (x1 : Int32) (S0 : rx_S) : Option (Int32 × rx_S) := rx_let (rx_ui S0 13 6 x1) (fun S3 => some (0, S3))
set_option maxHeartbeats 4000000 in
set_option maxRecDepth 20000 in
theorem em_X4_refuse {d : Nat} {x1 : Int32} {S0 : rx_S} {zr : Int32} {zS : rx_S} (h : f_X4_refuse x1 S0 = some (zr, zS)) : EM gC d mX4_refuse [.ref 13, .int x1] S0 (rx_pi zr zS) := by
  unfold f_X4_refuse at h
  show EV gC d mX4_refuse 0 [some (.ref 13), some (.int x1)] [] S0 (rx_pi zr zS)
  refine ev_aload_n (i := 0) 1 dX4_refuse_0 rfl rfl rfl ?_
  refine ev_iload_n (i := 1) 2 dX4_refuse_1 rfl rfl rfl ?_
  obtain ⟨S3, eS3, h⟩ := rx_let_o h
  refine ex_put 5 dX4_refuse_2 dk_13 fl_4_47 pp_4_6 (by decide) rfl rfl rfl rfl eS3 ?_
  refine ev_iconst (v := 0) 6 dX4_refuse_5 (by decide) rfl ?_
  exact ev_zreturn dX4_refuse_6 rfl (by decide) (rx_ret_i h)

def f_X9_valueAt (x1 : Int32) (S0 : rx_S) : Option (Int64 × rx_S) := if x1 < 0 then (some ((0 : Int64), S0)) else (if (S0.1 14 4) ≤ x1 then (some ((0 : Int64), S0)) else (rx_gd x1 401 (some ((S0.2 18 (Int32.toNatClampNeg x1)), S0))))
set_option maxHeartbeats 4000000 in
set_option maxRecDepth 20000 in
theorem em_X9_valueAt {d : Nat} {x1 : Int32} {S0 : rx_S} {zr : Int64} {zS : rx_S} (h : f_X9_valueAt x1 S0 = some (zr, zS)) : EM gC d mX9_valueAt [.ref 14, .int x1] S0 (rx_pl zr zS) := by
  unfold f_X9_valueAt at h
  show EV gC d mX9_valueAt 0 [some (.ref 14), some (.int x1)] [] S0 (rx_pl zr zS)
  refine ev_iload_n (i := 1) 1 dX9_valueAt_0 rfl rfl rfl ?_
  refine ev_if_lt 21 4 dX9_valueAt_1 rfl rfl (fun c3 => ?_) (fun c3 => ?_)
  · replace h := rx_if_t c3 h
    refine ev_lconst (v := 0) 22 dX9_valueAt_21 (by decide) rfl ?_
    exact ev_lreturn dX9_valueAt_22 rfl (rx_ret_l h)
  · replace h := rx_if_f c3 h
    refine ev_iload_n (i := 1) 5 dX9_valueAt_4 rfl rfl rfl ?_
    refine ev_aload_n (i := 0) 6 dX9_valueAt_5 rfl rfl rfl ?_
    refine ev_get (v := .int (S0.1 14 4)) 9 dX9_valueAt_6 dk_14 fl_9_49 (by decide) rfl rfl rfl ?_
    refine ev_icmp_ge 21 12 dX9_valueAt_9 rfl rfl (fun c4 => ?_) (fun c4 => ?_)
    · replace h := rx_if_t c4 h
      refine ev_lconst (v := 0) 22 dX9_valueAt_21 (by decide) rfl ?_
      exact ev_lreturn dX9_valueAt_22 rfl (rx_ret_l h)
    · replace h := rx_if_f c4 h
      refine ev_aload_n (i := 0) 13 dX9_valueAt_12 rfl rfl rfl ?_
      refine ev_get (v := .ref 18) 16 dX9_valueAt_13 dk_14 fl_9_22 (by decide) rfl rfl rfl ?_
      refine ev_iload_n (i := 1) 17 dX9_valueAt_16 rfl rfl rfl ?_
      obtain ⟨g5, h⟩ := rx_gd_o h
      refine ex_lald _ 18 dX9_valueAt_17 dk_18 g5 rfl rfl ?_
      refine ev_goto 22 dX9_valueAt_18 rfl ?_
      exact ev_lreturn dX9_valueAt_22 rfl (rx_ret_l h)

def f_X4_taken (S0 : rx_S) : Option (Int32 × rx_S) := rx_bd (f_X9_valueAt ((S0.1 13 5) - 1) S0) (fun x3 S2 => some ((Int64.toInt32 x3), S2))
set_option maxHeartbeats 4000000 in
set_option maxRecDepth 20000 in
theorem em_X4_taken {d : Nat} {S0 : rx_S} {zr : Int32} {zS : rx_S} (h : f_X4_taken S0 = some (zr, zS)) : EM gC (d + 1) mX4_taken [.ref 13] S0 (rx_pi zr zS) := by
  unfold f_X4_taken at h
  show EV gC (d + 1) mX4_taken 0 [some (.ref 13)] [] S0 (rx_pi zr zS)
  refine ev_aload_n (i := 0) 1 dX4_taken_0 rfl rfl rfl ?_
  refine ev_get (v := .ref 14) 4 dX4_taken_1 dk_13 fl_4_12 (by decide) rfl rfl rfl ?_
  refine ev_aload_n (i := 0) 5 dX4_taken_4 rfl rfl rfl ?_
  refine ev_get (v := .int (S0.1 13 5)) 8 dX4_taken_5 dk_13 fl_4_44 (by decide) rfl rfl rfl ?_
  refine ev_iconst (v := 1) 9 dX4_taken_8 (by decide) rfl ?_
  refine ev_isub 10 dX4_taken_9 rfl ?_
  obtain ⟨x3, S2, g4, h⟩ := rx_bd_o h
  refine ev_cVl1 13 dX4_taken_10 (em_X9_valueAt g4) mm_X9_valueAt mv_X9_valueAt lk_4_84 dk_14 (by decide) rfl (Nat.le_of_ble_eq_true rfl) (Nat.le_of_ble_eq_true rfl) rfl ?_
  refine ev_l2i 14 dX4_taken_13 rfl ?_
  exact ev_ireturn dX4_taken_14 rfl (rx_ret_i h)

