def f_X2_copy (S0 : rx_S) : Option (Unit × rx_S) := rx_let (rx_ur S0 4 (va_cpy (S0.1 21) (S0.1 4) 0 0 420)) (fun S3 => rx_let (rx_ur S3 5 (va_cpy (S3.1 22) (S3.1 5) 0 0 7)) (fun S4 => rx_let (rx_ui S4 3 4 (S4.1 20 4)) (fun S5 => some ((), S5))))
set_option maxHeartbeats 4000000 in
set_option maxRecDepth 20000 in
theorem em_X2_copy {d : Nat} {S0 : rx_S} {zr : Unit} {zS : rx_S} (h : f_X2_copy S0 = some (zr, zS)) : EM gC (d + 1) mX2_copy [.ref 3, .ref 20] S0 (rx_pv zS) := by
  unfold f_X2_copy at h
  show EV gC (d + 1) mX2_copy 0 [some (.ref 3), some (.ref 20)] [] S0 (rx_pv zS)
  refine ev_aload_n (i := 1) 1 dX2_copy_0 rfl rfl rfl ?_
  refine ev_get (v := .ref 21) 4 dX2_copy_1 dk_20 fl_2_9 (by decide) rfl rfl rfl ?_
  refine ev_iconst (v := 0) 5 dX2_copy_4 (by decide) rfl ?_
  refine ev_aload_n (i := 0) 6 dX2_copy_5 rfl rfl rfl ?_
  refine ev_get (v := .ref 4) 9 dX2_copy_6 dk_3 fl_2_9 (by decide) rfl rfl rfl ?_
  refine ev_iconst (v := 0) 10 dX2_copy_9 (by decide) rfl ?_
  refine ev_sipush (v := 420) 13 dX2_copy_10 (by decide) rfl ?_
  obtain ⟨S3, eS3, h⟩ := rx_let_o h
  refine ex_cp 0 0 420 16 dX2_copy_13 lk_2_39 dk_21 dk_4 (by decide) (by decide) (by decide) (by decide) (by decide) (by decide) (by decide) (by decide) (Nat.le_of_ble_eq_true rfl) rfl eS3 ?_
  refine ev_aload_n (i := 1) 17 dX2_copy_16 rfl rfl rfl ?_
  refine ev_get (v := .ref 22) 20 dX2_copy_17 dk_20 fl_2_15 (by decide) rfl rfl rfl ?_
  refine ev_iconst (v := 0) 21 dX2_copy_20 (by decide) rfl ?_
  refine ev_aload_n (i := 0) 22 dX2_copy_21 rfl rfl rfl ?_
  refine ev_get (v := .ref 5) 25 dX2_copy_22 dk_3 fl_2_15 (by decide) rfl rfl rfl ?_
  refine ev_iconst (v := 0) 26 dX2_copy_25 (by decide) rfl ?_
  refine ev_bipush (v := 7) 28 dX2_copy_26 (by decide) rfl ?_
  obtain ⟨S4, eS4, h⟩ := rx_let_o h
  refine ex_cp 0 0 7 31 dX2_copy_28 lk_2_39 dk_22 dk_5 (by decide) (by decide) (by decide) (by decide) (by decide) (by decide) (by decide) (by decide) (Nat.le_of_ble_eq_true rfl) rfl eS4 ?_
  refine ev_aload_n (i := 0) 32 dX2_copy_31 rfl rfl rfl ?_
  refine ev_aload_n (i := 1) 33 dX2_copy_32 rfl rfl rfl ?_
  refine ev_get (v := .int (S4.1 20 4)) 36 dX2_copy_33 dk_20 fl_2_24 (by decide) rfl rfl rfl ?_
  obtain ⟨S5, eS5, h⟩ := rx_let_o h
  refine ex_put 39 dX2_copy_36 dk_3 fl_2_24 pp_2_4 (by decide) rfl rfl rfl rfl eS5 ?_
  exact ev_return dX2_copy_39 rfl (rx_ret_v h)

def f_X2_jumpHere (k : Nat) (x1 : Int32) (S0 : rx_S) : Option (Unit × rx_S) := if x1 < 0 then (some ((), S0)) else (if (420 : Int32) ≤ x1 then (some ((), S0)) else (rx_gd x1 420 (rx_let (rx_ui S0 (k + 1) (Int32.toNatClampNeg x1) (((-100) : Int32) - (S0.1 k 4))) (fun S6 => some ((), S6)))))
set_option maxHeartbeats 4000000 in
set_option maxRecDepth 20000 in
theorem em_X2_jumpHere_3 {d : Nat} {x1 : Int32} {S0 : rx_S} {zr : Unit} {zS : rx_S} (h : f_X2_jumpHere 3 x1 S0 = some (zr, zS)) : EM gC d mX2_jumpHere [.ref 3, .int x1] S0 (rx_pv zS) := by
  unfold f_X2_jumpHere at h
  show EV gC d mX2_jumpHere 0 [some (.ref 3), some (.int x1)] [] S0 (rx_pv zS)
  refine ev_iload_n (i := 1) 1 dX2_jumpHere_0 rfl rfl rfl ?_
  refine ev_if_lt 24 4 dX2_jumpHere_1 rfl rfl (fun c3 => ?_) (fun c3 => ?_)
  · replace h := rx_if_t c3 h
    exact ev_return dX2_jumpHere_24 rfl (rx_ret_v h)
  · replace h := rx_if_f c3 h
    refine ev_iload_n (i := 1) 5 dX2_jumpHere_4 rfl rfl rfl ?_
    refine ev_sipush (v := 420) 8 dX2_jumpHere_5 (by decide) rfl ?_
    refine ev_icmp_ge 24 11 dX2_jumpHere_8 rfl rfl (fun c4 => ?_) (fun c4 => ?_)
    · replace h := rx_if_t c4 h
      exact ev_return dX2_jumpHere_24 rfl (rx_ret_v h)
    · replace h := rx_if_f c4 h
      refine ev_aload_n (i := 0) 12 dX2_jumpHere_11 rfl rfl rfl ?_
      refine ev_get (v := .ref 4) 15 dX2_jumpHere_12 dk_3 fl_2_9 (by decide) rfl rfl rfl ?_
      refine ev_iload_n (i := 1) 16 dX2_jumpHere_15 rfl rfl rfl ?_
      refine ev_bipush (v := (-100)) 18 dX2_jumpHere_16 (by decide) rfl ?_
      refine ev_aload_n (i := 0) 19 dX2_jumpHere_18 rfl rfl rfl ?_
      refine ev_get (v := .int (S0.1 3 4)) 22 dX2_jumpHere_19 dk_3 fl_2_24 (by decide) rfl rfl rfl ?_
      refine ev_isub 23 dX2_jumpHere_22 rfl ?_
      obtain ⟨g5, h⟩ := rx_gd_o h
      obtain ⟨S6, eS6, h⟩ := rx_let_o h
      refine ex_iast _ 24 dX2_jumpHere_23 dk_4 g5 rfl rfl eS6 ?_
      exact ev_return dX2_jumpHere_24 rfl (rx_ret_v h)

set_option maxHeartbeats 4000000 in
set_option maxRecDepth 20000 in
theorem em_X2_jumpHere_20 {d : Nat} {x1 : Int32} {S0 : rx_S} {zr : Unit} {zS : rx_S} (h : f_X2_jumpHere 20 x1 S0 = some (zr, zS)) : EM gC d mX2_jumpHere [.ref 20, .int x1] S0 (rx_pv zS) := by
  unfold f_X2_jumpHere at h
  show EV gC d mX2_jumpHere 0 [some (.ref 20), some (.int x1)] [] S0 (rx_pv zS)
  refine ev_iload_n (i := 1) 1 dX2_jumpHere_0 rfl rfl rfl ?_
  refine ev_if_lt 24 4 dX2_jumpHere_1 rfl rfl (fun c3 => ?_) (fun c3 => ?_)
  · replace h := rx_if_t c3 h
    exact ev_return dX2_jumpHere_24 rfl (rx_ret_v h)
  · replace h := rx_if_f c3 h
    refine ev_iload_n (i := 1) 5 dX2_jumpHere_4 rfl rfl rfl ?_
    refine ev_sipush (v := 420) 8 dX2_jumpHere_5 (by decide) rfl ?_
    refine ev_icmp_ge 24 11 dX2_jumpHere_8 rfl rfl (fun c4 => ?_) (fun c4 => ?_)
    · replace h := rx_if_t c4 h
      exact ev_return dX2_jumpHere_24 rfl (rx_ret_v h)
    · replace h := rx_if_f c4 h
      refine ev_aload_n (i := 0) 12 dX2_jumpHere_11 rfl rfl rfl ?_
      refine ev_get (v := .ref 21) 15 dX2_jumpHere_12 dk_20 fl_2_9 (by decide) rfl rfl rfl ?_
      refine ev_iload_n (i := 1) 16 dX2_jumpHere_15 rfl rfl rfl ?_
      refine ev_bipush (v := (-100)) 18 dX2_jumpHere_16 (by decide) rfl ?_
      refine ev_aload_n (i := 0) 19 dX2_jumpHere_18 rfl rfl rfl ?_
      refine ev_get (v := .int (S0.1 20 4)) 22 dX2_jumpHere_19 dk_20 fl_2_24 (by decide) rfl rfl rfl ?_
      refine ev_isub 23 dX2_jumpHere_22 rfl ?_
      obtain ⟨g5, h⟩ := rx_gd_o h
      obtain ⟨S6, eS6, h⟩ := rx_let_o h
      refine ex_iast _ 24 dX2_jumpHere_23 dk_21 g5 rfl rfl eS6 ?_
      exact ev_return dX2_jumpHere_24 rfl (rx_ret_v h)

def f_X3_remember (S0 : rx_S) : Option (Unit × rx_S) := if (S0.1 33 3) < 0 then (some ((), S0)) else (if (40 : Int32) ≤ (S0.1 33 3) then (some ((), S0)) else (rx_gd (S0.1 33 3) 40 (rx_let (rx_ur S0 (37 + Int32.toNatClampNeg (S0.1 33 3)) (va_cpy (S0.1 32) (S0.1 (37 + Int32.toNatClampNeg (S0.1 33 3))) 0 0 48)) (fun S6 => rx_let (fun (x7 : Int32) (S8 : rx_S) => rx_let (rx_ui S8 33 3 x7) (fun S9 => rx_let (rx_ui S9 33 4 (if ((S9.1 33 4) + 1) < 40 then ((S9.1 33 4) + 1) else 40)) (fun S10 => some ((), S10)))) (fun J55_1 => if (40 : Int32) ≤ ((S6.1 33 3) + 1) then (J55_1 0 S6) else (J55_1 ((S6.1 33 3) + 1) S6))))))
set_option maxHeartbeats 4000000 in
set_option maxRecDepth 20000 in
theorem em_X3_remember {d : Nat} {S0 : rx_S} {zr : Unit} {zS : rx_S} (h : f_X3_remember S0 = some (zr, zS)) : EM gC (d + 1) mX3_remember [.ref 33, .ref 32] S0 (rx_pv zS) := by
  unfold f_X3_remember at h
  show EV gC (d + 1) mX3_remember 0 [some (.ref 33), some (.ref 32)] [] S0 (rx_pv zS)
  refine ev_aload_n (i := 0) 1 dX3_remember_0 rfl rfl rfl ?_
  refine ev_get (v := .int (S0.1 33 3)) 4 dX3_remember_1 dk_33 fl_3_23 (by decide) rfl rfl rfl ?_
  refine ev_if_lt 73 7 dX3_remember_4 rfl rfl (fun c3 => ?_) (fun c3 => ?_)
  · replace h := rx_if_t c3 h
    exact ev_return dX3_remember_73 rfl (rx_ret_v h)
  · replace h := rx_if_f c3 h
    refine ev_aload_n (i := 0) 8 dX3_remember_7 rfl rfl rfl ?_
    refine ev_get (v := .int (S0.1 33 3)) 11 dX3_remember_8 dk_33 fl_3_23 (by decide) rfl rfl rfl ?_
    refine ev_bipush (v := 40) 13 dX3_remember_11 (by decide) rfl ?_
    refine ev_icmp_ge 73 16 dX3_remember_13 rfl rfl (fun c4 => ?_) (fun c4 => ?_)
    · replace h := rx_if_t c4 h
      exact ev_return dX3_remember_73 rfl (rx_ret_v h)
    · replace h := rx_if_f c4 h
      refine ev_aload_n (i := 1) 17 dX3_remember_16 rfl rfl rfl ?_
      refine ev_iconst (v := 0) 18 dX3_remember_17 (by decide) rfl ?_
      refine ev_aload_n (i := 0) 19 dX3_remember_18 rfl rfl rfl ?_
      refine ev_get (v := .ref 34) 22 dX3_remember_19 dk_33 fl_3_11 (by decide) rfl rfl rfl ?_
      refine ev_aload_n (i := 0) 23 dX3_remember_22 rfl rfl rfl ?_
      refine ev_get (v := .int (S0.1 33 3)) 26 dX3_remember_23 dk_33 fl_3_23 (by decide) rfl rfl rfl ?_
      obtain ⟨g5, h⟩ := rx_gd_o h
      refine ev_aald (k' := (37 + Int32.toNatClampNeg (S0.1 33 3))) 27 dX3_remember_26 dk_34 g5 (dkr_34 g5) rfl ?_
      refine ev_iconst (v := 0) 28 dX3_remember_27 (by decide) rfl ?_
      refine ev_bipush (v := 48) 30 dX3_remember_28 (by decide) rfl ?_
      obtain ⟨S6, eS6, h⟩ := rx_let_o h
      refine ex_cp 0 0 48 33 dX3_remember_30 lk_3_27 dk_32 (dkv_34 g5) (by decide) (by decide) (by decide) (by decide) (by decide) (by decide) (by decide) (by decide) (Nat.le_of_ble_eq_true rfl) rfl eS6 ?_
      refine ev_aload_n (i := 0) 34 dX3_remember_33 rfl rfl rfl ?_
      refine ev_aload_n (i := 0) 35 dX3_remember_34 rfl rfl rfl ?_
      refine ev_get (v := .int (S6.1 33 3)) 38 dX3_remember_35 dk_33 fl_3_23 (by decide) rfl rfl rfl ?_
      refine ev_iconst (v := 1) 39 dX3_remember_38 (by decide) rfl ?_
      refine ev_iadd 40 dX3_remember_39 rfl ?_
      refine ev_bipush (v := 40) 42 dX3_remember_40 (by decide) rfl ?_
      obtain ⟨J55_1, eJ55_1, h⟩ := rx_let_o h
      have hJ55_1 : ∀ (x7 : Int32) (S8 : rx_S), J55_1 x7 S8 = some (zr, zS) → EV gC (d + 1) mX3_remember 55 [some (.ref 33), some (.ref 32)] [.int x7, .ref 33] S8 (rx_pv zS) := by
        intro x7 S8 h
        subst eJ55_1
        obtain ⟨S9, eS9, h⟩ := rx_let_o h
        refine ex_put 58 dX3_remember_55 dk_33 fl_3_23 pp_3_3 (by decide) rfl rfl rfl rfl eS9 ?_
        refine ev_aload_n (i := 0) 59 dX3_remember_58 rfl rfl rfl ?_
        refine ev_bipush (v := 40) 61 dX3_remember_59 (by decide) rfl ?_
        refine ev_aload_n (i := 0) 62 dX3_remember_61 rfl rfl rfl ?_
        refine ev_get (v := .int (S9.1 33 4)) 65 dX3_remember_62 dk_33 fl_3_33 (by decide) rfl rfl rfl ?_
        refine ev_iconst (v := 1) 66 dX3_remember_65 (by decide) rfl ?_
        refine ev_iadd 67 dX3_remember_66 rfl ?_
        refine ev_min 70 dX3_remember_67 lk_3_36 w_min (Nat.le_of_ble_eq_true rfl) rfl ?_
        obtain ⟨S10, eS10, h⟩ := rx_let_o h
        refine ex_put 73 dX3_remember_70 dk_33 fl_3_33 pp_3_4 (by decide) rfl rfl rfl rfl eS10 ?_
        exact ev_return dX3_remember_73 rfl (rx_ret_v h)
      refine ev_icmp_ge 54 45 dX3_remember_42 rfl rfl (fun c11 => ?_) (fun c11 => ?_)
      · replace h := rx_if_t c11 h
        refine ev_iconst (v := 0) 55 dX3_remember_54 (by decide) rfl ?_
        exact (hJ55_1 _ _ h).fewer (rx_le_s (rx_le_s rx_le_0))
      · replace h := rx_if_f c11 h
        refine ev_aload_n (i := 0) 46 dX3_remember_45 rfl rfl rfl ?_
        refine ev_get (v := .int (S6.1 33 3)) 49 dX3_remember_46 dk_33 fl_3_23 (by decide) rfl rfl rfl ?_
        refine ev_iconst (v := 1) 50 dX3_remember_49 (by decide) rfl ?_
        refine ev_iadd 51 dX3_remember_50 rfl ?_
        refine ev_goto 55 dX3_remember_51 rfl ?_
        exact (hJ55_1 _ _ h).fewer (rx_le_s (rx_le_s rx_le_0))

def f_X3_takeBack (S0 : rx_S) : Option (Int32 × rx_S) := rx_let (fun (x3 : Int32) (S4 : rx_S) => if (S4.1 33 4) = 0 then (some (0, S4)) else (if x3 < 40 then (rx_gd x3 40 (rx_let (rx_ur S4 32 (va_cpy (S4.1 (37 + Int32.toNatClampNeg x3)) (S4.1 32) 0 0 48)) (fun S8 => rx_let (rx_ui S8 33 3 x3) (fun S9 => rx_let (rx_ui S9 33 4 ((S9.1 33 4) - 1)) (fun S10 => some (1, S10)))))) else (some (0, S4)))) (fun J18_1 => if (S0.1 33 3) ≤ 0 then (J18_1 39 S0) else (J18_1 ((S0.1 33 3) - 1) S0))
set_option maxHeartbeats 4000000 in
set_option maxRecDepth 20000 in
theorem em_X3_takeBack {d : Nat} {S0 : rx_S} {zr : Int32} {zS : rx_S} (h : f_X3_takeBack S0 = some (zr, zS)) : EM gC (d + 1) mX3_takeBack [.ref 33, .ref 32] S0 (rx_pi zr zS) := by
  unfold f_X3_takeBack at h
  show EV gC (d + 1) mX3_takeBack 0 [some (.ref 33), some (.ref 32), none] [] S0 (rx_pi zr zS)
  refine ev_aload_n (i := 0) 1 dX3_takeBack_0 rfl rfl rfl ?_
  refine ev_get (v := .int (S0.1 33 3)) 4 dX3_takeBack_1 dk_33 fl_3_23 (by decide) rfl rfl rfl ?_
  obtain ⟨J18_1, eJ18_1, h⟩ := rx_let_o h
  have hJ18_1 : ∀ (x3 : Int32) (S4 : rx_S), J18_1 x3 S4 = some (zr, zS) → EV gC (d + 1) mX3_takeBack 18 [some (.ref 33), some (.ref 32), none] [.int x3] S4 (rx_pi zr zS) := by
    intro x3 S4 h
    subst eJ18_1
    refine ev_istore_n (ls' := [some (.ref 33), some (.ref 32), some (.int x3)]) 19 dX3_takeBack_18 rfl (Nat.le_of_ble_eq_true rfl) rfl rfl ?_
    refine ev_aload_n (i := 0) 20 dX3_takeBack_19 rfl rfl rfl ?_
    refine ev_get (v := .int (S4.1 33 4)) 23 dX3_takeBack_20 dk_33 fl_3_33 (by decide) rfl rfl rfl ?_
    refine ev_if_eq 32 26 dX3_takeBack_23 rfl rfl (fun c5 => ?_) (fun c5 => ?_)
    · replace h := rx_if_t c5 h
      refine ev_iconst (v := 0) 33 dX3_takeBack_32 (by decide) rfl ?_
      exact ev_zreturn dX3_takeBack_33 rfl (by decide) (rx_ret_i h)
    · replace h := rx_if_f c5 h
      refine ev_iload_n (i := 2) 27 dX3_takeBack_26 rfl rfl rfl ?_
      refine ev_bipush (v := 40) 29 dX3_takeBack_27 (by decide) rfl ?_
      refine ev_icmp_lt 34 32 dX3_takeBack_29 rfl rfl (fun c6 => ?_) (fun c6 => ?_)
      · replace h := rx_if_t c6 h
        refine ev_aload_n (i := 0) 35 dX3_takeBack_34 rfl rfl rfl ?_
        refine ev_get (v := .ref 34) 38 dX3_takeBack_35 dk_33 fl_3_11 (by decide) rfl rfl rfl ?_
        refine ev_iload_n (i := 2) 39 dX3_takeBack_38 rfl rfl rfl ?_
        obtain ⟨g7, h⟩ := rx_gd_o h
        refine ev_aald (k' := (37 + Int32.toNatClampNeg x3)) 40 dX3_takeBack_39 dk_34 g7 (dkr_34 g7) rfl ?_
        refine ev_iconst (v := 0) 41 dX3_takeBack_40 (by decide) rfl ?_
        refine ev_aload_n (i := 1) 42 dX3_takeBack_41 rfl rfl rfl ?_
        refine ev_iconst (v := 0) 43 dX3_takeBack_42 (by decide) rfl ?_
        refine ev_bipush (v := 48) 45 dX3_takeBack_43 (by decide) rfl ?_
        obtain ⟨S8, eS8, h⟩ := rx_let_o h
        refine ex_cp 0 0 48 48 dX3_takeBack_45 lk_3_27 (dkv_34 g7) dk_32 (by decide) (by decide) (by decide) (by decide) (by decide) (by decide) (by decide) (by decide) (Nat.le_of_ble_eq_true rfl) rfl eS8 ?_
        refine ev_aload_n (i := 0) 49 dX3_takeBack_48 rfl rfl rfl ?_
        refine ev_iload_n (i := 2) 50 dX3_takeBack_49 rfl rfl rfl ?_
        obtain ⟨S9, eS9, h⟩ := rx_let_o h
        refine ex_put 53 dX3_takeBack_50 dk_33 fl_3_23 pp_3_3 (by decide) rfl rfl rfl rfl eS9 ?_
        refine ev_aload_n (i := 0) 54 dX3_takeBack_53 rfl rfl rfl ?_
        refine ev_dup 55 dX3_takeBack_54 rfl rfl ?_
        refine ev_get (v := .int (S9.1 33 4)) 58 dX3_takeBack_55 dk_33 fl_3_33 (by decide) rfl rfl rfl ?_
        refine ev_iconst (v := 1) 59 dX3_takeBack_58 (by decide) rfl ?_
        refine ev_isub 60 dX3_takeBack_59 rfl ?_
        obtain ⟨S10, eS10, h⟩ := rx_let_o h
        refine ex_put 63 dX3_takeBack_60 dk_33 fl_3_33 pp_3_4 (by decide) rfl rfl rfl rfl eS10 ?_
        refine ev_iconst (v := 1) 64 dX3_takeBack_63 (by decide) rfl ?_
        exact ev_zreturn dX3_takeBack_64 rfl (by decide) (rx_ret_i h)
      · replace h := rx_if_f c6 h
        refine ev_iconst (v := 0) 33 dX3_takeBack_32 (by decide) rfl ?_
        exact ev_zreturn dX3_takeBack_33 rfl (by decide) (rx_ret_i h)
  refine ev_if_le 16 7 dX3_takeBack_4 rfl rfl (fun c11 => ?_) (fun c11 => ?_)
  · replace h := rx_if_t c11 h
    refine ev_bipush (v := 39) 18 dX3_takeBack_16 (by decide) rfl ?_
    exact (hJ18_1 _ _ h).fewer (rx_le_s (rx_le_s (rx_le_n rx_le_0)))
  · replace h := rx_if_f c11 h
    refine ev_aload_n (i := 0) 8 dX3_takeBack_7 rfl rfl rfl ?_
    refine ev_get (v := .int (S0.1 33 3)) 11 dX3_takeBack_8 dk_33 fl_3_23 (by decide) rfl rfl rfl ?_
    refine ev_iconst (v := 1) 12 dX3_takeBack_11 (by decide) rfl ?_
    refine ev_isub 13 dX3_takeBack_12 rfl ?_
    refine ev_goto 18 dX3_takeBack_13 rfl ?_
    exact (hJ18_1 _ _ h).fewer (rx_le_s (rx_le_s (rx_le_n rx_le_0)))

def f_X3_forgetDone (S0 : rx_S) : Option (Unit × rx_S) := rx_let (rx_ui S0 33 4 0) (fun S2 => some ((), S2))
set_option maxHeartbeats 4000000 in
set_option maxRecDepth 20000 in
theorem em_X3_forgetDone {d : Nat} {S0 : rx_S} {zr : Unit} {zS : rx_S} (h : f_X3_forgetDone S0 = some (zr, zS)) : EM gC d mX3_forgetDone [.ref 33] S0 (rx_pv zS) := by
  unfold f_X3_forgetDone at h
  show EV gC d mX3_forgetDone 0 [some (.ref 33)] [] S0 (rx_pv zS)
  refine ev_aload_n (i := 0) 1 dX3_forgetDone_0 rfl rfl rfl ?_
  refine ev_iconst (v := 0) 2 dX3_forgetDone_1 (by decide) rfl ?_
  obtain ⟨S2, eS2, h⟩ := rx_let_o h
  refine ex_put 5 dX3_forgetDone_2 dk_33 fl_3_33 pp_3_4 (by decide) rfl rfl rfl rfl eS2 ?_
  exact ev_return dX3_forgetDone_5 rfl (rx_ret_v h)

def f_X3_isSlot (x0 : Int32) (S0 : rx_S) : Option (Int32 × rx_S) := if x0 < 0 then (some (0, S0)) else (if (3 : Int32) ≤ x0 then (some (0, S0)) else (some (1, S0)))
set_option maxHeartbeats 4000000 in
set_option maxRecDepth 20000 in
theorem em_X3_isSlot {d : Nat} {x0 : Int32} {S0 : rx_S} {zr : Int32} {zS : rx_S} (h : f_X3_isSlot x0 S0 = some (zr, zS)) : EM gC d mX3_isSlot [.int x0] S0 (rx_pi zr zS) := by
  unfold f_X3_isSlot at h
  show EV gC d mX3_isSlot 0 [some (.int x0)] [] S0 (rx_pi zr zS)
  refine ev_iload_n (i := 0) 1 dX3_isSlot_0 rfl rfl rfl ?_
  refine ev_if_lt 13 4 dX3_isSlot_1 rfl rfl (fun c2 => ?_) (fun c2 => ?_)
  · replace h := rx_if_t c2 h
    refine ev_iconst (v := 0) 14 dX3_isSlot_13 (by decide) rfl ?_
    exact ev_zreturn dX3_isSlot_14 rfl (by decide) (rx_ret_i h)
  · replace h := rx_if_f c2 h
    refine ev_iload_n (i := 0) 5 dX3_isSlot_4 rfl rfl rfl ?_
    refine ev_iconst (v := 3) 6 dX3_isSlot_5 (by decide) rfl ?_
    refine ev_icmp_ge 13 9 dX3_isSlot_6 rfl rfl (fun c3 => ?_) (fun c3 => ?_)
    · replace h := rx_if_t c3 h
      refine ev_iconst (v := 0) 14 dX3_isSlot_13 (by decide) rfl ?_
      exact ev_zreturn dX3_isSlot_14 rfl (by decide) (rx_ret_i h)
    · replace h := rx_if_f c3 h
      refine ev_iconst (v := 1) 10 dX3_isSlot_9 (by decide) rfl ?_
      refine ev_goto 14 dX3_isSlot_10 rfl ?_
      exact ev_zreturn dX3_isSlot_14 rfl (by decide) (rx_ret_i h)

def f_X3_keep (x1 : Int32) (S0 : rx_S) : Option (Int32 × rx_S) := rx_bd (f_X3_isSlot x1 S0) (fun x5 S4 => if x5 = 0 then (some (0, S4)) else (rx_gd x1 3 (rx_let (rx_ur S4 (77 + Int32.toNatClampNeg x1) (va_cpy (S4.1 32) (S4.1 (77 + Int32.toNatClampNeg x1)) 0 0 48)) (fun S9 => rx_gd x1 3 (rx_let (rx_ui S9 36 (Int32.toNatClampNeg x1) (vp_nar .boolean 1)) (fun S11 => some (1, S11)))))))
set_option maxHeartbeats 4000000 in
set_option maxRecDepth 20000 in
theorem em_X3_keep {d : Nat} {x1 : Int32} {S0 : rx_S} {zr : Int32} {zS : rx_S} (h : f_X3_keep x1 S0 = some (zr, zS)) : EM gC (d + 1) mX3_keep [.ref 33, .int x1, .ref 32] S0 (rx_pi zr zS) := by
  unfold f_X3_keep at h
  show EV gC (d + 1) mX3_keep 0 [some (.ref 33), some (.int x1), some (.ref 32)] [] S0 (rx_pi zr zS)
  refine ev_iload_n (i := 1) 1 dX3_keep_0 rfl rfl rfl ?_
  obtain ⟨x5, S4, g6, h⟩ := rx_bd_o h
  refine ev_cSi1 4 dX3_keep_1 (em_X3_isSlot g6) mm_X3_isSlot ms_X3_isSlot lk_3_42 (Nat.le_of_ble_eq_true rfl) (Nat.le_of_ble_eq_true rfl) rfl ?_
  refine ev_if_ne 9 7 dX3_keep_4 rfl rfl (fun c7 => ?_) (fun c7 => ?_)
  · replace h := rx_if_f c7 h
    refine ev_aload_n (i := 2) 10 dX3_keep_9 rfl rfl rfl ?_
    refine ev_iconst (v := 0) 11 dX3_keep_10 (by decide) rfl ?_
    refine ev_aload_n (i := 0) 12 dX3_keep_11 rfl rfl rfl ?_
    refine ev_get (v := .ref 35) 15 dX3_keep_12 dk_33 fl_3_16 (by decide) rfl rfl rfl ?_
    refine ev_iload_n (i := 1) 16 dX3_keep_15 rfl rfl rfl ?_
    obtain ⟨g8, h⟩ := rx_gd_o h
    refine ev_aald (k' := (77 + Int32.toNatClampNeg x1)) 17 dX3_keep_16 dk_35 g8 (dkr_35 g8) rfl ?_
    refine ev_iconst (v := 0) 18 dX3_keep_17 (by decide) rfl ?_
    refine ev_bipush (v := 48) 20 dX3_keep_18 (by decide) rfl ?_
    obtain ⟨S9, eS9, h⟩ := rx_let_o h
    refine ex_cp 0 0 48 23 dX3_keep_20 lk_3_27 dk_32 (dkv_35 g8) (by decide) (by decide) (by decide) (by decide) (by decide) (by decide) (by decide) (by decide) (Nat.le_of_ble_eq_true rfl) rfl eS9 ?_
    refine ev_aload_n (i := 0) 24 dX3_keep_23 rfl rfl rfl ?_
    refine ev_get (v := .ref 36) 27 dX3_keep_24 dk_33 fl_3_19 (by decide) rfl rfl rfl ?_
    refine ev_iload_n (i := 1) 28 dX3_keep_27 rfl rfl rfl ?_
    refine ev_iconst (v := 1) 29 dX3_keep_28 (by decide) rfl ?_
    obtain ⟨g10, h⟩ := rx_gd_o h
    obtain ⟨S11, eS11, h⟩ := rx_let_o h
    refine ex_zast _ 30 dX3_keep_29 dk_36 g10 rfl rfl eS11 ?_
    refine ev_iconst (v := 1) 31 dX3_keep_30 (by decide) rfl ?_
    exact ev_zreturn dX3_keep_31 rfl (by decide) (rx_ret_i h)
  · replace h := rx_if_t c7 h
    refine ev_iconst (v := 0) 8 dX3_keep_7 (by decide) rfl ?_
    exact ev_zreturn dX3_keep_8 rfl (by decide) (rx_ret_i h)

def f_X3_bringBack (x1 : Int32) (S0 : rx_S) : Option (Int32 × rx_S) := rx_bd (f_X3_isSlot x1 S0) (fun x5 S4 => if x5 = 0 then (some (0, S4)) else (rx_gd x1 3 (if (S4.1 36 (Int32.toNatClampNeg x1)) = 0 then (some (0, S4)) else (rx_gd x1 3 (rx_let (rx_ur S4 32 (va_cpy (S4.1 (77 + Int32.toNatClampNeg x1)) (S4.1 32) 0 0 48)) (fun S11 => some (1, S11)))))))
set_option maxHeartbeats 4000000 in
set_option maxRecDepth 20000 in
theorem em_X3_bringBack {d : Nat} {x1 : Int32} {S0 : rx_S} {zr : Int32} {zS : rx_S} (h : f_X3_bringBack x1 S0 = some (zr, zS)) : EM gC (d + 1) mX3_bringBack [.ref 33, .int x1, .ref 32] S0 (rx_pi zr zS) := by
  unfold f_X3_bringBack at h
  show EV gC (d + 1) mX3_bringBack 0 [some (.ref 33), some (.int x1), some (.ref 32)] [] S0 (rx_pi zr zS)
  refine ev_iload_n (i := 1) 1 dX3_bringBack_0 rfl rfl rfl ?_
  obtain ⟨x5, S4, g6, h⟩ := rx_bd_o h
  refine ev_cSi1 4 dX3_bringBack_1 (em_X3_isSlot g6) mm_X3_isSlot ms_X3_isSlot lk_3_42 (Nat.le_of_ble_eq_true rfl) (Nat.le_of_ble_eq_true rfl) rfl ?_
  refine ev_if_eq 16 7 dX3_bringBack_4 rfl rfl (fun c7 => ?_) (fun c7 => ?_)
  · replace h := rx_if_t c7 h
    refine ev_iconst (v := 0) 17 dX3_bringBack_16 (by decide) rfl ?_
    exact ev_zreturn dX3_bringBack_17 rfl (by decide) (rx_ret_i h)
  · replace h := rx_if_f c7 h
    refine ev_aload_n (i := 0) 8 dX3_bringBack_7 rfl rfl rfl ?_
    refine ev_get (v := .ref 36) 11 dX3_bringBack_8 dk_33 fl_3_19 (by decide) rfl rfl rfl ?_
    refine ev_iload_n (i := 1) 12 dX3_bringBack_11 rfl rfl rfl ?_
    obtain ⟨g8, h⟩ := rx_gd_o h
    refine ex_zald _ 13 dX3_bringBack_12 dk_36 g8 rfl rfl ?_
    refine ev_if_ne 18 16 dX3_bringBack_13 rfl rfl (fun c9 => ?_) (fun c9 => ?_)
    · replace h := rx_if_f c9 h
      refine ev_aload_n (i := 0) 19 dX3_bringBack_18 rfl rfl rfl ?_
      refine ev_get (v := .ref 35) 22 dX3_bringBack_19 dk_33 fl_3_16 (by decide) rfl rfl rfl ?_
      refine ev_iload_n (i := 1) 23 dX3_bringBack_22 rfl rfl rfl ?_
      obtain ⟨g10, h⟩ := rx_gd_o h
      refine ev_aald (k' := (77 + Int32.toNatClampNeg x1)) 24 dX3_bringBack_23 dk_35 g10 (dkr_35 g10) rfl ?_
      refine ev_iconst (v := 0) 25 dX3_bringBack_24 (by decide) rfl ?_
      refine ev_aload_n (i := 2) 26 dX3_bringBack_25 rfl rfl rfl ?_
      refine ev_iconst (v := 0) 27 dX3_bringBack_26 (by decide) rfl ?_
      refine ev_bipush (v := 48) 29 dX3_bringBack_27 (by decide) rfl ?_
      obtain ⟨S11, eS11, h⟩ := rx_let_o h
      refine ex_cp 0 0 48 32 dX3_bringBack_29 lk_3_27 (dkv_35 g10) dk_32 (by decide) (by decide) (by decide) (by decide) (by decide) (by decide) (by decide) (by decide) (Nat.le_of_ble_eq_true rfl) rfl eS11 ?_
      refine ev_iconst (v := 1) 33 dX3_bringBack_32 (by decide) rfl ?_
      exact ev_zreturn dX3_bringBack_33 rfl (by decide) (rx_ret_i h)
    · replace h := rx_if_t c9 h
      refine ev_iconst (v := 0) 17 dX3_bringBack_16 (by decide) rfl ?_
      exact ev_zreturn dX3_bringBack_17 rfl (by decide) (rx_ret_i h)

def f_X3_emptySlots_L2 (N : Nat) : Nat → Int32 → rx_S → Option (Unit × rx_S)
  | 0, _, _ => none
  | n + 1, x2, S3 => if (3 : Int32) ≤ x2 then (some ((), S3)) else (rx_gd x2 3 (rx_let (rx_ui S3 36 (Int32.toNatClampNeg x2) (vp_nar .boolean 0)) (fun S6 => rx_let (x2 + 1) (fun x7 => f_X3_emptySlots_L2 N n x7 S6))))
def f_X3_emptySlots (N : Nat) (S0 : rx_S) : Option (Unit × rx_S) := f_X3_emptySlots_L2 N N 0 S0
set_option maxHeartbeats 4000000 in
set_option maxRecDepth 20000 in
theorem em_X3_emptySlots_L2 {d N : Nat} {zr : Unit} {zS : rx_S} : ∀ (n : Nat) (x2 : Int32) (S3 : rx_S), f_X3_emptySlots_L2 N n x2 S3 = some (zr, zS) → EV gC d mX3_emptySlots 2 [some (.ref 33), some (.int x2)] [] S3 (rx_pv zS) := by
  intro n
  induction n with
  | zero => intro x2 S3 h; cases h
  | succ n ih =>
    intro x2 S3 h
    rw [f_X3_emptySlots_L2] at h
    refine ev_iload_n (i := 1) 3 dX3_emptySlots_2 rfl rfl rfl ?_
    refine ev_iconst (v := 3) 4 dX3_emptySlots_3 (by decide) rfl ?_
    refine ev_icmp_ge 20 7 dX3_emptySlots_4 rfl rfl (fun c4 => ?_) (fun c4 => ?_)
    · replace h := rx_if_t c4 h
      exact ev_return dX3_emptySlots_20 rfl (rx_ret_v h)
    · replace h := rx_if_f c4 h
      refine ev_aload_n (i := 0) 8 dX3_emptySlots_7 rfl rfl rfl ?_
      refine ev_get (v := .ref 36) 11 dX3_emptySlots_8 dk_33 fl_3_19 (by decide) rfl rfl rfl ?_
      refine ev_iload_n (i := 1) 12 dX3_emptySlots_11 rfl rfl rfl ?_
      refine ev_iconst (v := 0) 13 dX3_emptySlots_12 (by decide) rfl ?_
      obtain ⟨g5, h⟩ := rx_gd_o h
      obtain ⟨S6, eS6, h⟩ := rx_let_o h
      refine ex_zast _ 14 dX3_emptySlots_13 dk_36 g5 rfl rfl eS6 ?_
      obtain ⟨x7, ex7, h⟩ := rx_let_o h
      refine ev_iinc (v := x7) (ls' := [some (.ref 33), some (.int x7)]) 17 dX3_emptySlots_14 rfl (by rw [ex7]; rfl) (Nat.le_of_ble_eq_true rfl) rfl rfl ?_
      refine ev_goto 2 dX3_emptySlots_17 rfl ?_
      exact (ih _ _ h).fewer (rx_le_s (rx_le_s rx_le_0))

set_option maxHeartbeats 4000000 in
set_option maxRecDepth 20000 in
theorem em_X3_emptySlots {d N : Nat} {S0 : rx_S} {zr : Unit} {zS : rx_S} (h : f_X3_emptySlots N S0 = some (zr, zS)) : EM gC d mX3_emptySlots [.ref 33] S0 (rx_pv zS) := by
  unfold f_X3_emptySlots at h
  show EV gC d mX3_emptySlots 0 [some (.ref 33), none] [] S0 (rx_pv zS)
  refine ev_iconst (v := 0) 1 dX3_emptySlots_0 (by decide) rfl ?_
  refine ev_istore_n (ls' := [some (.ref 33), some (.int 0)]) 2 dX3_emptySlots_1 rfl (Nat.le_of_ble_eq_true rfl) rfl rfl ?_
  exact (em_X3_emptySlots_L2 _ _ _ h).fewer (rx_le_s (rx_le_s rx_le_0))

def f_X3_heldCount_L4 (N : Nat) : Nat → Int32 → Int32 → rx_S → Option (Int32 × rx_S)
  | 0, _, _, _ => none
  | n + 1, x2, x3, S4 => if (3 : Int32) ≤ x3 then (some (x2, S4)) else (rx_gd x3 3 (if (S4.1 36 (Int32.toNatClampNeg x3)) = 0 then (rx_let (x3 + 1) (fun x8 => f_X3_heldCount_L4 N n x2 x8 S4)) else (rx_let (x2 + 1) (fun x9 => rx_let (x3 + 1) (fun x10 => f_X3_heldCount_L4 N n x9 x10 S4)))))
def f_X3_heldCount (N : Nat) (S0 : rx_S) : Option (Int32 × rx_S) := f_X3_heldCount_L4 N N 0 0 S0
set_option maxHeartbeats 4000000 in
set_option maxRecDepth 20000 in
theorem em_X3_heldCount_L4 {d N : Nat} {zr : Int32} {zS : rx_S} : ∀ (n : Nat) (x2 : Int32) (x3 : Int32) (S4 : rx_S), f_X3_heldCount_L4 N n x2 x3 S4 = some (zr, zS) → EV gC d mX3_heldCount 4 [some (.ref 33), some (.int x2), some (.int x3)] [] S4 (rx_pi zr zS) := by
  intro n
  induction n with
  | zero => intro x2 x3 S4 h; cases h
  | succ n ih =>
    intro x2 x3 S4 h
    rw [f_X3_heldCount_L4] at h
    refine ev_iload_n (i := 2) 5 dX3_heldCount_4 rfl rfl rfl ?_
    refine ev_iconst (v := 3) 6 dX3_heldCount_5 (by decide) rfl ?_
    refine ev_icmp_ge 27 9 dX3_heldCount_6 rfl rfl (fun c5 => ?_) (fun c5 => ?_)
    · replace h := rx_if_t c5 h
      refine ev_iload_n (i := 1) 28 dX3_heldCount_27 rfl rfl rfl ?_
      exact ev_ireturn dX3_heldCount_28 rfl (rx_ret_i h)
    · replace h := rx_if_f c5 h
      refine ev_aload_n (i := 0) 10 dX3_heldCount_9 rfl rfl rfl ?_
      refine ev_get (v := .ref 36) 13 dX3_heldCount_10 dk_33 fl_3_19 (by decide) rfl rfl rfl ?_
      refine ev_iload_n (i := 2) 14 dX3_heldCount_13 rfl rfl rfl ?_
      obtain ⟨g6, h⟩ := rx_gd_o h
      refine ex_zald _ 15 dX3_heldCount_14 dk_36 g6 rfl rfl ?_
      refine ev_if_eq 21 18 dX3_heldCount_15 rfl rfl (fun c7 => ?_) (fun c7 => ?_)
      · replace h := rx_if_t c7 h
        obtain ⟨x8, ex8, h⟩ := rx_let_o h
        refine ev_iinc (v := x8) (ls' := [some (.ref 33), some (.int x2), some (.int x8)]) 24 dX3_heldCount_21 rfl (by rw [ex8]; rfl) (Nat.le_of_ble_eq_true rfl) rfl rfl ?_
        refine ev_goto 4 dX3_heldCount_24 rfl ?_
        exact (ih _ _ _ h).fewer (rx_le_s (rx_le_s (rx_le_s rx_le_0)))
      · replace h := rx_if_f c7 h
        obtain ⟨x9, ex9, h⟩ := rx_let_o h
        refine ev_iinc (v := x9) (ls' := [some (.ref 33), some (.int x9), some (.int x3)]) 21 dX3_heldCount_18 rfl (by rw [ex9]; rfl) (Nat.le_of_ble_eq_true rfl) rfl rfl ?_
        obtain ⟨x10, ex10, h⟩ := rx_let_o h
        refine ev_iinc (v := x10) (ls' := [some (.ref 33), some (.int x9), some (.int x10)]) 24 dX3_heldCount_21 rfl (by rw [ex10]; rfl) (Nat.le_of_ble_eq_true rfl) rfl rfl ?_
        refine ev_goto 4 dX3_heldCount_24 rfl ?_
        exact (ih _ _ _ h).fewer (rx_le_s (rx_le_s (rx_le_s rx_le_0)))

set_option maxHeartbeats 4000000 in
set_option maxRecDepth 20000 in
theorem em_X3_heldCount {d N : Nat} {S0 : rx_S} {zr : Int32} {zS : rx_S} (h : f_X3_heldCount N S0 = some (zr, zS)) : EM gC d mX3_heldCount [.ref 33] S0 (rx_pi zr zS) := by
  unfold f_X3_heldCount at h
  show EV gC d mX3_heldCount 0 [some (.ref 33), none, none] [] S0 (rx_pi zr zS)
  refine ev_iconst (v := 0) 1 dX3_heldCount_0 (by decide) rfl ?_
  refine ev_istore_n (ls' := [some (.ref 33), some (.int 0), none]) 2 dX3_heldCount_1 rfl (Nat.le_of_ble_eq_true rfl) rfl rfl ?_
  refine ev_iconst (v := 0) 3 dX3_heldCount_2 (by decide) rfl ?_
  refine ev_istore_n (ls' := [some (.ref 33), some (.int 0), some (.int 0)]) 4 dX3_heldCount_3 rfl (Nat.le_of_ble_eq_true rfl) rfl rfl ?_
  exact (em_X3_heldCount_L4 _ _ _ _ h).fewer (rx_le_s (rx_le_s (rx_le_s rx_le_0)))

def f_X4_refuse (x1 : Int32) (S0 : rx_S) : Option (Int32 × rx_S) := rx_let (rx_ui S0 13 6 x1) (fun S3 => some (0, S3))
set_option maxHeartbeats 4000000 in
set_option maxRecDepth 20000 in
theorem em_X4_refuse {d : Nat} {x1 : Int32} {S0 : rx_S} {zr : Int32} {zS : rx_S} (h : f_X4_refuse x1 S0 = some (zr, zS)) : EM gC d mX4_refuse [.ref 13, .int x1] S0 (rx_pi zr zS) := by
  unfold f_X4_refuse at h
  show EV gC d mX4_refuse 0 [some (.ref 13), some (.int x1)] [] S0 (rx_pi zr zS)
  refine ev_aload_n (i := 0) 1 dX4_refuse_0 rfl rfl rfl ?_
  refine ev_iload_n (i := 1) 2 dX4_refuse_1 rfl rfl rfl ?_
  obtain ⟨S3, eS3, h⟩ := rx_let_o h
  refine ex_put 5 dX4_refuse_2 dk_13 fl_4_47 pp_4_6 (by decide) rfl rfl rfl rfl eS3 ?_
  refine ev_iconst (v := 0) 6 dX4_refuse_5 (by decide) rfl ?_
  exact ev_zreturn dX4_refuse_6 rfl (by decide) (rx_ret_i h)

def f_X9_placeOf (x1 : Int32) (S0 : rx_S) : Option (Int32 × rx_S) := if x1 < 0 then (some ((-1), S0)) else (if (S0.1 14 4) ≤ x1 then (some ((-1), S0)) else (rx_gd x1 401 (some ((S0.1 17 (Int32.toNatClampNeg x1)), S0))))
set_option maxHeartbeats 4000000 in
set_option maxRecDepth 20000 in
theorem em_X9_placeOf {d : Nat} {x1 : Int32} {S0 : rx_S} {zr : Int32} {zS : rx_S} (h : f_X9_placeOf x1 S0 = some (zr, zS)) : EM gC d mX9_placeOf [.ref 14, .int x1] S0 (rx_pi zr zS) := by
  unfold f_X9_placeOf at h
  show EV gC d mX9_placeOf 0 [some (.ref 14), some (.int x1)] [] S0 (rx_pi zr zS)
  refine ev_iload_n (i := 1) 1 dX9_placeOf_0 rfl rfl rfl ?_
  refine ev_if_lt 21 4 dX9_placeOf_1 rfl rfl (fun c3 => ?_) (fun c3 => ?_)
  · replace h := rx_if_t c3 h
    refine ev_iconst (v := (-1)) 22 dX9_placeOf_21 (by decide) rfl ?_
    exact ev_ireturn dX9_placeOf_22 rfl (rx_ret_i h)
  · replace h := rx_if_f c3 h
    refine ev_iload_n (i := 1) 5 dX9_placeOf_4 rfl rfl rfl ?_
    refine ev_aload_n (i := 0) 6 dX9_placeOf_5 rfl rfl rfl ?_
    refine ev_get (v := .int (S0.1 14 4)) 9 dX9_placeOf_6 dk_14 fl_9_49 (by decide) rfl rfl rfl ?_
    refine ev_icmp_ge 21 12 dX9_placeOf_9 rfl rfl (fun c4 => ?_) (fun c4 => ?_)
    · replace h := rx_if_t c4 h
      refine ev_iconst (v := (-1)) 22 dX9_placeOf_21 (by decide) rfl ?_
      exact ev_ireturn dX9_placeOf_22 rfl (rx_ret_i h)
    · replace h := rx_if_f c4 h
      refine ev_aload_n (i := 0) 13 dX9_placeOf_12 rfl rfl rfl ?_
      refine ev_get (v := .ref 17) 16 dX9_placeOf_13 dk_14 fl_9_19 (by decide) rfl rfl rfl ?_
      refine ev_iload_n (i := 1) 17 dX9_placeOf_16 rfl rfl rfl ?_
      obtain ⟨g5, h⟩ := rx_gd_o h
      refine ex_iald _ 18 dX9_placeOf_17 dk_17 g5 rfl rfl ?_
      refine ev_goto 22 dX9_placeOf_18 rfl ?_
      exact ev_ireturn dX9_placeOf_22 rfl (rx_ret_i h)

def f_X4_blame (x1 : Int32) (S0 : rx_S) : Option (Unit × rx_S) := if (S0.1 13 8) = 0 then (rx_let (rx_ui S0 13 8 x1) (fun S4 => rx_bd (f_X9_placeOf ((S4.1 13 5) - 1) S4) (fun x6 S5 => rx_let (rx_ui S5 13 9 x6) (fun S8 => some ((), S8))))) else (some ((), S0))
set_option maxHeartbeats 4000000 in
set_option maxRecDepth 20000 in
theorem em_X4_blame {d : Nat} {x1 : Int32} {S0 : rx_S} {zr : Unit} {zS : rx_S} (h : f_X4_blame x1 S0 = some (zr, zS)) : EM gC (d + 1) mX4_blame [.ref 13, .int x1] S0 (rx_pv zS) := by
  unfold f_X4_blame at h
  show EV gC (d + 1) mX4_blame 0 [some (.ref 13), some (.int x1)] [] S0 (rx_pv zS)
  refine ev_aload_n (i := 0) 1 dX4_blame_0 rfl rfl rfl ?_
  refine ev_get (v := .int (S0.1 13 8)) 4 dX4_blame_1 dk_13 fl_4_50 (by decide) rfl rfl rfl ?_
  refine ev_if_ne 29 7 dX4_blame_4 rfl rfl (fun c3 => ?_) (fun c3 => ?_)
  · replace h := rx_if_f c3 h
    exact ev_return dX4_blame_29 rfl (rx_ret_v h)
  · replace h := rx_if_t c3 h
    refine ev_aload_n (i := 0) 8 dX4_blame_7 rfl rfl rfl ?_
    refine ev_iload_n (i := 1) 9 dX4_blame_8 rfl rfl rfl ?_
    obtain ⟨S4, eS4, h⟩ := rx_let_o h
    refine ex_put 12 dX4_blame_9 dk_13 fl_4_50 pp_4_8 (by decide) rfl rfl rfl rfl eS4 ?_
    refine ev_aload_n (i := 0) 13 dX4_blame_12 rfl rfl rfl ?_
    refine ev_aload_n (i := 0) 14 dX4_blame_13 rfl rfl rfl ?_
    refine ev_get (v := .ref 14) 17 dX4_blame_14 dk_13 fl_4_12 (by decide) rfl rfl rfl ?_
    refine ev_aload_n (i := 0) 18 dX4_blame_17 rfl rfl rfl ?_
    refine ev_get (v := .int (S4.1 13 5)) 21 dX4_blame_18 dk_13 fl_4_44 (by decide) rfl rfl rfl ?_
    refine ev_iconst (v := 1) 22 dX4_blame_21 (by decide) rfl ?_
    refine ev_isub 23 dX4_blame_22 rfl ?_
    obtain ⟨x6, S5, g7, h⟩ := rx_bd_o h
    refine ev_cVi1 26 dX4_blame_23 (em_X9_placeOf g7) mm_X9_placeOf mv_X9_placeOf lk_4_67 dk_14 (by decide) rfl (Nat.le_of_ble_eq_true rfl) (Nat.le_of_ble_eq_true rfl) rfl ?_
    obtain ⟨S8, eS8, h⟩ := rx_let_o h
    refine ex_put 29 dX4_blame_26 dk_13 fl_4_53 pp_4_9 (by decide) rfl rfl rfl rfl eS8 ?_
    exact ev_return dX4_blame_29 rfl (rx_ret_v h)

def f_X9_kindAt (x1 : Int32) (S0 : rx_S) : Option (Int32 × rx_S) := if x1 < 0 then (some (1, S0)) else (if (S0.1 14 4) ≤ x1 then (some (1, S0)) else (rx_gd x1 401 (some ((S0.1 16 (Int32.toNatClampNeg x1)), S0))))
set_option maxHeartbeats 4000000 in
set_option maxRecDepth 20000 in
theorem em_X9_kindAt {d : Nat} {x1 : Int32} {S0 : rx_S} {zr : Int32} {zS : rx_S} (h : f_X9_kindAt x1 S0 = some (zr, zS)) : EM gC d mX9_kindAt [.ref 14, .int x1] S0 (rx_pi zr zS) := by
  unfold f_X9_kindAt at h
  show EV gC d mX9_kindAt 0 [some (.ref 14), some (.int x1)] [] S0 (rx_pi zr zS)
  refine ev_iload_n (i := 1) 1 dX9_kindAt_0 rfl rfl rfl ?_
  refine ev_if_lt 21 4 dX9_kindAt_1 rfl rfl (fun c3 => ?_) (fun c3 => ?_)
  · replace h := rx_if_t c3 h
    refine ev_iconst (v := 1) 22 dX9_kindAt_21 (by decide) rfl ?_
    exact ev_ireturn dX9_kindAt_22 rfl (rx_ret_i h)
  · replace h := rx_if_f c3 h
    refine ev_iload_n (i := 1) 5 dX9_kindAt_4 rfl rfl rfl ?_
    refine ev_aload_n (i := 0) 6 dX9_kindAt_5 rfl rfl rfl ?_
    refine ev_get (v := .int (S0.1 14 4)) 9 dX9_kindAt_6 dk_14 fl_9_49 (by decide) rfl rfl rfl ?_
    refine ev_icmp_ge 21 12 dX9_kindAt_9 rfl rfl (fun c4 => ?_) (fun c4 => ?_)
    · replace h := rx_if_t c4 h
      refine ev_iconst (v := 1) 22 dX9_kindAt_21 (by decide) rfl ?_
      exact ev_ireturn dX9_kindAt_22 rfl (rx_ret_i h)
    · replace h := rx_if_f c4 h
      refine ev_aload_n (i := 0) 13 dX9_kindAt_12 rfl rfl rfl ?_
      refine ev_get (v := .ref 16) 16 dX9_kindAt_13 dk_14 fl_9_15 (by decide) rfl rfl rfl ?_
      refine ev_iload_n (i := 1) 17 dX9_kindAt_16 rfl rfl rfl ?_
      obtain ⟨g5, h⟩ := rx_gd_o h
      refine ex_iald _ 18 dX9_kindAt_17 dk_16 g5 rfl rfl ?_
      refine ev_goto 22 dX9_kindAt_18 rfl ?_
      exact ev_ireturn dX9_kindAt_22 rfl (rx_ret_i h)

def f_X4_take (x1 : Int32) (S0 : rx_S) : Option (Int32 × rx_S) := rx_bd (f_X9_kindAt (S0.1 13 5) S0) (fun x4 S3 => if x4 = x1 then (if (S3.1 13 5) < 400 then (rx_let (rx_ui S3 13 5 ((S3.1 13 5) + 1)) (fun S8 => some (1, S8))) else (rx_let (rx_ui S3 13 6 2) (fun S9 => some (0, S9)))) else (rx_let (rx_ui S3 13 6 1) (fun S10 => some (0, S10))))
set_option maxHeartbeats 4000000 in
set_option maxRecDepth 20000 in
theorem em_X4_take {d : Nat} {x1 : Int32} {S0 : rx_S} {zr : Int32} {zS : rx_S} (h : f_X4_take x1 S0 = some (zr, zS)) : EM gC (d + 1) mX4_take [.ref 13, .int x1] S0 (rx_pi zr zS) := by
  unfold f_X4_take at h
  show EV gC (d + 1) mX4_take 0 [some (.ref 13), some (.int x1)] [] S0 (rx_pi zr zS)
  refine ev_aload_n (i := 0) 1 dX4_take_0 rfl rfl rfl ?_
  refine ev_get (v := .ref 14) 4 dX4_take_1 dk_13 fl_4_12 (by decide) rfl rfl rfl ?_
  refine ev_aload_n (i := 0) 5 dX4_take_4 rfl rfl rfl ?_
  refine ev_get (v := .int (S0.1 13 5)) 8 dX4_take_5 dk_13 fl_4_44 (by decide) rfl rfl rfl ?_
  obtain ⟨x4, S3, g5, h⟩ := rx_bd_o h
  refine ev_cVi1 11 dX4_take_8 (em_X9_kindAt g5) mm_X9_kindAt mv_X9_kindAt lk_4_56 dk_14 (by decide) rfl (Nat.le_of_ble_eq_true rfl) (Nat.le_of_ble_eq_true rfl) rfl ?_
  refine ev_iload_n (i := 1) 12 dX4_take_11 rfl rfl rfl ?_
  refine ev_icmp_eq 22 15 dX4_take_12 rfl rfl (fun c6 => ?_) (fun c6 => ?_)
  · replace h := rx_if_t c6 h
    refine ev_aload_n (i := 0) 23 dX4_take_22 rfl rfl rfl ?_
    refine ev_get (v := .int (S3.1 13 5)) 26 dX4_take_23 dk_13 fl_4_44 (by decide) rfl rfl rfl ?_
    refine ev_sipush (v := 400) 29 dX4_take_26 (by decide) rfl ?_
    refine ev_icmp_lt 39 32 dX4_take_29 rfl rfl (fun c7 => ?_) (fun c7 => ?_)
    · replace h := rx_if_t c7 h
      refine ev_aload_n (i := 0) 40 dX4_take_39 rfl rfl rfl ?_
      refine ev_dup 41 dX4_take_40 rfl rfl ?_
      refine ev_get (v := .int (S3.1 13 5)) 44 dX4_take_41 dk_13 fl_4_44 (by decide) rfl rfl rfl ?_
      refine ev_iconst (v := 1) 45 dX4_take_44 (by decide) rfl ?_
      refine ev_iadd 46 dX4_take_45 rfl ?_
      obtain ⟨S8, eS8, h⟩ := rx_let_o h
      refine ex_put 49 dX4_take_46 dk_13 fl_4_44 pp_4_5 (by decide) rfl rfl rfl rfl eS8 ?_
      refine ev_iconst (v := 1) 50 dX4_take_49 (by decide) rfl ?_
      exact ev_zreturn dX4_take_50 rfl (by decide) (rx_ret_i h)
    · replace h := rx_if_f c7 h
      refine ev_aload_n (i := 0) 33 dX4_take_32 rfl rfl rfl ?_
      refine ev_iconst (v := 2) 34 dX4_take_33 (by decide) rfl ?_
      obtain ⟨S9, eS9, h⟩ := rx_let_o h
      refine ex_put 37 dX4_take_34 dk_13 fl_4_47 pp_4_6 (by decide) rfl rfl rfl rfl eS9 ?_
      refine ev_iconst (v := 0) 38 dX4_take_37 (by decide) rfl ?_
      exact ev_zreturn dX4_take_38 rfl (by decide) (rx_ret_i h)
  · replace h := rx_if_f c6 h
    refine ev_aload_n (i := 0) 16 dX4_take_15 rfl rfl rfl ?_
    refine ev_iconst (v := 1) 17 dX4_take_16 (by decide) rfl ?_
    obtain ⟨S10, eS10, h⟩ := rx_let_o h
    refine ex_put 20 dX4_take_17 dk_13 fl_4_47 pp_4_6 (by decide) rfl rfl rfl rfl eS10 ?_
    refine ev_iconst (v := 0) 21 dX4_take_20 (by decide) rfl ?_
    exact ev_zreturn dX4_take_21 rfl (by decide) (rx_ret_i h)

def f_X9_valueAt (x1 : Int32) (S0 : rx_S) : Option (Int64 × rx_S) := if x1 < 0 then (some ((0 : Int64), S0)) else (if (S0.1 14 4) ≤ x1 then (some ((0 : Int64), S0)) else (rx_gd x1 401 (some ((S0.2 18 (Int32.toNatClampNeg x1)), S0))))
set_option maxHeartbeats 4000000 in
set_option maxRecDepth 20000 in
theorem em_X9_valueAt {d : Nat} {x1 : Int32} {S0 : rx_S} {zr : Int64} {zS : rx_S} (h : f_X9_valueAt x1 S0 = some (zr, zS)) : EM gC d mX9_valueAt [.ref 14, .int x1] S0 (rx_pl zr zS) := by
  unfold f_X9_valueAt at h
  show EV gC d mX9_valueAt 0 [some (.ref 14), some (.int x1)] [] S0 (rx_pl zr zS)
  refine ev_iload_n (i := 1) 1 dX9_valueAt_0 rfl rfl rfl ?_
  refine ev_if_lt 21 4 dX9_valueAt_1 rfl rfl (fun c3 => ?_) (fun c3 => ?_)
  · replace h := rx_if_t c3 h
    refine ev_lconst (v := 0) 22 dX9_valueAt_21 (by decide) rfl ?_
    exact ev_lreturn dX9_valueAt_22 rfl (rx_ret_l h)
  · replace h := rx_if_f c3 h
    refine ev_iload_n (i := 1) 5 dX9_valueAt_4 rfl rfl rfl ?_
    refine ev_aload_n (i := 0) 6 dX9_valueAt_5 rfl rfl rfl ?_
    refine ev_get (v := .int (S0.1 14 4)) 9 dX9_valueAt_6 dk_14 fl_9_49 (by decide) rfl rfl rfl ?_
    refine ev_icmp_ge 21 12 dX9_valueAt_9 rfl rfl (fun c4 => ?_) (fun c4 => ?_)
    · replace h := rx_if_t c4 h
      refine ev_lconst (v := 0) 22 dX9_valueAt_21 (by decide) rfl ?_
      exact ev_lreturn dX9_valueAt_22 rfl (rx_ret_l h)
    · replace h := rx_if_f c4 h
      refine ev_aload_n (i := 0) 13 dX9_valueAt_12 rfl rfl rfl ?_
      refine ev_get (v := .ref 18) 16 dX9_valueAt_13 dk_14 fl_9_22 (by decide) rfl rfl rfl ?_
      refine ev_iload_n (i := 1) 17 dX9_valueAt_16 rfl rfl rfl ?_
      obtain ⟨g5, h⟩ := rx_gd_o h
      refine ex_lald _ 18 dX9_valueAt_17 dk_18 g5 rfl rfl ?_
      refine ev_goto 22 dX9_valueAt_18 rfl ?_
      exact ev_lreturn dX9_valueAt_22 rfl (rx_ret_l h)

def f_X4_taken (S0 : rx_S) : Option (Int32 × rx_S) := rx_bd (f_X9_valueAt ((S0.1 13 5) - 1) S0) (fun x3 S2 => some ((Int64.toInt32 x3), S2))
set_option maxHeartbeats 4000000 in
set_option maxRecDepth 20000 in
theorem em_X4_taken {d : Nat} {S0 : rx_S} {zr : Int32} {zS : rx_S} (h : f_X4_taken S0 = some (zr, zS)) : EM gC (d + 1) mX4_taken [.ref 13] S0 (rx_pi zr zS) := by
  unfold f_X4_taken at h
  show EV gC (d + 1) mX4_taken 0 [some (.ref 13)] [] S0 (rx_pi zr zS)
  refine ev_aload_n (i := 0) 1 dX4_taken_0 rfl rfl rfl ?_
  refine ev_get (v := .ref 14) 4 dX4_taken_1 dk_13 fl_4_12 (by decide) rfl rfl rfl ?_
  refine ev_aload_n (i := 0) 5 dX4_taken_4 rfl rfl rfl ?_
  refine ev_get (v := .int (S0.1 13 5)) 8 dX4_taken_5 dk_13 fl_4_44 (by decide) rfl rfl rfl ?_
  refine ev_iconst (v := 1) 9 dX4_taken_8 (by decide) rfl ?_
  refine ev_isub 10 dX4_taken_9 rfl ?_
  obtain ⟨x3, S2, g4, h⟩ := rx_bd_o h
  refine ev_cVl1 13 dX4_taken_10 (em_X9_valueAt g4) mm_X9_valueAt mv_X9_valueAt lk_4_84 dk_14 (by decide) rfl (Nat.le_of_ble_eq_true rfl) (Nat.le_of_ble_eq_true rfl) rfl ?_
  refine ev_l2i 14 dX4_taken_13 rfl ?_
  exact ev_ireturn dX4_taken_14 rfl (rx_ret_i h)

def f_X4_takeNumber (x1 : Int32) (S0 : rx_S) : Option (Int32 × rx_S) := rx_bd (f_X4_take 3 S0) (fun x4 S3 => if x4 = 0 then (some (0, S3)) else (rx_bd (f_X4_taken S3) (fun x8 S7 => if x8 ≤ x1 then (some (1, S7)) else (rx_bd (f_X4_blame 5 S7) (fun x12 S11 => some (1, S11))))))
set_option maxHeartbeats 4000000 in
set_option maxRecDepth 20000 in
theorem em_X4_takeNumber {d : Nat} {x1 : Int32} {S0 : rx_S} {zr : Int32} {zS : rx_S} (h : f_X4_takeNumber x1 S0 = some (zr, zS)) : EM gC (d + 2) mX4_takeNumber [.ref 13, .int x1] S0 (rx_pi zr zS) := by
  unfold f_X4_takeNumber at h
  show EV gC (d + 2) mX4_takeNumber 0 [some (.ref 13), some (.int x1)] [] S0 (rx_pi zr zS)
  refine ev_aload_n (i := 0) 1 dX4_takeNumber_0 rfl rfl rfl ?_
  refine ev_iconst (v := 3) 2 dX4_takeNumber_1 (by decide) rfl ?_
  obtain ⟨x4, S3, g5, h⟩ := rx_bd_o h
  refine ev_cVi1 5 dX4_takeNumber_2 (em_X4_take g5) mm_X4_take mv_X4_take lk_4_73 dk_13 (by decide) rfl (Nat.le_of_ble_eq_true rfl) (Nat.le_of_ble_eq_true rfl) rfl ?_
  refine ev_if_ne 10 8 dX4_takeNumber_5 rfl rfl (fun c6 => ?_) (fun c6 => ?_)
  · replace h := rx_if_f c6 h
    refine ev_aload_n (i := 0) 11 dX4_takeNumber_10 rfl rfl rfl ?_
    obtain ⟨x8, S7, g9, h⟩ := rx_bd_o h
    refine ev_cVi0 14 dX4_takeNumber_11 (em_X4_taken g9) mm_X4_taken mv_X4_taken lk_4_76 dk_13 (by decide) rfl (Nat.le_of_ble_eq_true rfl) (Nat.le_of_ble_eq_true rfl) rfl ?_
    refine ev_iload_n (i := 1) 15 dX4_takeNumber_14 rfl rfl rfl ?_
    refine ev_icmp_le 23 18 dX4_takeNumber_15 rfl rfl (fun c10 => ?_) (fun c10 => ?_)
    · replace h := rx_if_t c10 h
      refine ev_iconst (v := 1) 24 dX4_takeNumber_23 (by decide) rfl ?_
      exact ev_zreturn dX4_takeNumber_24 rfl (by decide) (rx_ret_i h)
    · replace h := rx_if_f c10 h
      refine ev_aload_n (i := 0) 19 dX4_takeNumber_18 rfl rfl rfl ?_
      refine ev_iconst (v := 5) 20 dX4_takeNumber_19 (by decide) rfl ?_
      obtain ⟨x12, S11, g13, h⟩ := rx_bd_o h
      refine ev_cVv1 23 dX4_takeNumber_20 (em_X4_blame g13) mm_X4_blame mv_X4_blame lk_4_80 dk_13 (by decide) rfl (Nat.le_of_ble_eq_true rfl) (Nat.le_of_ble_eq_true rfl) rfl ?_
      refine ev_iconst (v := 1) 24 dX4_takeNumber_23 (by decide) rfl ?_
      exact ev_zreturn dX4_takeNumber_24 rfl (by decide) (rx_ret_i h)
  · replace h := rx_if_t c6 h
    refine ev_iconst (v := 0) 9 dX4_takeNumber_8 (by decide) rfl ?_
    exact ev_zreturn dX4_takeNumber_9 rfl (by decide) (rx_ret_i h)

def f_X4_readSeed (S0 : rx_S) : Option (Int32 × rx_S) := rx_bd (f_X4_take 139 S0) (fun x3 S2 => if x3 = 0 then (some (0, S2)) else (rx_bd (f_X4_takeNumber 9999 S2) (fun x7 S6 => if x7 = 0 then (some (0, S6)) else (rx_bd (f_X4_taken S6) (fun x11 S10 => rx_let (rx_ui S10 19 10 x11) (fun S13 => rx_bd (f_X4_take 59 S13) (fun x15 S14 => rx_bl x15 (some (x15, S14)))))))))
set_option maxHeartbeats 4000000 in
set_option maxRecDepth 20000 in
theorem em_X4_readSeed {d : Nat} {S0 : rx_S} {zr : Int32} {zS : rx_S} (h : f_X4_readSeed S0 = some (zr, zS)) : EM gC (d + 3) mX4_readSeed [.ref 13] S0 (rx_pi zr zS) := by
  unfold f_X4_readSeed at h
  show EV gC (d + 3) mX4_readSeed 0 [some (.ref 13)] [] S0 (rx_pi zr zS)
  refine ev_aload_n (i := 0) 1 dX4_readSeed_0 rfl rfl rfl ?_
  refine ev_sipush (v := 139) 4 dX4_readSeed_1 (by decide) rfl ?_
  obtain ⟨x3, S2, g4, h⟩ := rx_bd_o h
  refine ev_cVi1 7 dX4_readSeed_4 (em_X4_take g4) mm_X4_take mv_X4_take lk_4_73 dk_13 (by decide) rfl (Nat.le_of_ble_eq_true rfl) (Nat.le_of_ble_eq_true rfl) rfl ?_
  refine ev_if_eq 20 10 dX4_readSeed_7 rfl rfl (fun c5 => ?_) (fun c5 => ?_)
  · replace h := rx_if_t c5 h
    refine ev_iconst (v := 0) 21 dX4_readSeed_20 (by decide) rfl ?_
    exact ev_zreturn dX4_readSeed_21 rfl (by decide) (rx_ret_i h)
  · replace h := rx_if_f c5 h
    refine ev_aload_n (i := 0) 11 dX4_readSeed_10 rfl rfl rfl ?_
    refine ev_sipush (v := 9999) 14 dX4_readSeed_11 (by decide) rfl ?_
    obtain ⟨x7, S6, g8, h⟩ := rx_bd_o h
    refine ev_cVi1 17 dX4_readSeed_14 (em_X4_takeNumber g8) mm_X4_takeNumber mv_X4_takeNumber lk_4_113 dk_13 (by decide) rfl (Nat.le_of_ble_eq_true rfl) (Nat.le_of_ble_eq_true rfl) rfl ?_
    refine ev_if_ne 22 20 dX4_readSeed_17 rfl rfl (fun c9 => ?_) (fun c9 => ?_)
    · replace h := rx_if_f c9 h
      refine ev_aload_n (i := 0) 23 dX4_readSeed_22 rfl rfl rfl ?_
      refine ev_get (v := .ref 19) 26 dX4_readSeed_23 dk_13 fl_4_21 (by decide) rfl rfl rfl ?_
      refine ev_aload_n (i := 0) 27 dX4_readSeed_26 rfl rfl rfl ?_
      obtain ⟨x11, S10, g12, h⟩ := rx_bd_o h
      refine ev_cVi0 30 dX4_readSeed_27 (em_X4_taken g12) mm_X4_taken mv_X4_taken lk_4_76 dk_13 (by decide) rfl (Nat.le_of_ble_eq_true rfl) (Nat.le_of_ble_eq_true rfl) rfl ?_
      obtain ⟨S13, eS13, h⟩ := rx_let_o h
      refine ex_put 33 dX4_readSeed_30 dk_19 fl_4_148 pp_8_10 (by decide) rfl rfl rfl rfl eS13 ?_
      refine ev_aload_n (i := 0) 34 dX4_readSeed_33 rfl rfl rfl ?_
      refine ev_bipush (v := 59) 36 dX4_readSeed_34 (by decide) rfl ?_
      obtain ⟨x15, S14, g16, h⟩ := rx_bd_o h
      refine ev_cVi1 39 dX4_readSeed_36 (em_X4_take g16) mm_X4_take mv_X4_take lk_4_73 dk_13 (by decide) rfl (Nat.le_of_ble_eq_true rfl) (Nat.le_of_ble_eq_true rfl) rfl ?_
      obtain ⟨g17, h⟩ := rx_bl_o h
      exact ev_zreturn dX4_readSeed_39 rfl (rx_nb g17) (rx_ret_i h)
    · replace h := rx_if_t c9 h
      refine ev_iconst (v := 0) 21 dX4_readSeed_20 (by decide) rfl ?_
      exact ev_zreturn dX4_readSeed_21 rfl (by decide) (rx_ret_i h)

def f_X4_readFine (S0 : rx_S) : Option (Int32 × rx_S) := rx_bd (f_X4_take 138 S0) (fun x3 S2 => if x3 = 0 then (some (0, S2)) else (rx_bd (f_X4_takeNumber 99 S2) (fun x7 S6 => if x7 = 0 then (some (0, S6)) else (rx_bd (f_X4_taken S6) (fun x11 S10 => rx_let (rx_ui S10 19 9 x11) (fun S13 => rx_bd (f_X4_take 59 S13) (fun x15 S14 => rx_bl x15 (some (x15, S14)))))))))
set_option maxHeartbeats 4000000 in
set_option maxRecDepth 20000 in
theorem em_X4_readFine {d : Nat} {S0 : rx_S} {zr : Int32} {zS : rx_S} (h : f_X4_readFine S0 = some (zr, zS)) : EM gC (d + 3) mX4_readFine [.ref 13] S0 (rx_pi zr zS) := by
  unfold f_X4_readFine at h
  show EV gC (d + 3) mX4_readFine 0 [some (.ref 13)] [] S0 (rx_pi zr zS)
  refine ev_aload_n (i := 0) 1 dX4_readFine_0 rfl rfl rfl ?_
  refine ev_sipush (v := 138) 4 dX4_readFine_1 (by decide) rfl ?_
  obtain ⟨x3, S2, g4, h⟩ := rx_bd_o h
  refine ev_cVi1 7 dX4_readFine_4 (em_X4_take g4) mm_X4_take mv_X4_take lk_4_73 dk_13 (by decide) rfl (Nat.le_of_ble_eq_true rfl) (Nat.le_of_ble_eq_true rfl) rfl ?_
  refine ev_if_eq 19 10 dX4_readFine_7 rfl rfl (fun c5 => ?_) (fun c5 => ?_)
  · replace h := rx_if_t c5 h
    refine ev_iconst (v := 0) 20 dX4_readFine_19 (by decide) rfl ?_
    exact ev_zreturn dX4_readFine_20 rfl (by decide) (rx_ret_i h)
  · replace h := rx_if_f c5 h
    refine ev_aload_n (i := 0) 11 dX4_readFine_10 rfl rfl rfl ?_
    refine ev_bipush (v := 99) 13 dX4_readFine_11 (by decide) rfl ?_
    obtain ⟨x7, S6, g8, h⟩ := rx_bd_o h
    refine ev_cVi1 16 dX4_readFine_13 (em_X4_takeNumber g8) mm_X4_takeNumber mv_X4_takeNumber lk_4_113 dk_13 (by decide) rfl (Nat.le_of_ble_eq_true rfl) (Nat.le_of_ble_eq_true rfl) rfl ?_
    refine ev_if_ne 21 19 dX4_readFine_16 rfl rfl (fun c9 => ?_) (fun c9 => ?_)
    · replace h := rx_if_f c9 h
      refine ev_aload_n (i := 0) 22 dX4_readFine_21 rfl rfl rfl ?_
      refine ev_get (v := .ref 19) 25 dX4_readFine_22 dk_13 fl_4_21 (by decide) rfl rfl rfl ?_
      refine ev_aload_n (i := 0) 26 dX4_readFine_25 rfl rfl rfl ?_
      obtain ⟨x11, S10, g12, h⟩ := rx_bd_o h
      refine ev_cVi0 29 dX4_readFine_26 (em_X4_taken g12) mm_X4_taken mv_X4_taken lk_4_76 dk_13 (by decide) rfl (Nat.le_of_ble_eq_true rfl) (Nat.le_of_ble_eq_true rfl) rfl ?_
      obtain ⟨S13, eS13, h⟩ := rx_let_o h
      refine ex_put 32 dX4_readFine_29 dk_19 fl_4_145 pp_8_9 (by decide) rfl rfl rfl rfl eS13 ?_
      refine ev_aload_n (i := 0) 33 dX4_readFine_32 rfl rfl rfl ?_
      refine ev_bipush (v := 59) 35 dX4_readFine_33 (by decide) rfl ?_
      obtain ⟨x15, S14, g16, h⟩ := rx_bd_o h
      refine ev_cVi1 38 dX4_readFine_35 (em_X4_take g16) mm_X4_take mv_X4_take lk_4_73 dk_13 (by decide) rfl (Nat.le_of_ble_eq_true rfl) (Nat.le_of_ble_eq_true rfl) rfl ?_
      obtain ⟨g17, h⟩ := rx_bl_o h
      exact ev_zreturn dX4_readFine_38 rfl (rx_nb g17) (rx_ret_i h)
    · replace h := rx_if_t c9 h
      refine ev_iconst (v := 0) 20 dX4_readFine_19 (by decide) rfl ?_
      exact ev_zreturn dX4_readFine_20 rfl (by decide) (rx_ret_i h)

def f_X4_findName_L2 (N : Nat) : Nat → Int64 → Int32 → rx_S → Option (Int32 × rx_S)
  | 0, _, _, _ => none
  | n + 1, x3, x4, S5 => if (S5.1 13 4) ≤ x4 then (some ((-1), S5)) else (if (10 : Int32) ≤ x4 then (some ((-1), S5)) else (rx_gd x4 10 (if (lg_cmp (S5.2 30 (Int32.toNatClampNeg x4)) x3) = 0 then (some (x4, S5)) else (rx_let (x4 + 1) (fun x10 => f_X4_findName_L2 N n x3 x10 S5)))))
def f_X4_findName (N : Nat) (x1 : Int64) (S0 : rx_S) : Option (Int32 × rx_S) := f_X4_findName_L2 N N x1 0 S0
set_option maxHeartbeats 4000000 in
set_option maxRecDepth 20000 in
theorem em_X4_findName_L2 {d N : Nat} {zr : Int32} {zS : rx_S} : ∀ (n : Nat) (x3 : Int64) (x4 : Int32) (S5 : rx_S), f_X4_findName_L2 N n x3 x4 S5 = some (zr, zS) → EV gC d mX4_findName 2 [some (.ref 13), some (.long x3), none, some (.int x4)] [] S5 (rx_pi zr zS) := by
  intro n
  induction n with
  | zero => intro x3 x4 S5 h; cases h
  | succ n ih =>
    intro x3 x4 S5 h
    rw [f_X4_findName_L2] at h
    refine ev_iload_n (i := 3) 3 dX4_findName_2 rfl rfl rfl ?_
    refine ev_aload_n (i := 0) 4 dX4_findName_3 rfl rfl rfl ?_
    refine ev_get (v := .int (S5.1 13 4)) 7 dX4_findName_4 dk_13 fl_4_40 (by decide) rfl rfl rfl ?_
    refine ev_icmp_ge 38 10 dX4_findName_7 rfl rfl (fun c6 => ?_) (fun c6 => ?_)
    · replace h := rx_if_t c6 h
      refine ev_iconst (v := (-1)) 39 dX4_findName_38 (by decide) rfl ?_
      exact ev_ireturn dX4_findName_39 rfl (rx_ret_i h)
    · replace h := rx_if_f c6 h
      refine ev_iload_n (i := 3) 11 dX4_findName_10 rfl rfl rfl ?_
      refine ev_aload_n (i := 0) 12 dX4_findName_11 rfl rfl rfl ?_
      refine ev_get (v := .ref 30) 15 dX4_findName_12 dk_13 fl_4_25 (by decide) rfl rfl rfl ?_
      refine ev_alenL (v := 10) 16 dX4_findName_15 dk_30 (by decide) rfl ?_
      refine ev_icmp_ge 38 19 dX4_findName_16 rfl rfl (fun c7 => ?_) (fun c7 => ?_)
      · replace h := rx_if_t c7 h
        refine ev_iconst (v := (-1)) 39 dX4_findName_38 (by decide) rfl ?_
        exact ev_ireturn dX4_findName_39 rfl (rx_ret_i h)
      · replace h := rx_if_f c7 h
        refine ev_aload_n (i := 0) 20 dX4_findName_19 rfl rfl rfl ?_
        refine ev_get (v := .ref 30) 23 dX4_findName_20 dk_13 fl_4_25 (by decide) rfl rfl rfl ?_
        refine ev_iload_n (i := 3) 24 dX4_findName_23 rfl rfl rfl ?_
        obtain ⟨g8, h⟩ := rx_gd_o h
        refine ex_lald _ 25 dX4_findName_24 dk_30 g8 rfl rfl ?_
        refine ev_lload_n (i := 1) 26 dX4_findName_25 rfl rfl rfl ?_
        refine ev_lcmp 27 dX4_findName_26 rfl ?_
        refine ev_if_ne 32 30 dX4_findName_27 rfl rfl (fun c9 => ?_) (fun c9 => ?_)
        · replace h := rx_if_f c9 h
          obtain ⟨x10, ex10, h⟩ := rx_let_o h
          refine ev_iinc (v := x10) (ls' := [some (.ref 13), some (.long x3), none, some (.int x10)]) 35 dX4_findName_32 rfl (by rw [ex10]; rfl) (Nat.le_of_ble_eq_true rfl) rfl rfl ?_
          refine ev_goto 2 dX4_findName_35 rfl ?_
          exact (ih _ _ _ h).fewer (rx_le_s (rx_le_s (rx_le_n (rx_le_s rx_le_0))))
        · replace h := rx_if_t c9 h
          refine ev_iload_n (i := 3) 31 dX4_findName_30 rfl rfl rfl ?_
          exact ev_ireturn dX4_findName_31 rfl (rx_ret_i h)

set_option maxHeartbeats 4000000 in
set_option maxRecDepth 20000 in
theorem em_X4_findName {d N : Nat} {x1 : Int64} {S0 : rx_S} {zr : Int32} {zS : rx_S} (h : f_X4_findName N x1 S0 = some (zr, zS)) : EM gC d mX4_findName [.ref 13, .long x1] S0 (rx_pi zr zS) := by
  unfold f_X4_findName at h
  show EV gC d mX4_findName 0 [some (.ref 13), some (.long x1), none, none] [] S0 (rx_pi zr zS)
  refine ev_iconst (v := 0) 1 dX4_findName_0 (by decide) rfl ?_
  refine ev_istore_n (ls' := [some (.ref 13), some (.long x1), none, some (.int 0)]) 2 dX4_findName_1 rfl (Nat.le_of_ble_eq_true rfl) rfl rfl ?_
  exact (em_X4_findName_L2 _ _ _ _ h).fewer (rx_le_s (rx_le_s (rx_le_n (rx_le_s rx_le_0))))

def f_X4_takeNewName (N : Nat) (x1 : Int32) (S0 : rx_S) : Option (Int32 × rx_S) := rx_bd (f_X4_take 2 S0) (fun x4 S3 => if x4 = 0 then (some (0, S3)) else (rx_bd (f_X9_valueAt ((S3.1 13 5) - 1) S3) (fun x8 S7 => rx_bd (f_X4_findName N x8 S7) (fun x11 S10 => if x11 = (-1) then (if (10 : Int32) ≤ (S10.1 13 4) then (some (1, S10)) else (if (10 : Int32) ≤ (S10.1 13 4) then (some (1, S10)) else (rx_gd (S10.1 13 4) 10 (rx_let (rx_uj S10 30 (Int32.toNatClampNeg (S10.1 13 4)) x8) (fun S17 => rx_gd (S17.1 13 4) 10 (rx_let (rx_ui S17 31 (Int32.toNatClampNeg (S17.1 13 4)) x1) (fun S19 => rx_let (rx_ui S19 13 4 ((S19.1 13 4) + 1)) (fun S20 => some (1, S20))))))))) else (rx_bd (f_X4_blame 3 S10) (fun x22 S21 => some (1, S21)))))))
set_option maxHeartbeats 4000000 in
set_option maxRecDepth 20000 in
theorem em_X4_takeNewName {d N : Nat} {x1 : Int32} {S0 : rx_S} {zr : Int32} {zS : rx_S} (h : f_X4_takeNewName N x1 S0 = some (zr, zS)) : EM gC (d + 2) mX4_takeNewName [.ref 13, .int x1] S0 (rx_pi zr zS) := by
  unfold f_X4_takeNewName at h
  show EV gC (d + 2) mX4_takeNewName 0 [some (.ref 13), some (.int x1), none, none] [] S0 (rx_pi zr zS)
  refine ev_aload_n (i := 0) 1 dX4_takeNewName_0 rfl rfl rfl ?_
  refine ev_iconst (v := 2) 2 dX4_takeNewName_1 (by decide) rfl ?_
  obtain ⟨x4, S3, g5, h⟩ := rx_bd_o h
  refine ev_cVi1 5 dX4_takeNewName_2 (em_X4_take g5) mm_X4_take mv_X4_take lk_4_73 dk_13 (by decide) rfl (Nat.le_of_ble_eq_true rfl) (Nat.le_of_ble_eq_true rfl) rfl ?_
  refine ev_if_ne 10 8 dX4_takeNewName_5 rfl rfl (fun c6 => ?_) (fun c6 => ?_)
  · replace h := rx_if_f c6 h
    refine ev_aload_n (i := 0) 11 dX4_takeNewName_10 rfl rfl rfl ?_
    refine ev_get (v := .ref 14) 14 dX4_takeNewName_11 dk_13 fl_4_12 (by decide) rfl rfl rfl ?_
    refine ev_aload_n (i := 0) 15 dX4_takeNewName_14 rfl rfl rfl ?_
    refine ev_get (v := .int (S3.1 13 5)) 18 dX4_takeNewName_15 dk_13 fl_4_44 (by decide) rfl rfl rfl ?_
    refine ev_iconst (v := 1) 19 dX4_takeNewName_18 (by decide) rfl ?_
    refine ev_isub 20 dX4_takeNewName_19 rfl ?_
    obtain ⟨x8, S7, g9, h⟩ := rx_bd_o h
    refine ev_cVl1 23 dX4_takeNewName_20 (em_X9_valueAt g9) mm_X9_valueAt mv_X9_valueAt lk_4_84 dk_14 (by decide) rfl (Nat.le_of_ble_eq_true rfl) (Nat.le_of_ble_eq_true rfl) rfl ?_
    refine ev_lstore_n (ls' := [some (.ref 13), some (.int x1), some (.long x8), none]) 24 dX4_takeNewName_23 rfl (Nat.le_of_ble_eq_true rfl) rfl rfl ?_
    refine ev_aload_n (i := 0) 25 dX4_takeNewName_24 rfl rfl rfl ?_
    refine ev_lload_n (i := 2) 26 dX4_takeNewName_25 rfl rfl rfl ?_
    obtain ⟨x11, S10, g12, h⟩ := rx_bd_o h
    refine ev_cVi1 29 dX4_takeNewName_26 (em_X4_findName g12) mm_X4_findName mv_X4_findName lk_4_126 dk_13 (by decide) rfl (Nat.le_of_ble_eq_true rfl) (Nat.le_of_ble_eq_true rfl) rfl ?_
    refine ev_iconst (v := (-1)) 30 dX4_takeNewName_29 (by decide) rfl ?_
    refine ev_icmp_eq 41 33 dX4_takeNewName_30 rfl rfl (fun c13 => ?_) (fun c13 => ?_)
    · replace h := rx_if_t c13 h
      refine ev_aload_n (i := 0) 42 dX4_takeNewName_41 rfl rfl rfl ?_
      refine ev_get (v := .int (S10.1 13 4)) 45 dX4_takeNewName_42 dk_13 fl_4_40 (by decide) rfl rfl rfl ?_
      refine ev_aload_n (i := 0) 46 dX4_takeNewName_45 rfl rfl rfl ?_
      refine ev_get (v := .ref 30) 49 dX4_takeNewName_46 dk_13 fl_4_25 (by decide) rfl rfl rfl ?_
      refine ev_alenL (v := 10) 50 dX4_takeNewName_49 dk_30 (by decide) rfl ?_
      refine ev_icmp_ge 95 53 dX4_takeNewName_50 rfl rfl (fun c14 => ?_) (fun c14 => ?_)
      · replace h := rx_if_t c14 h
        refine ev_iconst (v := 1) 96 dX4_takeNewName_95 (by decide) rfl ?_
        exact ev_zreturn dX4_takeNewName_96 rfl (by decide) (rx_ret_i h)
      · replace h := rx_if_f c14 h
        refine ev_aload_n (i := 0) 54 dX4_takeNewName_53 rfl rfl rfl ?_
        refine ev_get (v := .int (S10.1 13 4)) 57 dX4_takeNewName_54 dk_13 fl_4_40 (by decide) rfl rfl rfl ?_
        refine ev_aload_n (i := 0) 58 dX4_takeNewName_57 rfl rfl rfl ?_
        refine ev_get (v := .ref 31) 61 dX4_takeNewName_58 dk_13 fl_4_29 (by decide) rfl rfl rfl ?_
        refine ev_alen (v := 10) 62 dX4_takeNewName_61 dk_31 (by decide) (by decide) rfl ?_
        refine ev_icmp_ge 95 65 dX4_takeNewName_62 rfl rfl (fun c15 => ?_) (fun c15 => ?_)
        · replace h := rx_if_t c15 h
          refine ev_iconst (v := 1) 96 dX4_takeNewName_95 (by decide) rfl ?_
          exact ev_zreturn dX4_takeNewName_96 rfl (by decide) (rx_ret_i h)
        · replace h := rx_if_f c15 h
          refine ev_aload_n (i := 0) 66 dX4_takeNewName_65 rfl rfl rfl ?_
          refine ev_get (v := .ref 30) 69 dX4_takeNewName_66 dk_13 fl_4_25 (by decide) rfl rfl rfl ?_
          refine ev_aload_n (i := 0) 70 dX4_takeNewName_69 rfl rfl rfl ?_
          refine ev_get (v := .int (S10.1 13 4)) 73 dX4_takeNewName_70 dk_13 fl_4_40 (by decide) rfl rfl rfl ?_
          refine ev_lload_n (i := 2) 74 dX4_takeNewName_73 rfl rfl rfl ?_
          obtain ⟨g16, h⟩ := rx_gd_o h
          obtain ⟨S17, eS17, h⟩ := rx_let_o h
          refine ex_last _ 75 dX4_takeNewName_74 dk_30 g16 rfl rfl eS17 ?_
          refine ev_aload_n (i := 0) 76 dX4_takeNewName_75 rfl rfl rfl ?_
          refine ev_get (v := .ref 31) 79 dX4_takeNewName_76 dk_13 fl_4_29 (by decide) rfl rfl rfl ?_
          refine ev_aload_n (i := 0) 80 dX4_takeNewName_79 rfl rfl rfl ?_
          refine ev_get (v := .int (S17.1 13 4)) 83 dX4_takeNewName_80 dk_13 fl_4_40 (by decide) rfl rfl rfl ?_
          refine ev_iload_n (i := 1) 84 dX4_takeNewName_83 rfl rfl rfl ?_
          obtain ⟨g18, h⟩ := rx_gd_o h
          obtain ⟨S19, eS19, h⟩ := rx_let_o h
          refine ex_iast _ 85 dX4_takeNewName_84 dk_31 g18 rfl rfl eS19 ?_
          refine ev_aload_n (i := 0) 86 dX4_takeNewName_85 rfl rfl rfl ?_
          refine ev_dup 87 dX4_takeNewName_86 rfl rfl ?_
          refine ev_get (v := .int (S19.1 13 4)) 90 dX4_takeNewName_87 dk_13 fl_4_40 (by decide) rfl rfl rfl ?_
          refine ev_iconst (v := 1) 91 dX4_takeNewName_90 (by decide) rfl ?_
          refine ev_iadd 92 dX4_takeNewName_91 rfl ?_
          obtain ⟨S20, eS20, h⟩ := rx_let_o h
          refine ex_put 95 dX4_takeNewName_92 dk_13 fl_4_40 pp_4_4 (by decide) rfl rfl rfl rfl eS20 ?_
          refine ev_iconst (v := 1) 96 dX4_takeNewName_95 (by decide) rfl ?_
          exact ev_zreturn dX4_takeNewName_96 rfl (by decide) (rx_ret_i h)
    · replace h := rx_if_f c13 h
      refine ev_aload_n (i := 0) 34 dX4_takeNewName_33 rfl rfl rfl ?_
      refine ev_iconst (v := 3) 35 dX4_takeNewName_34 (by decide) rfl ?_
      obtain ⟨x22, S21, g23, h⟩ := rx_bd_o h
      refine ev_cVv1 38 dX4_takeNewName_35 (em_X4_blame g23) mm_X4_blame mv_X4_blame lk_4_80 dk_13 (by decide) rfl (Nat.le_of_ble_eq_true rfl) (Nat.le_of_ble_eq_true rfl) rfl ?_
      refine ev_goto 95 dX4_takeNewName_38 rfl ?_
      refine ev_iconst (v := 1) 96 dX4_takeNewName_95 (by decide) rfl ?_
      exact ev_zreturn dX4_takeNewName_96 rfl (by decide) (rx_ret_i h)
  · replace h := rx_if_t c6 h
    refine ev_iconst (v := 0) 9 dX4_takeNewName_8 (by decide) rfl ?_
    exact ev_zreturn dX4_takeNewName_9 rfl (by decide) (rx_ret_i h)

def f_X8_addThird (k : Nat) (x1 : Int32) (x2 : Int32) (S0 : rx_S) : Option (Unit × rx_S) := if (4 : Int32) ≤ (S0.1 k 8) then (some ((), S0)) else (rx_gd (S0.1 k 8) 4 (rx_let (rx_ui S0 (k + 9) (Int32.toNatClampNeg (S0.1 k 8)) x1) (fun S6 => rx_gd (S6.1 k 8) 4 (rx_let (rx_ui S6 (k + 10) (Int32.toNatClampNeg (S6.1 k 8)) x2) (fun S8 => rx_let (rx_ui S8 k 8 ((S8.1 k 8) + 1)) (fun S9 => some ((), S9)))))))
set_option maxHeartbeats 4000000 in
set_option maxRecDepth 20000 in
theorem em_X8_addThird_2 {d : Nat} {x1 : Int32} {x2 : Int32} {S0 : rx_S} {zr : Unit} {zS : rx_S} (h : f_X8_addThird 2 x1 x2 S0 = some (zr, zS)) : EM gC d mX8_addThird [.ref 2, .int x1, .int x2] S0 (rx_pv zS) := by
  unfold f_X8_addThird at h
  show EV gC d mX8_addThird 0 [some (.ref 2), some (.int x1), some (.int x2)] [] S0 (rx_pv zS)
  refine ev_aload_n (i := 0) 1 dX8_addThird_0 rfl rfl rfl ?_
  refine ev_get (v := .int (S0.1 2 8)) 4 dX8_addThird_1 dk_2 fl_8_44 (by decide) rfl rfl rfl ?_
  refine ev_iconst (v := 4) 5 dX8_addThird_4 (by decide) rfl ?_
  refine ev_icmp_ge 38 8 dX8_addThird_5 rfl rfl (fun c4 => ?_) (fun c4 => ?_)
  · replace h := rx_if_t c4 h
    exact ev_return dX8_addThird_38 rfl (rx_ret_v h)
  · replace h := rx_if_f c4 h
    refine ev_aload_n (i := 0) 9 dX8_addThird_8 rfl rfl rfl ?_
    refine ev_get (v := .ref 11) 12 dX8_addThird_9 dk_2 fl_8_28 (by decide) rfl rfl rfl ?_
    refine ev_aload_n (i := 0) 13 dX8_addThird_12 rfl rfl rfl ?_
    refine ev_get (v := .int (S0.1 2 8)) 16 dX8_addThird_13 dk_2 fl_8_44 (by decide) rfl rfl rfl ?_
    refine ev_iload_n (i := 1) 17 dX8_addThird_16 rfl rfl rfl ?_
    obtain ⟨g5, h⟩ := rx_gd_o h
    obtain ⟨S6, eS6, h⟩ := rx_let_o h
    refine ex_iast _ 18 dX8_addThird_17 dk_11 g5 rfl rfl eS6 ?_
    refine ev_aload_n (i := 0) 19 dX8_addThird_18 rfl rfl rfl ?_
    refine ev_get (v := .ref 12) 22 dX8_addThird_19 dk_2 fl_8_31 (by decide) rfl rfl rfl ?_
    refine ev_aload_n (i := 0) 23 dX8_addThird_22 rfl rfl rfl ?_
    refine ev_get (v := .int (S6.1 2 8)) 26 dX8_addThird_23 dk_2 fl_8_44 (by decide) rfl rfl rfl ?_
    refine ev_iload_n (i := 2) 27 dX8_addThird_26 rfl rfl rfl ?_
    obtain ⟨g7, h⟩ := rx_gd_o h
    obtain ⟨S8, eS8, h⟩ := rx_let_o h
    refine ex_iast _ 28 dX8_addThird_27 dk_12 g7 rfl rfl eS8 ?_
    refine ev_aload_n (i := 0) 29 dX8_addThird_28 rfl rfl rfl ?_
    refine ev_dup 30 dX8_addThird_29 rfl rfl ?_
    refine ev_get (v := .int (S8.1 2 8)) 33 dX8_addThird_30 dk_2 fl_8_44 (by decide) rfl rfl rfl ?_
    refine ev_iconst (v := 1) 34 dX8_addThird_33 (by decide) rfl ?_
    refine ev_iadd 35 dX8_addThird_34 rfl ?_
    obtain ⟨S9, eS9, h⟩ := rx_let_o h
    refine ex_put 38 dX8_addThird_35 dk_2 fl_8_44 pp_8_8 (by decide) rfl rfl rfl rfl eS9 ?_
    exact ev_return dX8_addThird_38 rfl (rx_ret_v h)

set_option maxHeartbeats 4000000 in
set_option maxRecDepth 20000 in
theorem em_X8_addThird_19 {d : Nat} {x1 : Int32} {x2 : Int32} {S0 : rx_S} {zr : Unit} {zS : rx_S} (h : f_X8_addThird 19 x1 x2 S0 = some (zr, zS)) : EM gC d mX8_addThird [.ref 19, .int x1, .int x2] S0 (rx_pv zS) := by
  unfold f_X8_addThird at h
  show EV gC d mX8_addThird 0 [some (.ref 19), some (.int x1), some (.int x2)] [] S0 (rx_pv zS)
  refine ev_aload_n (i := 0) 1 dX8_addThird_0 rfl rfl rfl ?_
  refine ev_get (v := .int (S0.1 19 8)) 4 dX8_addThird_1 dk_19 fl_8_44 (by decide) rfl rfl rfl ?_
  refine ev_iconst (v := 4) 5 dX8_addThird_4 (by decide) rfl ?_
  refine ev_icmp_ge 38 8 dX8_addThird_5 rfl rfl (fun c4 => ?_) (fun c4 => ?_)
  · replace h := rx_if_t c4 h
    exact ev_return dX8_addThird_38 rfl (rx_ret_v h)
  · replace h := rx_if_f c4 h
    refine ev_aload_n (i := 0) 9 dX8_addThird_8 rfl rfl rfl ?_
    refine ev_get (v := .ref 28) 12 dX8_addThird_9 dk_19 fl_8_28 (by decide) rfl rfl rfl ?_
    refine ev_aload_n (i := 0) 13 dX8_addThird_12 rfl rfl rfl ?_
    refine ev_get (v := .int (S0.1 19 8)) 16 dX8_addThird_13 dk_19 fl_8_44 (by decide) rfl rfl rfl ?_
    refine ev_iload_n (i := 1) 17 dX8_addThird_16 rfl rfl rfl ?_
    obtain ⟨g5, h⟩ := rx_gd_o h
    obtain ⟨S6, eS6, h⟩ := rx_let_o h
    refine ex_iast _ 18 dX8_addThird_17 dk_28 g5 rfl rfl eS6 ?_
    refine ev_aload_n (i := 0) 19 dX8_addThird_18 rfl rfl rfl ?_
    refine ev_get (v := .ref 29) 22 dX8_addThird_19 dk_19 fl_8_31 (by decide) rfl rfl rfl ?_
    refine ev_aload_n (i := 0) 23 dX8_addThird_22 rfl rfl rfl ?_
    refine ev_get (v := .int (S6.1 19 8)) 26 dX8_addThird_23 dk_19 fl_8_44 (by decide) rfl rfl rfl ?_
    refine ev_iload_n (i := 2) 27 dX8_addThird_26 rfl rfl rfl ?_
    obtain ⟨g7, h⟩ := rx_gd_o h
    obtain ⟨S8, eS8, h⟩ := rx_let_o h
    refine ex_iast _ 28 dX8_addThird_27 dk_29 g7 rfl rfl eS8 ?_
    refine ev_aload_n (i := 0) 29 dX8_addThird_28 rfl rfl rfl ?_
    refine ev_dup 30 dX8_addThird_29 rfl rfl ?_
    refine ev_get (v := .int (S8.1 19 8)) 33 dX8_addThird_30 dk_19 fl_8_44 (by decide) rfl rfl rfl ?_
    refine ev_iconst (v := 1) 34 dX8_addThird_33 (by decide) rfl ?_
    refine ev_iadd 35 dX8_addThird_34 rfl ?_
    obtain ⟨S9, eS9, h⟩ := rx_let_o h
    refine ex_put 38 dX8_addThird_35 dk_19 fl_8_44 pp_8_8 (by decide) rfl rfl rfl rfl eS9 ?_
    exact ev_return dX8_addThird_38 rfl (rx_ret_v h)

def f_X4_readThird (N : Nat) (S0 : rx_S) : Option (Int32 × rx_S) := if (S0.1 19 8) < 4 then (rx_bd (f_X4_take 130 S0) (fun x4 S3 => if x4 = 0 then (some (0, S3)) else (rx_bd (f_X4_takeNewName N (-1) S3) (fun x8 S7 => if x8 = 0 then (some (0, S7)) else (rx_bd (f_X4_takeNumber 9 S7) (fun x12 S11 => if x12 = 0 then (some (0, S11)) else (rx_bd (f_X4_taken S11) (fun x16 S15 => rx_bd (f_X4_takeNumber 99 S15) (fun x19 S18 => if x19 = 0 then (some (0, S18)) else (rx_bd (f_X4_taken S18) (fun x23 S22 => rx_bd (f_X8_addThird 19 x16 x23 S22) (fun x26 S25 => rx_bd (f_X4_take 59 S25) (fun x29 S28 => rx_bl x29 (some (x29, S28))))))))))))))) else (rx_bd (f_X4_refuse 2 S0) (fun x33 S32 => rx_bl x33 (some (x33, S32))))
set_option maxHeartbeats 4000000 in
set_option maxRecDepth 20000 in
theorem em_X4_readThird {d N : Nat} {S0 : rx_S} {zr : Int32} {zS : rx_S} (h : f_X4_readThird N S0 = some (zr, zS)) : EM gC (d + 3) mX4_readThird [.ref 13] S0 (rx_pi zr zS) := by
  unfold f_X4_readThird at h
  show EV gC (d + 3) mX4_readThird 0 [some (.ref 13), none] [] S0 (rx_pi zr zS)
  refine ev_aload_n (i := 0) 1 dX4_readThird_0 rfl rfl rfl ?_
  refine ev_get (v := .ref 19) 4 dX4_readThird_1 dk_13 fl_4_21 (by decide) rfl rfl rfl ?_
  refine ev_get (v := .int (S0.1 19 8)) 7 dX4_readThird_4 dk_19 fl_4_119 (by decide) rfl rfl rfl ?_
  refine ev_iconst (v := 4) 8 dX4_readThird_7 (by decide) rfl ?_
  refine ev_icmp_lt 17 11 dX4_readThird_8 rfl rfl (fun c2 => ?_) (fun c2 => ?_)
  · replace h := rx_if_t c2 h
    refine ev_aload_n (i := 0) 18 dX4_readThird_17 rfl rfl rfl ?_
    refine ev_sipush (v := 130) 21 dX4_readThird_18 (by decide) rfl ?_
    obtain ⟨x4, S3, g5, h⟩ := rx_bd_o h
    refine ev_cVi1 24 dX4_readThird_21 (em_X4_take g5) mm_X4_take mv_X4_take lk_4_73 dk_13 (by decide) rfl (Nat.le_of_ble_eq_true rfl) (Nat.le_of_ble_eq_true rfl) rfl ?_
    refine ev_if_eq 44 27 dX4_readThird_24 rfl rfl (fun c6 => ?_) (fun c6 => ?_)
    · replace h := rx_if_t c6 h
      refine ev_iconst (v := 0) 45 dX4_readThird_44 (by decide) rfl ?_
      exact ev_zreturn dX4_readThird_45 rfl (by decide) (rx_ret_i h)
    · replace h := rx_if_f c6 h
      refine ev_aload_n (i := 0) 28 dX4_readThird_27 rfl rfl rfl ?_
      refine ev_iconst (v := (-1)) 29 dX4_readThird_28 (by decide) rfl ?_
      obtain ⟨x8, S7, g9, h⟩ := rx_bd_o h
      refine ev_cVi1 32 dX4_readThird_29 (em_X4_takeNewName g9) mm_X4_takeNewName mv_X4_takeNewName lk_4_110 dk_13 (by decide) rfl (Nat.le_of_ble_eq_true rfl) (Nat.le_of_ble_eq_true rfl) rfl ?_
      refine ev_if_eq 44 35 dX4_readThird_32 rfl rfl (fun c10 => ?_) (fun c10 => ?_)
      · replace h := rx_if_t c10 h
        refine ev_iconst (v := 0) 45 dX4_readThird_44 (by decide) rfl ?_
        exact ev_zreturn dX4_readThird_45 rfl (by decide) (rx_ret_i h)
      · replace h := rx_if_f c10 h
        refine ev_aload_n (i := 0) 36 dX4_readThird_35 rfl rfl rfl ?_
        refine ev_bipush (v := 9) 38 dX4_readThird_36 (by decide) rfl ?_
        obtain ⟨x12, S11, g13, h⟩ := rx_bd_o h
        refine ev_cVi1 41 dX4_readThird_38 (em_X4_takeNumber g13) mm_X4_takeNumber mv_X4_takeNumber lk_4_113 dk_13 (by decide) rfl (Nat.le_of_ble_eq_true rfl) (Nat.le_of_ble_eq_true rfl) rfl ?_
        refine ev_if_ne 46 44 dX4_readThird_41 rfl rfl (fun c14 => ?_) (fun c14 => ?_)
        · replace h := rx_if_f c14 h
          refine ev_aload_n (i := 0) 47 dX4_readThird_46 rfl rfl rfl ?_
          obtain ⟨x16, S15, g17, h⟩ := rx_bd_o h
          refine ev_cVi0 50 dX4_readThird_47 (em_X4_taken g17) mm_X4_taken mv_X4_taken lk_4_76 dk_13 (by decide) rfl (Nat.le_of_ble_eq_true rfl) (Nat.le_of_ble_eq_true rfl) rfl ?_
          refine ev_istore_n (ls' := [some (.ref 13), some (.int x16)]) 51 dX4_readThird_50 rfl (Nat.le_of_ble_eq_true rfl) rfl rfl ?_
          refine ev_aload_n (i := 0) 52 dX4_readThird_51 rfl rfl rfl ?_
          refine ev_bipush (v := 99) 54 dX4_readThird_52 (by decide) rfl ?_
          obtain ⟨x19, S18, g20, h⟩ := rx_bd_o h
          refine ev_cVi1 57 dX4_readThird_54 (em_X4_takeNumber g20) mm_X4_takeNumber mv_X4_takeNumber lk_4_113 dk_13 (by decide) rfl (Nat.le_of_ble_eq_true rfl) (Nat.le_of_ble_eq_true rfl) rfl ?_
          refine ev_if_ne 62 60 dX4_readThird_57 rfl rfl (fun c21 => ?_) (fun c21 => ?_)
          · replace h := rx_if_f c21 h
            refine ev_aload_n (i := 0) 63 dX4_readThird_62 rfl rfl rfl ?_
            refine ev_get (v := .ref 19) 66 dX4_readThird_63 dk_13 fl_4_21 (by decide) rfl rfl rfl ?_
            refine ev_iload_n (i := 1) 67 dX4_readThird_66 rfl rfl rfl ?_
            refine ev_aload_n (i := 0) 68 dX4_readThird_67 rfl rfl rfl ?_
            obtain ⟨x23, S22, g24, h⟩ := rx_bd_o h
            refine ev_cVi0 71 dX4_readThird_68 (em_X4_taken g24) mm_X4_taken mv_X4_taken lk_4_76 dk_13 (by decide) rfl (Nat.le_of_ble_eq_true rfl) (Nat.le_of_ble_eq_true rfl) rfl ?_
            obtain ⟨x26, S25, g27, h⟩ := rx_bd_o h
            refine ev_cVv2 74 dX4_readThird_71 (em_X8_addThird_19 g27) mm_X8_addThird mv_X8_addThird lk_4_122 dk_19 (by decide) rfl (Nat.le_of_ble_eq_true rfl) (Nat.le_of_ble_eq_true rfl) rfl ?_
            refine ev_aload_n (i := 0) 75 dX4_readThird_74 rfl rfl rfl ?_
            refine ev_bipush (v := 59) 77 dX4_readThird_75 (by decide) rfl ?_
            obtain ⟨x29, S28, g30, h⟩ := rx_bd_o h
            refine ev_cVi1 80 dX4_readThird_77 (em_X4_take g30) mm_X4_take mv_X4_take lk_4_73 dk_13 (by decide) rfl (Nat.le_of_ble_eq_true rfl) (Nat.le_of_ble_eq_true rfl) rfl ?_
            obtain ⟨g31, h⟩ := rx_bl_o h
            exact ev_zreturn dX4_readThird_80 rfl (rx_nb g31) (rx_ret_i h)
          · replace h := rx_if_t c21 h
            refine ev_iconst (v := 0) 61 dX4_readThird_60 (by decide) rfl ?_
            exact ev_zreturn dX4_readThird_61 rfl (by decide) (rx_ret_i h)
        · replace h := rx_if_t c14 h
          refine ev_iconst (v := 0) 45 dX4_readThird_44 (by decide) rfl ?_
          exact ev_zreturn dX4_readThird_45 rfl (by decide) (rx_ret_i h)
  · replace h := rx_if_f c2 h
    refine ev_aload_n (i := 0) 12 dX4_readThird_11 rfl rfl rfl ?_
    refine ev_iconst (v := 2) 13 dX4_readThird_12 (by decide) rfl ?_
    obtain ⟨x33, S32, g34, h⟩ := rx_bd_o h
    refine ev_cVi1 16 dX4_readThird_13 (em_X4_refuse g34) mm_X4_refuse mv_X4_refuse lk_4_104 dk_13 (by decide) rfl (Nat.le_of_ble_eq_true rfl) (Nat.le_of_ble_eq_true rfl) rfl ?_
    obtain ⟨g35, h⟩ := rx_bl_o h
    exact ev_zreturn dX4_readThird_16 rfl (rx_nb g35) (rx_ret_i h)

def f_X8_hasSpouse (k : Nat) (x1 : Int32) (S0 : rx_S) : Option (Int32 × rx_S) := if x1 < 0 then (some (0, S0)) else (if (S0.1 k 6) ≤ x1 then (some (0, S0)) else (some (1, S0)))
set_option maxHeartbeats 4000000 in
set_option maxRecDepth 20000 in
theorem em_X8_hasSpouse_2 {d : Nat} {x1 : Int32} {S0 : rx_S} {zr : Int32} {zS : rx_S} (h : f_X8_hasSpouse 2 x1 S0 = some (zr, zS)) : EM gC d mX8_hasSpouse [.ref 2, .int x1] S0 (rx_pi zr zS) := by
  unfold f_X8_hasSpouse at h
  show EV gC d mX8_hasSpouse 0 [some (.ref 2), some (.int x1)] [] S0 (rx_pi zr zS)
  refine ev_iload_n (i := 1) 1 dX8_hasSpouse_0 rfl rfl rfl ?_
  refine ev_if_lt 16 4 dX8_hasSpouse_1 rfl rfl (fun c3 => ?_) (fun c3 => ?_)
  · replace h := rx_if_t c3 h
    refine ev_iconst (v := 0) 17 dX8_hasSpouse_16 (by decide) rfl ?_
    exact ev_zreturn dX8_hasSpouse_17 rfl (by decide) (rx_ret_i h)
  · replace h := rx_if_f c3 h
    refine ev_iload_n (i := 1) 5 dX8_hasSpouse_4 rfl rfl rfl ?_
    refine ev_aload_n (i := 0) 6 dX8_hasSpouse_5 rfl rfl rfl ?_
    refine ev_get (v := .int (S0.1 2 6)) 9 dX8_hasSpouse_6 dk_2 fl_8_37 (by decide) rfl rfl rfl ?_
    refine ev_icmp_ge 16 12 dX8_hasSpouse_9 rfl rfl (fun c4 => ?_) (fun c4 => ?_)
    · replace h := rx_if_t c4 h
      refine ev_iconst (v := 0) 17 dX8_hasSpouse_16 (by decide) rfl ?_
      exact ev_zreturn dX8_hasSpouse_17 rfl (by decide) (rx_ret_i h)
    · replace h := rx_if_f c4 h
      refine ev_iconst (v := 1) 13 dX8_hasSpouse_12 (by decide) rfl ?_
      refine ev_goto 17 dX8_hasSpouse_13 rfl ?_
      exact ev_zreturn dX8_hasSpouse_17 rfl (by decide) (rx_ret_i h)

set_option maxHeartbeats 4000000 in
set_option maxRecDepth 20000 in
theorem em_X8_hasSpouse_19 {d : Nat} {x1 : Int32} {S0 : rx_S} {zr : Int32} {zS : rx_S} (h : f_X8_hasSpouse 19 x1 S0 = some (zr, zS)) : EM gC d mX8_hasSpouse [.ref 19, .int x1] S0 (rx_pi zr zS) := by
  unfold f_X8_hasSpouse at h
  show EV gC d mX8_hasSpouse 0 [some (.ref 19), some (.int x1)] [] S0 (rx_pi zr zS)
  refine ev_iload_n (i := 1) 1 dX8_hasSpouse_0 rfl rfl rfl ?_
  refine ev_if_lt 16 4 dX8_hasSpouse_1 rfl rfl (fun c3 => ?_) (fun c3 => ?_)
  · replace h := rx_if_t c3 h
    refine ev_iconst (v := 0) 17 dX8_hasSpouse_16 (by decide) rfl ?_
    exact ev_zreturn dX8_hasSpouse_17 rfl (by decide) (rx_ret_i h)
  · replace h := rx_if_f c3 h
    refine ev_iload_n (i := 1) 5 dX8_hasSpouse_4 rfl rfl rfl ?_
    refine ev_aload_n (i := 0) 6 dX8_hasSpouse_5 rfl rfl rfl ?_
    refine ev_get (v := .int (S0.1 19 6)) 9 dX8_hasSpouse_6 dk_19 fl_8_37 (by decide) rfl rfl rfl ?_
    refine ev_icmp_ge 16 12 dX8_hasSpouse_9 rfl rfl (fun c4 => ?_) (fun c4 => ?_)
    · replace h := rx_if_t c4 h
      refine ev_iconst (v := 0) 17 dX8_hasSpouse_16 (by decide) rfl ?_
      exact ev_zreturn dX8_hasSpouse_17 rfl (by decide) (rx_ret_i h)
    · replace h := rx_if_f c4 h
      refine ev_iconst (v := 1) 13 dX8_hasSpouse_12 (by decide) rfl ?_
      refine ev_goto 17 dX8_hasSpouse_13 rfl ?_
      exact ev_zreturn dX8_hasSpouse_17 rfl (by decide) (rx_ret_i h)

def f_X4_namedSpouse (N : Nat) (S0 : rx_S) : Option (Int32 × rx_S) := rx_bd (f_X9_valueAt ((S0.1 13 5) - 1) S0) (fun x3 S2 => rx_bd (f_X4_findName N x3 S2) (fun x6 S5 => rx_let (fun (x8 : Int32) (S9 : rx_S) => rx_bd (f_X8_hasSpouse 19 x8 S9) (fun x11 S10 => if x11 = 0 then (rx_bd (f_X4_blame 4 S10) (fun x20 S19 => some ((-1), S19))) else (rx_gd x8 6 (if (S10.1 26 (Int32.toNatClampNeg x8)) = (-2) then (some (x8, S10)) else (rx_bd (f_X4_blame 3 S10) (fun x17 S16 => some (x8, S16))))))) (fun J41_1 => rx_let (fun (S22 : rx_S) => J41_1 (-1) S22) (fun J40_2 => if x6 < 0 then (J40_2 S5) else (if (10 : Int32) ≤ x6 then (J40_2 S5) else (rx_gd x6 10 (J41_1 (S5.1 31 (Int32.toNatClampNeg x6)) S5)))))))
set_option maxHeartbeats 4000000 in
set_option maxRecDepth 20000 in
theorem em_X4_namedSpouse {d N : Nat} {S0 : rx_S} {zr : Int32} {zS : rx_S} (h : f_X4_namedSpouse N S0 = some (zr, zS)) : EM gC (d + 2) mX4_namedSpouse [.ref 13] S0 (rx_pi zr zS) := by
  unfold f_X4_namedSpouse at h
  show EV gC (d + 2) mX4_namedSpouse 0 [some (.ref 13), none, none] [] S0 (rx_pi zr zS)
  refine ev_aload_n (i := 0) 1 dX4_namedSpouse_0 rfl rfl rfl ?_
  refine ev_aload_n (i := 0) 2 dX4_namedSpouse_1 rfl rfl rfl ?_
  refine ev_get (v := .ref 14) 5 dX4_namedSpouse_2 dk_13 fl_4_12 (by decide) rfl rfl rfl ?_
  refine ev_aload_n (i := 0) 6 dX4_namedSpouse_5 rfl rfl rfl ?_
  refine ev_get (v := .int (S0.1 13 5)) 9 dX4_namedSpouse_6 dk_13 fl_4_44 (by decide) rfl rfl rfl ?_
  refine ev_iconst (v := 1) 10 dX4_namedSpouse_9 (by decide) rfl ?_
  refine ev_isub 11 dX4_namedSpouse_10 rfl ?_
  obtain ⟨x3, S2, g4, h⟩ := rx_bd_o h
  refine ev_cVl1 14 dX4_namedSpouse_11 (em_X9_valueAt g4) mm_X9_valueAt mv_X9_valueAt lk_4_84 dk_14 (by decide) rfl (Nat.le_of_ble_eq_true rfl) (Nat.le_of_ble_eq_true rfl) rfl ?_
  obtain ⟨x6, S5, g7, h⟩ := rx_bd_o h
  refine ev_cVi1 17 dX4_namedSpouse_14 (em_X4_findName g7) mm_X4_findName mv_X4_findName lk_4_126 dk_13 (by decide) rfl (Nat.le_of_ble_eq_true rfl) (Nat.le_of_ble_eq_true rfl) rfl ?_
  refine ev_istore_n (ls' := [some (.ref 13), some (.int x6), none]) 18 dX4_namedSpouse_17 rfl (Nat.le_of_ble_eq_true rfl) rfl rfl ?_
  refine ev_iload_n (i := 1) 19 dX4_namedSpouse_18 rfl rfl rfl ?_
  obtain ⟨J41_1, eJ41_1, h⟩ := rx_let_o h
  have hJ41_1 : ∀ (x8 : Int32) (S9 : rx_S), J41_1 x8 S9 = some (zr, zS) → EV gC (d + 2) mX4_namedSpouse 41 [some (.ref 13), none, none] [.int x8] S9 (rx_pi zr zS) := by
    intro x8 S9 h
    subst eJ41_1
    refine ev_istore_n (ls' := [some (.ref 13), none, some (.int x8)]) 42 dX4_namedSpouse_41 rfl (Nat.le_of_ble_eq_true rfl) rfl rfl ?_
    refine ev_aload_n (i := 0) 43 dX4_namedSpouse_42 rfl rfl rfl ?_
    refine ev_get (v := .ref 19) 46 dX4_namedSpouse_43 dk_13 fl_4_21 (by decide) rfl rfl rfl ?_
    refine ev_iload_n (i := 2) 47 dX4_namedSpouse_46 rfl rfl rfl ?_
    obtain ⟨x11, S10, g12, h⟩ := rx_bd_o h
    refine ev_cVi1 50 dX4_namedSpouse_47 (em_X8_hasSpouse_19 g12) mm_X8_hasSpouse mv_X8_hasSpouse lk_4_139 dk_19 (by decide) rfl (Nat.le_of_ble_eq_true rfl) (Nat.le_of_ble_eq_true rfl) rfl ?_
    refine ev_if_ne 60 53 dX4_namedSpouse_50 rfl rfl (fun c13 => ?_) (fun c13 => ?_)
    · replace h := rx_if_f c13 h
      refine ev_aload_n (i := 0) 61 dX4_namedSpouse_60 rfl rfl rfl ?_
      refine ev_get (v := .ref 19) 64 dX4_namedSpouse_61 dk_13 fl_4_21 (by decide) rfl rfl rfl ?_
      refine ev_get (v := .ref 26) 67 dX4_namedSpouse_64 dk_19 fl_4_142 (by decide) rfl rfl rfl ?_
      refine ev_iload_n (i := 2) 68 dX4_namedSpouse_67 rfl rfl rfl ?_
      obtain ⟨g14, h⟩ := rx_gd_o h
      refine ex_iald _ 69 dX4_namedSpouse_68 dk_26 g14 rfl rfl ?_
      refine ev_bipush (v := (-2)) 71 dX4_namedSpouse_69 (by decide) rfl ?_
      refine ev_icmp_eq 79 74 dX4_namedSpouse_71 rfl rfl (fun c15 => ?_) (fun c15 => ?_)
      · replace h := rx_if_t c15 h
        refine ev_iload_n (i := 2) 80 dX4_namedSpouse_79 rfl rfl rfl ?_
        exact ev_ireturn dX4_namedSpouse_80 rfl (rx_ret_i h)
      · replace h := rx_if_f c15 h
        refine ev_aload_n (i := 0) 75 dX4_namedSpouse_74 rfl rfl rfl ?_
        refine ev_iconst (v := 3) 76 dX4_namedSpouse_75 (by decide) rfl ?_
        obtain ⟨x17, S16, g18, h⟩ := rx_bd_o h
        refine ev_cVv1 79 dX4_namedSpouse_76 (em_X4_blame g18) mm_X4_blame mv_X4_blame lk_4_80 dk_13 (by decide) rfl (Nat.le_of_ble_eq_true rfl) (Nat.le_of_ble_eq_true rfl) rfl ?_
        refine ev_iload_n (i := 2) 80 dX4_namedSpouse_79 rfl rfl rfl ?_
        exact ev_ireturn dX4_namedSpouse_80 rfl (rx_ret_i h)
    · replace h := rx_if_t c13 h
      refine ev_aload_n (i := 0) 54 dX4_namedSpouse_53 rfl rfl rfl ?_
      refine ev_iconst (v := 4) 55 dX4_namedSpouse_54 (by decide) rfl ?_
      obtain ⟨x20, S19, g21, h⟩ := rx_bd_o h
      refine ev_cVv1 58 dX4_namedSpouse_55 (em_X4_blame g21) mm_X4_blame mv_X4_blame lk_4_80 dk_13 (by decide) rfl (Nat.le_of_ble_eq_true rfl) (Nat.le_of_ble_eq_true rfl) rfl ?_
      refine ev_iconst (v := (-1)) 59 dX4_namedSpouse_58 (by decide) rfl ?_
      exact ev_ireturn dX4_namedSpouse_59 rfl (rx_ret_i h)
  obtain ⟨J40_2, eJ40_2, h⟩ := rx_let_o h
  have hJ40_2 : ∀ (S22 : rx_S), J40_2 S22 = some (zr, zS) → EV gC (d + 2) mX4_namedSpouse 40 [some (.ref 13), none, none] [] S22 (rx_pi zr zS) := by
    intro S22 h
    subst eJ40_2
    refine ev_iconst (v := (-1)) 41 dX4_namedSpouse_40 (by decide) rfl ?_
    exact (hJ41_1 _ _ h).fewer (rx_le_s (rx_le_n (rx_le_n rx_le_0)))
  refine ev_if_lt 40 22 dX4_namedSpouse_19 rfl rfl (fun c23 => ?_) (fun c23 => ?_)
  · replace h := rx_if_t c23 h
    exact (hJ40_2 _ h).fewer (rx_le_s (rx_le_n (rx_le_n rx_le_0)))
  · replace h := rx_if_f c23 h
    refine ev_iload_n (i := 1) 23 dX4_namedSpouse_22 rfl rfl rfl ?_
    refine ev_aload_n (i := 0) 24 dX4_namedSpouse_23 rfl rfl rfl ?_
    refine ev_get (v := .ref 31) 27 dX4_namedSpouse_24 dk_13 fl_4_29 (by decide) rfl rfl rfl ?_
    refine ev_alen (v := 10) 28 dX4_namedSpouse_27 dk_31 (by decide) (by decide) rfl ?_
    refine ev_icmp_ge 40 31 dX4_namedSpouse_28 rfl rfl (fun c24 => ?_) (fun c24 => ?_)
    · replace h := rx_if_t c24 h
      exact (hJ40_2 _ h).fewer (rx_le_s (rx_le_n (rx_le_n rx_le_0)))
    · replace h := rx_if_f c24 h
      refine ev_aload_n (i := 0) 32 dX4_namedSpouse_31 rfl rfl rfl ?_
      refine ev_get (v := .ref 31) 35 dX4_namedSpouse_32 dk_13 fl_4_29 (by decide) rfl rfl rfl ?_
      refine ev_iload_n (i := 1) 36 dX4_namedSpouse_35 rfl rfl rfl ?_
      obtain ⟨g25, h⟩ := rx_gd_o h
      refine ex_iald _ 37 dX4_namedSpouse_36 dk_31 g25 rfl rfl ?_
      refine ev_goto 41 dX4_namedSpouse_37 rfl ?_
      exact (hJ41_1 _ _ h).fewer (rx_le_s (rx_le_n (rx_le_n rx_le_0)))

def f_X8_addCouple (k : Nat) (x1 : Int32) (x2 : Int32) (S0 : rx_S) : Option (Unit × rx_S) := if (3 : Int32) ≤ (S0.1 k 7) then (some ((), S0)) else (rx_bd (f_X8_hasSpouse k x1 S0) (fun x6 S5 => rx_let (fun (S8 : rx_S) => rx_let (rx_ui S8 k 7 ((S8.1 k 7) + 1)) (fun S9 => some ((), S9))) (fun J70_1 => if x6 = 0 then (J70_1 S5) else (rx_bd (f_X8_hasSpouse k x2 S5) (fun x12 S11 => if x12 = 0 then (J70_1 S11) else (rx_gd ((2 : Int32) * (S11.1 k 7)) 6 (rx_let (rx_ui S11 (k + 8) (Int32.toNatClampNeg ((2 : Int32) * (S11.1 k 7))) x1) (fun S16 => rx_gd (((2 : Int32) * (S16.1 k 7)) + 1) 6 (rx_let (rx_ui S16 (k + 8) (Int32.toNatClampNeg (((2 : Int32) * (S16.1 k 7)) + 1)) x2) (fun S18 => rx_gd x1 6 (rx_let (rx_ui S18 (k + 7) (Int32.toNatClampNeg x1) (S18.1 k 7)) (fun S20 => rx_gd x2 6 (rx_let (rx_ui S20 (k + 7) (Int32.toNatClampNeg x2) (S20.1 k 7)) (fun S22 => J70_1 S22))))))))))))))
set_option maxHeartbeats 4000000 in
set_option maxRecDepth 20000 in
theorem em_X8_addCouple_2 {d : Nat} {x1 : Int32} {x2 : Int32} {S0 : rx_S} {zr : Unit} {zS : rx_S} (h : f_X8_addCouple 2 x1 x2 S0 = some (zr, zS)) : EM gC (d + 1) mX8_addCouple [.ref 2, .int x1, .int x2] S0 (rx_pv zS) := by
  unfold f_X8_addCouple at h
  show EV gC (d + 1) mX8_addCouple 0 [some (.ref 2), some (.int x1), some (.int x2)] [] S0 (rx_pv zS)
  refine ev_aload_n (i := 0) 1 dX8_addCouple_0 rfl rfl rfl ?_
  refine ev_get (v := .int (S0.1 2 7)) 4 dX8_addCouple_1 dk_2 fl_8_41 (by decide) rfl rfl rfl ?_
  refine ev_iconst (v := 3) 5 dX8_addCouple_4 (by decide) rfl ?_
  refine ev_icmp_ge 80 8 dX8_addCouple_5 rfl rfl (fun c4 => ?_) (fun c4 => ?_)
  · replace h := rx_if_t c4 h
    exact ev_return dX8_addCouple_80 rfl (rx_ret_v h)
  · replace h := rx_if_f c4 h
    refine ev_aload_n (i := 0) 9 dX8_addCouple_8 rfl rfl rfl ?_
    refine ev_iload_n (i := 1) 10 dX8_addCouple_9 rfl rfl rfl ?_
    obtain ⟨x6, S5, g7, h⟩ := rx_bd_o h
    refine ev_cVi1 13 dX8_addCouple_10 (em_X8_hasSpouse_2 g7) mm_X8_hasSpouse mv_X8_hasSpouse lk_8_63 dk_2 (by decide) rfl (Nat.le_of_ble_eq_true rfl) (Nat.le_of_ble_eq_true rfl) rfl ?_
    obtain ⟨J70_1, eJ70_1, h⟩ := rx_let_o h
    have hJ70_1 : ∀ (S8 : rx_S), J70_1 S8 = some (zr, zS) → EV gC (d + 1) mX8_addCouple 70 [some (.ref 2), none, none] [] S8 (rx_pv zS) := by
      intro S8 h
      subst eJ70_1
      refine ev_aload_n (i := 0) 71 dX8_addCouple_70 rfl rfl rfl ?_
      refine ev_dup 72 dX8_addCouple_71 rfl rfl ?_
      refine ev_get (v := .int (S8.1 2 7)) 75 dX8_addCouple_72 dk_2 fl_8_41 (by decide) rfl rfl rfl ?_
      refine ev_iconst (v := 1) 76 dX8_addCouple_75 (by decide) rfl ?_
      refine ev_iadd 77 dX8_addCouple_76 rfl ?_
      obtain ⟨S9, eS9, h⟩ := rx_let_o h
      refine ex_put 80 dX8_addCouple_77 dk_2 fl_8_41 pp_8_7 (by decide) rfl rfl rfl rfl eS9 ?_
      exact ev_return dX8_addCouple_80 rfl (rx_ret_v h)
    refine ev_if_eq 70 16 dX8_addCouple_13 rfl rfl (fun c10 => ?_) (fun c10 => ?_)
    · replace h := rx_if_t c10 h
      exact (hJ70_1 _ h).fewer (rx_le_s (rx_le_n (rx_le_n rx_le_0)))
    · replace h := rx_if_f c10 h
      refine ev_aload_n (i := 0) 17 dX8_addCouple_16 rfl rfl rfl ?_
      refine ev_iload_n (i := 2) 18 dX8_addCouple_17 rfl rfl rfl ?_
      obtain ⟨x12, S11, g13, h⟩ := rx_bd_o h
      refine ev_cVi1 21 dX8_addCouple_18 (em_X8_hasSpouse_2 g13) mm_X8_hasSpouse mv_X8_hasSpouse lk_8_63 dk_2 (by decide) rfl (Nat.le_of_ble_eq_true rfl) (Nat.le_of_ble_eq_true rfl) rfl ?_
      refine ev_if_eq 70 24 dX8_addCouple_21 rfl rfl (fun c14 => ?_) (fun c14 => ?_)
      · replace h := rx_if_t c14 h
        exact (hJ70_1 _ h).fewer (rx_le_s (rx_le_n (rx_le_n rx_le_0)))
      · replace h := rx_if_f c14 h
        refine ev_aload_n (i := 0) 25 dX8_addCouple_24 rfl rfl rfl ?_
        refine ev_get (v := .ref 10) 28 dX8_addCouple_25 dk_2 fl_8_25 (by decide) rfl rfl rfl ?_
        refine ev_iconst (v := 2) 29 dX8_addCouple_28 (by decide) rfl ?_
        refine ev_aload_n (i := 0) 30 dX8_addCouple_29 rfl rfl rfl ?_
        refine ev_get (v := .int (S11.1 2 7)) 33 dX8_addCouple_30 dk_2 fl_8_41 (by decide) rfl rfl rfl ?_
        refine ev_imul 34 dX8_addCouple_33 rfl ?_
        refine ev_iload_n (i := 1) 35 dX8_addCouple_34 rfl rfl rfl ?_
        obtain ⟨g15, h⟩ := rx_gd_o h
        obtain ⟨S16, eS16, h⟩ := rx_let_o h
        refine ex_iast _ 36 dX8_addCouple_35 dk_10 g15 rfl rfl eS16 ?_
        refine ev_aload_n (i := 0) 37 dX8_addCouple_36 rfl rfl rfl ?_
        refine ev_get (v := .ref 10) 40 dX8_addCouple_37 dk_2 fl_8_25 (by decide) rfl rfl rfl ?_
        refine ev_iconst (v := 2) 41 dX8_addCouple_40 (by decide) rfl ?_
        refine ev_aload_n (i := 0) 42 dX8_addCouple_41 rfl rfl rfl ?_
        refine ev_get (v := .int (S16.1 2 7)) 45 dX8_addCouple_42 dk_2 fl_8_41 (by decide) rfl rfl rfl ?_
        refine ev_imul 46 dX8_addCouple_45 rfl ?_
        refine ev_iconst (v := 1) 47 dX8_addCouple_46 (by decide) rfl ?_
        refine ev_iadd 48 dX8_addCouple_47 rfl ?_
        refine ev_iload_n (i := 2) 49 dX8_addCouple_48 rfl rfl rfl ?_
        obtain ⟨g17, h⟩ := rx_gd_o h
        obtain ⟨S18, eS18, h⟩ := rx_let_o h
        refine ex_iast _ 50 dX8_addCouple_49 dk_10 g17 rfl rfl eS18 ?_
        refine ev_aload_n (i := 0) 51 dX8_addCouple_50 rfl rfl rfl ?_
        refine ev_get (v := .ref 9) 54 dX8_addCouple_51 dk_2 fl_8_22 (by decide) rfl rfl rfl ?_
        refine ev_iload_n (i := 1) 55 dX8_addCouple_54 rfl rfl rfl ?_
        refine ev_aload_n (i := 0) 56 dX8_addCouple_55 rfl rfl rfl ?_
        refine ev_get (v := .int (S18.1 2 7)) 59 dX8_addCouple_56 dk_2 fl_8_41 (by decide) rfl rfl rfl ?_
        obtain ⟨g19, h⟩ := rx_gd_o h
        obtain ⟨S20, eS20, h⟩ := rx_let_o h
        refine ex_iast _ 60 dX8_addCouple_59 dk_9 g19 rfl rfl eS20 ?_
        refine ev_aload_n (i := 0) 61 dX8_addCouple_60 rfl rfl rfl ?_
        refine ev_get (v := .ref 9) 64 dX8_addCouple_61 dk_2 fl_8_22 (by decide) rfl rfl rfl ?_
        refine ev_iload_n (i := 2) 65 dX8_addCouple_64 rfl rfl rfl ?_
        refine ev_aload_n (i := 0) 66 dX8_addCouple_65 rfl rfl rfl ?_
        refine ev_get (v := .int (S20.1 2 7)) 69 dX8_addCouple_66 dk_2 fl_8_41 (by decide) rfl rfl rfl ?_
        obtain ⟨g21, h⟩ := rx_gd_o h
        obtain ⟨S22, eS22, h⟩ := rx_let_o h
        refine ex_iast _ 70 dX8_addCouple_69 dk_9 g21 rfl rfl eS22 ?_
        exact (hJ70_1 _ h).fewer (rx_le_s (rx_le_n (rx_le_n rx_le_0)))

set_option maxHeartbeats 4000000 in
set_option maxRecDepth 20000 in
theorem em_X8_addCouple_19 {d : Nat} {x1 : Int32} {x2 : Int32} {S0 : rx_S} {zr : Unit} {zS : rx_S} (h : f_X8_addCouple 19 x1 x2 S0 = some (zr, zS)) : EM gC (d + 1) mX8_addCouple [.ref 19, .int x1, .int x2] S0 (rx_pv zS) := by
  unfold f_X8_addCouple at h
  show EV gC (d + 1) mX8_addCouple 0 [some (.ref 19), some (.int x1), some (.int x2)] [] S0 (rx_pv zS)
  refine ev_aload_n (i := 0) 1 dX8_addCouple_0 rfl rfl rfl ?_
  refine ev_get (v := .int (S0.1 19 7)) 4 dX8_addCouple_1 dk_19 fl_8_41 (by decide) rfl rfl rfl ?_
  refine ev_iconst (v := 3) 5 dX8_addCouple_4 (by decide) rfl ?_
  refine ev_icmp_ge 80 8 dX8_addCouple_5 rfl rfl (fun c4 => ?_) (fun c4 => ?_)
  · replace h := rx_if_t c4 h
    exact ev_return dX8_addCouple_80 rfl (rx_ret_v h)
  · replace h := rx_if_f c4 h
    refine ev_aload_n (i := 0) 9 dX8_addCouple_8 rfl rfl rfl ?_
    refine ev_iload_n (i := 1) 10 dX8_addCouple_9 rfl rfl rfl ?_
    obtain ⟨x6, S5, g7, h⟩ := rx_bd_o h
    refine ev_cVi1 13 dX8_addCouple_10 (em_X8_hasSpouse_19 g7) mm_X8_hasSpouse mv_X8_hasSpouse lk_8_63 dk_19 (by decide) rfl (Nat.le_of_ble_eq_true rfl) (Nat.le_of_ble_eq_true rfl) rfl ?_
    obtain ⟨J70_1, eJ70_1, h⟩ := rx_let_o h
    have hJ70_1 : ∀ (S8 : rx_S), J70_1 S8 = some (zr, zS) → EV gC (d + 1) mX8_addCouple 70 [some (.ref 19), none, none] [] S8 (rx_pv zS) := by
      intro S8 h
      subst eJ70_1
      refine ev_aload_n (i := 0) 71 dX8_addCouple_70 rfl rfl rfl ?_
      refine ev_dup 72 dX8_addCouple_71 rfl rfl ?_
      refine ev_get (v := .int (S8.1 19 7)) 75 dX8_addCouple_72 dk_19 fl_8_41 (by decide) rfl rfl rfl ?_
      refine ev_iconst (v := 1) 76 dX8_addCouple_75 (by decide) rfl ?_
      refine ev_iadd 77 dX8_addCouple_76 rfl ?_
      obtain ⟨S9, eS9, h⟩ := rx_let_o h
      refine ex_put 80 dX8_addCouple_77 dk_19 fl_8_41 pp_8_7 (by decide) rfl rfl rfl rfl eS9 ?_
      exact ev_return dX8_addCouple_80 rfl (rx_ret_v h)
    refine ev_if_eq 70 16 dX8_addCouple_13 rfl rfl (fun c10 => ?_) (fun c10 => ?_)
    · replace h := rx_if_t c10 h
      exact (hJ70_1 _ h).fewer (rx_le_s (rx_le_n (rx_le_n rx_le_0)))
    · replace h := rx_if_f c10 h
      refine ev_aload_n (i := 0) 17 dX8_addCouple_16 rfl rfl rfl ?_
      refine ev_iload_n (i := 2) 18 dX8_addCouple_17 rfl rfl rfl ?_
      obtain ⟨x12, S11, g13, h⟩ := rx_bd_o h
      refine ev_cVi1 21 dX8_addCouple_18 (em_X8_hasSpouse_19 g13) mm_X8_hasSpouse mv_X8_hasSpouse lk_8_63 dk_19 (by decide) rfl (Nat.le_of_ble_eq_true rfl) (Nat.le_of_ble_eq_true rfl) rfl ?_
      refine ev_if_eq 70 24 dX8_addCouple_21 rfl rfl (fun c14 => ?_) (fun c14 => ?_)
      · replace h := rx_if_t c14 h
        exact (hJ70_1 _ h).fewer (rx_le_s (rx_le_n (rx_le_n rx_le_0)))
      · replace h := rx_if_f c14 h
        refine ev_aload_n (i := 0) 25 dX8_addCouple_24 rfl rfl rfl ?_
        refine ev_get (v := .ref 27) 28 dX8_addCouple_25 dk_19 fl_8_25 (by decide) rfl rfl rfl ?_
        refine ev_iconst (v := 2) 29 dX8_addCouple_28 (by decide) rfl ?_
        refine ev_aload_n (i := 0) 30 dX8_addCouple_29 rfl rfl rfl ?_
        refine ev_get (v := .int (S11.1 19 7)) 33 dX8_addCouple_30 dk_19 fl_8_41 (by decide) rfl rfl rfl ?_
        refine ev_imul 34 dX8_addCouple_33 rfl ?_
        refine ev_iload_n (i := 1) 35 dX8_addCouple_34 rfl rfl rfl ?_
        obtain ⟨g15, h⟩ := rx_gd_o h
        obtain ⟨S16, eS16, h⟩ := rx_let_o h
        refine ex_iast _ 36 dX8_addCouple_35 dk_27 g15 rfl rfl eS16 ?_
        refine ev_aload_n (i := 0) 37 dX8_addCouple_36 rfl rfl rfl ?_
        refine ev_get (v := .ref 27) 40 dX8_addCouple_37 dk_19 fl_8_25 (by decide) rfl rfl rfl ?_
        refine ev_iconst (v := 2) 41 dX8_addCouple_40 (by decide) rfl ?_
        refine ev_aload_n (i := 0) 42 dX8_addCouple_41 rfl rfl rfl ?_
        refine ev_get (v := .int (S16.1 19 7)) 45 dX8_addCouple_42 dk_19 fl_8_41 (by decide) rfl rfl rfl ?_
        refine ev_imul 46 dX8_addCouple_45 rfl ?_
        refine ev_iconst (v := 1) 47 dX8_addCouple_46 (by decide) rfl ?_
        refine ev_iadd 48 dX8_addCouple_47 rfl ?_
        refine ev_iload_n (i := 2) 49 dX8_addCouple_48 rfl rfl rfl ?_
        obtain ⟨g17, h⟩ := rx_gd_o h
        obtain ⟨S18, eS18, h⟩ := rx_let_o h
        refine ex_iast _ 50 dX8_addCouple_49 dk_27 g17 rfl rfl eS18 ?_
        refine ev_aload_n (i := 0) 51 dX8_addCouple_50 rfl rfl rfl ?_
        refine ev_get (v := .ref 26) 54 dX8_addCouple_51 dk_19 fl_8_22 (by decide) rfl rfl rfl ?_
        refine ev_iload_n (i := 1) 55 dX8_addCouple_54 rfl rfl rfl ?_
        refine ev_aload_n (i := 0) 56 dX8_addCouple_55 rfl rfl rfl ?_
        refine ev_get (v := .int (S18.1 19 7)) 59 dX8_addCouple_56 dk_19 fl_8_41 (by decide) rfl rfl rfl ?_
        obtain ⟨g19, h⟩ := rx_gd_o h
        obtain ⟨S20, eS20, h⟩ := rx_let_o h
        refine ex_iast _ 60 dX8_addCouple_59 dk_26 g19 rfl rfl eS20 ?_
        refine ev_aload_n (i := 0) 61 dX8_addCouple_60 rfl rfl rfl ?_
        refine ev_get (v := .ref 26) 64 dX8_addCouple_61 dk_19 fl_8_22 (by decide) rfl rfl rfl ?_
        refine ev_iload_n (i := 2) 65 dX8_addCouple_64 rfl rfl rfl ?_
        refine ev_aload_n (i := 0) 66 dX8_addCouple_65 rfl rfl rfl ?_
        refine ev_get (v := .int (S20.1 19 7)) 69 dX8_addCouple_66 dk_19 fl_8_41 (by decide) rfl rfl rfl ?_
        obtain ⟨g21, h⟩ := rx_gd_o h
        obtain ⟨S22, eS22, h⟩ := rx_let_o h
        refine ex_iast _ 70 dX8_addCouple_69 dk_26 g21 rfl rfl eS22 ?_
        exact (hJ70_1 _ h).fewer (rx_le_s (rx_le_n (rx_le_n rx_le_0)))

