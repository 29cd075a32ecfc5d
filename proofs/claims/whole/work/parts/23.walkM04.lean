def f_X11_looksAtSpouse (N : Nat) (x1 : Int32) (S0 : rx_S) : Option (Unit × rx_S) := rx_bd (f_X11_looks N S0) (fun x4 S3 => rx_gd x1 48 (rx_let (rx_ui S3 124 2 (S3.1 127 (Int32.toNatClampNeg x1))) (fun S7 => rx_let (rx_ui S7 124 5 x1) (fun S8 => some ((), S8)))))
set_option maxHeartbeats 4000000 in
set_option maxRecDepth 20000 in
theorem em_X11_looksAtSpouse {d N : Nat} {x1 : Int32} {S0 : rx_S} {zr : Unit} {zS : rx_S} (h : f_X11_looksAtSpouse N x1 S0 = some (zr, zS)) : EM gM (d + 1) mX11_looksAtSpouse [.ref 94, .int x1] S0 (rx_pv zS) := by
  unfold f_X11_looksAtSpouse at h
  show EV gM (d + 1) mX11_looksAtSpouse 0 [some (.ref 94), some (.int x1)] [] S0 (rx_pv zS)
  refine ev_aload_n (i := 0) 1 dX11_looksAtSpouse_0 rfl rfl rfl ?_
  obtain ⟨x4, S3, g5, h⟩ := rx_bd_o h
  refine ev_cVv0 4 dX11_looksAtSpouse_1 (em_X11_looks g5) mm_X11_looks mv_X11_looks lk_11_333 dk_94 (by decide) rfl (Nat.le_of_ble_eq_true rfl) (Nat.le_of_ble_eq_true rfl) rfl ?_
  refine ev_aload_n (i := 0) 5 dX11_looksAtSpouse_4 rfl rfl rfl ?_
  refine ev_get (v := .ref 124) 8 dX11_looksAtSpouse_5 dk_94 fl_11_107 (by decide) rfl rfl rfl ?_
  refine ev_iconst (v := 2) 9 dX11_looksAtSpouse_8 (by decide) rfl ?_
  refine ev_aload_n (i := 0) 10 dX11_looksAtSpouse_9 rfl rfl rfl ?_
  refine ev_get (v := .ref 127) 13 dX11_looksAtSpouse_10 dk_94 fl_11_116 (by decide) rfl rfl rfl ?_
  refine ev_iload_n (i := 1) 14 dX11_looksAtSpouse_13 rfl rfl rfl ?_
  obtain ⟨g6, h⟩ := rx_gd_o h
  refine ex_iald _ 15 dX11_looksAtSpouse_14 dk_127 g6 rfl rfl ?_
  obtain ⟨S7, eS7, h⟩ := rx_let_o h
  refine ex_iast 2 16 dX11_looksAtSpouse_15 dk_124 (rx_vin (by decide)) (by decide) rfl eS7 ?_
  refine ev_aload_n (i := 0) 17 dX11_looksAtSpouse_16 rfl rfl rfl ?_
  refine ev_get (v := .ref 124) 20 dX11_looksAtSpouse_17 dk_94 fl_11_107 (by decide) rfl rfl rfl ?_
  refine ev_iconst (v := 5) 21 dX11_looksAtSpouse_20 (by decide) rfl ?_
  refine ev_iload_n (i := 1) 22 dX11_looksAtSpouse_21 rfl rfl rfl ?_
  obtain ⟨S8, eS8, h⟩ := rx_let_o h
  refine ex_iast 5 23 dX11_looksAtSpouse_22 dk_124 (rx_vin (by decide)) (by decide) rfl eS8 ?_
  exact ev_return dX11_looksAtSpouse_23 rfl (rx_ret_v h)

def f_X11_saidBy_L22 (N : Nat) : Nat → Int32 → Int32 → Int32 → Int32 → rx_S → Option (Int32 × rx_S)
  | 0, _, _, _, _, _ => none
  | n + 1, x12, x13, x14, x15, S16 => if x13 ≤ x15 then (some (x14, S16)) else (rx_bd (f_X11_looksAtSpouse N x12 S16) (fun x19 S18 => rx_let (rx_ui S18 124 1 x15) (fun S21 => rx_bd (f_X11_asks N 1 x15 S21) (fun x23 S22 => if (0 : Int32) ≤ x23 then (rx_let (((8 : Int32) * x14) + (rx_rem x23 8)) (fun x26 => rx_let (x15 + 1) (fun x27 => f_X11_saidBy_L22 N n x12 x13 x26 x27 S22))) else (rx_let (((8 : Int32) * x14) + 0) (fun x28 => rx_let (x15 + 1) (fun x29 => f_X11_saidBy_L22 N n x12 x13 x28 x29 S22)))))))
def f_X11_saidBy (N : Nat) (x1 : Int32) (S0 : rx_S) : Option (Int32 × rx_S) := rx_bd (f_X11_looksAtSpouse N x1 S0) (fun x4 S3 => rx_bd (f_X11_asks N 0 2 S3) (fun x7 S6 => rx_bd (f_X11_held x7 0 5 S6) (fun x10 S9 => f_X11_saidBy_L22 N N x1 x10 1 0 S9)))
set_option maxHeartbeats 4000000 in
set_option maxRecDepth 20000 in
theorem em_X11_saidBy_L22 {d N : Nat} {zr : Int32} {zS : rx_S} : ∀ (n : Nat) (x12 : Int32) (x13 : Int32) (x14 : Int32) (x15 : Int32) (S16 : rx_S), f_X11_saidBy_L22 N n x12 x13 x14 x15 S16 = some (zr, zS) → EV gM (d + 2) mX11_saidBy 22 [some (.ref 94), some (.int x12), some (.int x13), some (.int x14), some (.int x15), none] [] S16 (rx_pi zr zS) := by
  intro n
  induction n with
  | zero => intro x12 x13 x14 x15 S16 h; cases h
  | succ n ih =>
    intro x12 x13 x14 x15 S16 h
    rw [f_X11_saidBy_L22] at h
    refine ev_iload 24 dX11_saidBy_22 rfl rfl ?_
    refine ev_iload_n (i := 2) 25 dX11_saidBy_24 rfl rfl rfl ?_
    refine ev_icmp_ge 76 28 dX11_saidBy_25 rfl rfl (fun c17 => ?_) (fun c17 => ?_)
    · replace h := rx_if_t c17 h
      refine ev_iload_n (i := 3) 77 dX11_saidBy_76 rfl rfl rfl ?_
      exact ev_ireturn dX11_saidBy_77 rfl (rx_ret_i h)
    · replace h := rx_if_f c17 h
      refine ev_aload_n (i := 0) 29 dX11_saidBy_28 rfl rfl rfl ?_
      refine ev_iload_n (i := 1) 30 dX11_saidBy_29 rfl rfl rfl ?_
      obtain ⟨x19, S18, g20, h⟩ := rx_bd_o h
      refine ev_cVv1 33 dX11_saidBy_30 (em_X11_looksAtSpouse g20) mm_X11_looksAtSpouse mv_X11_looksAtSpouse lk_11_336 dk_94 (by decide) rfl (Nat.le_of_ble_eq_true rfl) (Nat.le_of_ble_eq_true rfl) rfl ?_
      refine ev_aload_n (i := 0) 34 dX11_saidBy_33 rfl rfl rfl ?_
      refine ev_get (v := .ref 124) 37 dX11_saidBy_34 dk_94 fl_11_107 (by decide) rfl rfl rfl ?_
      refine ev_iconst (v := 1) 38 dX11_saidBy_37 (by decide) rfl ?_
      refine ev_iload 40 dX11_saidBy_38 rfl rfl ?_
      obtain ⟨S21, eS21, h⟩ := rx_let_o h
      refine ex_iast 1 41 dX11_saidBy_40 dk_124 (rx_vin (by decide)) (by decide) rfl eS21 ?_
      refine ev_aload_n (i := 0) 42 dX11_saidBy_41 rfl rfl rfl ?_
      refine ev_iconst (v := 1) 43 dX11_saidBy_42 (by decide) rfl ?_
      refine ev_iload 45 dX11_saidBy_43 rfl rfl ?_
      obtain ⟨x23, S22, g24, h⟩ := rx_bd_o h
      refine ev_cVi2 48 dX11_saidBy_45 (em_X11_asks g24) mm_X11_asks mv_X11_asks lk_11_339 dk_94 (by decide) rfl (Nat.le_of_ble_eq_true rfl) (Nat.le_of_ble_eq_true rfl) rfl ?_
      refine ev_istore (ls' := [some (.ref 94), some (.int x12), some (.int x13), some (.int x14), some (.int x15), some (.int x23)]) 50 dX11_saidBy_48 (Nat.le_of_ble_eq_true rfl) rfl rfl ?_
      refine ev_bipush (v := 8) 52 dX11_saidBy_50 (by decide) rfl ?_
      refine ev_iload_n (i := 3) 53 dX11_saidBy_52 rfl rfl rfl ?_
      refine ev_imul 54 dX11_saidBy_53 rfl ?_
      refine ev_iload 56 dX11_saidBy_54 rfl rfl ?_
      refine ev_if_ge 63 59 dX11_saidBy_56 rfl rfl (fun c25 => ?_) (fun c25 => ?_)
      · replace h := rx_if_t c25 h
        refine ev_iload 65 dX11_saidBy_63 rfl rfl ?_
        refine ev_bipush (v := 8) 67 dX11_saidBy_65 (by decide) rfl ?_
        refine ev_rem 68 dX11_saidBy_67 (by decide) rfl ?_
        refine ev_iadd 69 dX11_saidBy_68 rfl ?_
        obtain ⟨x26, ex26, h⟩ := rx_let_o h
        refine ev_nm ex26 ?_
        refine ev_istore_n (ls' := [some (.ref 94), some (.int x12), some (.int x13), some (.int x26), some (.int x15), some (.int x23)]) 70 dX11_saidBy_69 rfl (Nat.le_of_ble_eq_true rfl) rfl rfl ?_
        obtain ⟨x27, ex27, h⟩ := rx_let_o h
        refine ev_iinc (v := x27) (ls' := [some (.ref 94), some (.int x12), some (.int x13), some (.int x26), some (.int x27), some (.int x23)]) 73 dX11_saidBy_70 rfl (by rw [ex27]; rfl) (Nat.le_of_ble_eq_true rfl) rfl rfl ?_
        refine ev_goto 22 dX11_saidBy_73 rfl ?_
        exact (ih _ _ _ _ _ h).fewer (rx_le_s (rx_le_s (rx_le_s (rx_le_s (rx_le_s (rx_le_n rx_le_0))))))
      · replace h := rx_if_f c25 h
        refine ev_iconst (v := 0) 60 dX11_saidBy_59 (by decide) rfl ?_
        refine ev_goto 68 dX11_saidBy_60 rfl ?_
        refine ev_iadd 69 dX11_saidBy_68 rfl ?_
        obtain ⟨x28, ex28, h⟩ := rx_let_o h
        refine ev_nm ex28 ?_
        refine ev_istore_n (ls' := [some (.ref 94), some (.int x12), some (.int x13), some (.int x28), some (.int x15), some (.int x23)]) 70 dX11_saidBy_69 rfl (Nat.le_of_ble_eq_true rfl) rfl rfl ?_
        obtain ⟨x29, ex29, h⟩ := rx_let_o h
        refine ev_iinc (v := x29) (ls' := [some (.ref 94), some (.int x12), some (.int x13), some (.int x28), some (.int x29), some (.int x23)]) 73 dX11_saidBy_70 rfl (by rw [ex29]; rfl) (Nat.le_of_ble_eq_true rfl) rfl rfl ?_
        refine ev_goto 22 dX11_saidBy_73 rfl ?_
        exact (ih _ _ _ _ _ h).fewer (rx_le_s (rx_le_s (rx_le_s (rx_le_s (rx_le_s (rx_le_n rx_le_0))))))

set_option maxHeartbeats 4000000 in
set_option maxRecDepth 20000 in
theorem em_X11_saidBy {d N : Nat} {x1 : Int32} {S0 : rx_S} {zr : Int32} {zS : rx_S} (h : f_X11_saidBy N x1 S0 = some (zr, zS)) : EM gM (d + 2) mX11_saidBy [.ref 94, .int x1] S0 (rx_pi zr zS) := by
  unfold f_X11_saidBy at h
  show EV gM (d + 2) mX11_saidBy 0 [some (.ref 94), some (.int x1), none, none, none, none] [] S0 (rx_pi zr zS)
  refine ev_aload_n (i := 0) 1 dX11_saidBy_0 rfl rfl rfl ?_
  refine ev_iload_n (i := 1) 2 dX11_saidBy_1 rfl rfl rfl ?_
  obtain ⟨x4, S3, g5, h⟩ := rx_bd_o h
  refine ev_cVv1 5 dX11_saidBy_2 (em_X11_looksAtSpouse g5) mm_X11_looksAtSpouse mv_X11_looksAtSpouse lk_11_336 dk_94 (by decide) rfl (Nat.le_of_ble_eq_true rfl) (Nat.le_of_ble_eq_true rfl) rfl ?_
  refine ev_aload_n (i := 0) 6 dX11_saidBy_5 rfl rfl rfl ?_
  refine ev_iconst (v := 0) 7 dX11_saidBy_6 (by decide) rfl ?_
  refine ev_iconst (v := 2) 8 dX11_saidBy_7 (by decide) rfl ?_
  obtain ⟨x7, S6, g8, h⟩ := rx_bd_o h
  refine ev_cVi2 11 dX11_saidBy_8 (em_X11_asks g8) mm_X11_asks mv_X11_asks lk_11_339 dk_94 (by decide) rfl (Nat.le_of_ble_eq_true rfl) (Nat.le_of_ble_eq_true rfl) rfl ?_
  refine ev_iconst (v := 0) 12 dX11_saidBy_11 (by decide) rfl ?_
  refine ev_iconst (v := 5) 13 dX11_saidBy_12 (by decide) rfl ?_
  obtain ⟨x10, S9, g11, h⟩ := rx_bd_o h
  refine ev_cSi3 16 dX11_saidBy_13 (em_X11_held g11) mm_X11_held ms_X11_held lk_11_342 (Nat.le_of_ble_eq_true rfl) (Nat.le_of_ble_eq_true rfl) rfl ?_
  refine ev_istore_n (ls' := [some (.ref 94), some (.int x1), some (.int x10), none, none, none]) 17 dX11_saidBy_16 rfl (Nat.le_of_ble_eq_true rfl) rfl rfl ?_
  refine ev_iconst (v := 1) 18 dX11_saidBy_17 (by decide) rfl ?_
  refine ev_istore_n (ls' := [some (.ref 94), some (.int x1), some (.int x10), some (.int 1), none, none]) 19 dX11_saidBy_18 rfl (Nat.le_of_ble_eq_true rfl) rfl rfl ?_
  refine ev_iconst (v := 0) 20 dX11_saidBy_19 (by decide) rfl ?_
  refine ev_istore (ls' := [some (.ref 94), some (.int x1), some (.int x10), some (.int 1), some (.int 0), none]) 22 dX11_saidBy_20 (Nat.le_of_ble_eq_true rfl) rfl rfl ?_
  exact (em_X11_saidBy_L22 _ _ _ _ _ _ h).fewer (rx_le_s (rx_le_s (rx_le_s (rx_le_s (rx_le_s (rx_le_n rx_le_0))))))

def f_X11_looksAtThird (N : Nat) (x1 : Int32) (S0 : rx_S) : Option (Unit × rx_S) := rx_bd (f_X11_looks N S0) (fun x4 S3 => rx_gd ((24 : Int32) + x1) 48 (rx_let (rx_ui S3 124 3 (S3.1 127 (Int32.toNatClampNeg ((24 : Int32) + x1)))) (fun S7 => rx_gd ((28 : Int32) + x1) 48 (rx_let (rx_ui S7 124 4 (S7.1 127 (Int32.toNatClampNeg ((28 : Int32) + x1)))) (fun S9 => rx_let (rx_ui S9 124 5 x1) (fun S10 => some ((), S10)))))))
set_option maxHeartbeats 4000000 in
set_option maxRecDepth 20000 in
theorem em_X11_looksAtThird {d N : Nat} {x1 : Int32} {S0 : rx_S} {zr : Unit} {zS : rx_S} (h : f_X11_looksAtThird N x1 S0 = some (zr, zS)) : EM gM (d + 1) mX11_looksAtThird [.ref 94, .int x1] S0 (rx_pv zS) := by
  unfold f_X11_looksAtThird at h
  show EV gM (d + 1) mX11_looksAtThird 0 [some (.ref 94), some (.int x1)] [] S0 (rx_pv zS)
  refine ev_aload_n (i := 0) 1 dX11_looksAtThird_0 rfl rfl rfl ?_
  obtain ⟨x4, S3, g5, h⟩ := rx_bd_o h
  refine ev_cVv0 4 dX11_looksAtThird_1 (em_X11_looks g5) mm_X11_looks mv_X11_looks lk_11_333 dk_94 (by decide) rfl (Nat.le_of_ble_eq_true rfl) (Nat.le_of_ble_eq_true rfl) rfl ?_
  refine ev_aload_n (i := 0) 5 dX11_looksAtThird_4 rfl rfl rfl ?_
  refine ev_get (v := .ref 124) 8 dX11_looksAtThird_5 dk_94 fl_11_107 (by decide) rfl rfl rfl ?_
  refine ev_iconst (v := 3) 9 dX11_looksAtThird_8 (by decide) rfl ?_
  refine ev_aload_n (i := 0) 10 dX11_looksAtThird_9 rfl rfl rfl ?_
  refine ev_get (v := .ref 127) 13 dX11_looksAtThird_10 dk_94 fl_11_116 (by decide) rfl rfl rfl ?_
  refine ev_bipush (v := 24) 15 dX11_looksAtThird_13 (by decide) rfl ?_
  refine ev_iload_n (i := 1) 16 dX11_looksAtThird_15 rfl rfl rfl ?_
  refine ev_iadd 17 dX11_looksAtThird_16 rfl ?_
  obtain ⟨g6, h⟩ := rx_gd_o h
  refine ex_iald _ 18 dX11_looksAtThird_17 dk_127 g6 rfl rfl ?_
  obtain ⟨S7, eS7, h⟩ := rx_let_o h
  refine ex_iast 3 19 dX11_looksAtThird_18 dk_124 (rx_vin (by decide)) (by decide) rfl eS7 ?_
  refine ev_aload_n (i := 0) 20 dX11_looksAtThird_19 rfl rfl rfl ?_
  refine ev_get (v := .ref 124) 23 dX11_looksAtThird_20 dk_94 fl_11_107 (by decide) rfl rfl rfl ?_
  refine ev_iconst (v := 4) 24 dX11_looksAtThird_23 (by decide) rfl ?_
  refine ev_aload_n (i := 0) 25 dX11_looksAtThird_24 rfl rfl rfl ?_
  refine ev_get (v := .ref 127) 28 dX11_looksAtThird_25 dk_94 fl_11_116 (by decide) rfl rfl rfl ?_
  refine ev_bipush (v := 28) 30 dX11_looksAtThird_28 (by decide) rfl ?_
  refine ev_iload_n (i := 1) 31 dX11_looksAtThird_30 rfl rfl rfl ?_
  refine ev_iadd 32 dX11_looksAtThird_31 rfl ?_
  obtain ⟨g8, h⟩ := rx_gd_o h
  refine ex_iald _ 33 dX11_looksAtThird_32 dk_127 g8 rfl rfl ?_
  obtain ⟨S9, eS9, h⟩ := rx_let_o h
  refine ex_iast 4 34 dX11_looksAtThird_33 dk_124 (rx_vin (by decide)) (by decide) rfl eS9 ?_
  refine ev_aload_n (i := 0) 35 dX11_looksAtThird_34 rfl rfl rfl ?_
  refine ev_get (v := .ref 124) 38 dX11_looksAtThird_35 dk_94 fl_11_107 (by decide) rfl rfl rfl ?_
  refine ev_iconst (v := 5) 39 dX11_looksAtThird_38 (by decide) rfl ?_
  refine ev_iload_n (i := 1) 40 dX11_looksAtThird_39 rfl rfl rfl ?_
  obtain ⟨S10, eS10, h⟩ := rx_let_o h
  refine ex_iast 5 41 dX11_looksAtThird_40 dk_124 (rx_vin (by decide)) (by decide) rfl eS10 ?_
  exact ev_return dX11_looksAtThird_41 rfl (rx_ret_v h)

def f_X11_isDaring (N : Nat) (x1 : Int32) (S0 : rx_S) : Option (Int32 × rx_S) := rx_bd (f_X11_looksAtThird N x1 S0) (fun x4 S3 => rx_gd ((40 : Int32) + x1) 48 (rx_let (rx_ui S3 124 8 (S3.1 127 (Int32.toNatClampNeg ((40 : Int32) + x1)))) (fun S7 => rx_bd (f_X11_asks N 6 0 S7) (fun x9 S8 => if x9 ≤ 0 then (some (0, S8)) else (some (1, S8))))))
set_option maxHeartbeats 4000000 in
set_option maxRecDepth 20000 in
theorem em_X11_isDaring {d N : Nat} {x1 : Int32} {S0 : rx_S} {zr : Int32} {zS : rx_S} (h : f_X11_isDaring N x1 S0 = some (zr, zS)) : EM gM (d + 2) mX11_isDaring [.ref 94, .int x1] S0 (rx_pi zr zS) := by
  unfold f_X11_isDaring at h
  show EV gM (d + 2) mX11_isDaring 0 [some (.ref 94), some (.int x1)] [] S0 (rx_pi zr zS)
  refine ev_aload_n (i := 0) 1 dX11_isDaring_0 rfl rfl rfl ?_
  refine ev_iload_n (i := 1) 2 dX11_isDaring_1 rfl rfl rfl ?_
  obtain ⟨x4, S3, g5, h⟩ := rx_bd_o h
  refine ev_cVv1 5 dX11_isDaring_2 (em_X11_looksAtThird g5) mm_X11_looksAtThird mv_X11_looksAtThird lk_11_345 dk_94 (by decide) rfl (Nat.le_of_ble_eq_true rfl) (Nat.le_of_ble_eq_true rfl) rfl ?_
  refine ev_aload_n (i := 0) 6 dX11_isDaring_5 rfl rfl rfl ?_
  refine ev_get (v := .ref 124) 9 dX11_isDaring_6 dk_94 fl_11_107 (by decide) rfl rfl rfl ?_
  refine ev_bipush (v := 8) 11 dX11_isDaring_9 (by decide) rfl ?_
  refine ev_aload_n (i := 0) 12 dX11_isDaring_11 rfl rfl rfl ?_
  refine ev_get (v := .ref 127) 15 dX11_isDaring_12 dk_94 fl_11_116 (by decide) rfl rfl rfl ?_
  refine ev_bipush (v := 40) 17 dX11_isDaring_15 (by decide) rfl ?_
  refine ev_iload_n (i := 1) 18 dX11_isDaring_17 rfl rfl rfl ?_
  refine ev_iadd 19 dX11_isDaring_18 rfl ?_
  obtain ⟨g6, h⟩ := rx_gd_o h
  refine ex_iald _ 20 dX11_isDaring_19 dk_127 g6 rfl rfl ?_
  obtain ⟨S7, eS7, h⟩ := rx_let_o h
  refine ex_iast 8 21 dX11_isDaring_20 dk_124 (rx_vin (by decide)) (by decide) rfl eS7 ?_
  refine ev_aload_n (i := 0) 22 dX11_isDaring_21 rfl rfl rfl ?_
  refine ev_bipush (v := 6) 24 dX11_isDaring_22 (by decide) rfl ?_
  refine ev_iconst (v := 0) 25 dX11_isDaring_24 (by decide) rfl ?_
  obtain ⟨x9, S8, g10, h⟩ := rx_bd_o h
  refine ev_cVi2 28 dX11_isDaring_25 (em_X11_asks g10) mm_X11_asks mv_X11_asks lk_11_339 dk_94 (by decide) rfl (Nat.le_of_ble_eq_true rfl) (Nat.le_of_ble_eq_true rfl) rfl ?_
  refine ev_if_le 35 31 dX11_isDaring_28 rfl rfl (fun c11 => ?_) (fun c11 => ?_)
  · replace h := rx_if_t c11 h
    refine ev_iconst (v := 0) 36 dX11_isDaring_35 (by decide) rfl ?_
    exact ev_zreturn dX11_isDaring_36 rfl (by decide) (rx_ret_i h)
  · replace h := rx_if_f c11 h
    refine ev_iconst (v := 1) 32 dX11_isDaring_31 (by decide) rfl ?_
    refine ev_goto 36 dX11_isDaring_32 rfl ?_
    exact ev_zreturn dX11_isDaring_36 rfl (by decide) (rx_ret_i h)

def f_X11_putAs (N : Nat) (x1 : Int32) (x2 : Int32) (x3 : Int32) (S0 : rx_S) : Option (Int32 × rx_S) := rx_gd ((32 : Int32) + x1) 48 (rx_let (fun (x6 : Int32) (x7 : Int32) (x8 : Int32) (S9 : rx_S) => rx_bd (f_X11_looksAtThird N x6 S9) (fun x11 S10 => rx_let (rx_ui S10 124 0 x7) (fun S13 => rx_let (rx_ui S13 124 1 x8) (fun S14 => rx_gd (((4 : Int32) * (S14.1 94 18)) + x6) 8 (rx_let (rx_ui S14 124 7 (S14.1 110 (Int32.toNatClampNeg (((4 : Int32) * (S14.1 94 18)) + x6)))) (fun S16 => rx_bd (f_X11_asks N 2 x7 S16) (fun x18 S17 => if (0 : Int32) ≤ x18 then (some ((rx_rem x18 9), S17)) else (some (0, S17))))))))) (fun J23_1 => if (S0.1 127 (Int32.toNatClampNeg ((32 : Int32) + x1))) = 1 then (rx_bd (f_X11_isDaring N x1 S0) (fun x23 S22 => if x23 = 0 then (some (x2, S22)) else (J23_1 x1 x2 x3 S22))) else (J23_1 x1 x2 x3 S0)))
set_option maxHeartbeats 4000000 in
set_option maxRecDepth 20000 in
theorem em_X11_putAs {d N : Nat} {x1 : Int32} {x2 : Int32} {x3 : Int32} {S0 : rx_S} {zr : Int32} {zS : rx_S} (h : f_X11_putAs N x1 x2 x3 S0 = some (zr, zS)) : EM gM (d + 3) mX11_putAs [.ref 94, .int x1, .int x2, .int x3] S0 (rx_pi zr zS) := by
  unfold f_X11_putAs at h
  show EV gM (d + 3) mX11_putAs 0 [some (.ref 94), some (.int x1), some (.int x2), some (.int x3), none] [] S0 (rx_pi zr zS)
  refine ev_aload_n (i := 0) 1 dX11_putAs_0 rfl rfl rfl ?_
  refine ev_get (v := .ref 127) 4 dX11_putAs_1 dk_94 fl_11_116 (by decide) rfl rfl rfl ?_
  refine ev_bipush (v := 32) 6 dX11_putAs_4 (by decide) rfl ?_
  refine ev_iload_n (i := 1) 7 dX11_putAs_6 rfl rfl rfl ?_
  refine ev_iadd 8 dX11_putAs_7 rfl ?_
  obtain ⟨g5, h⟩ := rx_gd_o h
  refine ex_iald _ 9 dX11_putAs_8 dk_127 g5 rfl rfl ?_
  refine ev_iconst (v := 1) 10 dX11_putAs_9 (by decide) rfl ?_
  obtain ⟨J23_1, eJ23_1, h⟩ := rx_let_o h
  have hJ23_1 : ∀ (x6 : Int32) (x7 : Int32) (x8 : Int32) (S9 : rx_S), J23_1 x6 x7 x8 S9 = some (zr, zS) → EV gM (d + 3) mX11_putAs 23 [some (.ref 94), some (.int x6), some (.int x7), some (.int x8), none] [] S9 (rx_pi zr zS) := by
    intro x6 x7 x8 S9 h
    subst eJ23_1
    refine ev_aload_n (i := 0) 24 dX11_putAs_23 rfl rfl rfl ?_
    refine ev_iload_n (i := 1) 25 dX11_putAs_24 rfl rfl rfl ?_
    obtain ⟨x11, S10, g12, h⟩ := rx_bd_o h
    refine ev_cVv1 28 dX11_putAs_25 (em_X11_looksAtThird g12) mm_X11_looksAtThird mv_X11_looksAtThird lk_11_345 dk_94 (by decide) rfl (Nat.le_of_ble_eq_true rfl) (Nat.le_of_ble_eq_true rfl) rfl ?_
    refine ev_aload_n (i := 0) 29 dX11_putAs_28 rfl rfl rfl ?_
    refine ev_get (v := .ref 124) 32 dX11_putAs_29 dk_94 fl_11_107 (by decide) rfl rfl rfl ?_
    refine ev_iconst (v := 0) 33 dX11_putAs_32 (by decide) rfl ?_
    refine ev_iload_n (i := 2) 34 dX11_putAs_33 rfl rfl rfl ?_
    obtain ⟨S13, eS13, h⟩ := rx_let_o h
    refine ex_iast 0 35 dX11_putAs_34 dk_124 (rx_vin (by decide)) (by decide) rfl eS13 ?_
    refine ev_aload_n (i := 0) 36 dX11_putAs_35 rfl rfl rfl ?_
    refine ev_get (v := .ref 124) 39 dX11_putAs_36 dk_94 fl_11_107 (by decide) rfl rfl rfl ?_
    refine ev_iconst (v := 1) 40 dX11_putAs_39 (by decide) rfl ?_
    refine ev_iload_n (i := 3) 41 dX11_putAs_40 rfl rfl rfl ?_
    obtain ⟨S14, eS14, h⟩ := rx_let_o h
    refine ex_iast 1 42 dX11_putAs_41 dk_124 (rx_vin (by decide)) (by decide) rfl eS14 ?_
    refine ev_aload_n (i := 0) 43 dX11_putAs_42 rfl rfl rfl ?_
    refine ev_get (v := .ref 124) 46 dX11_putAs_43 dk_94 fl_11_107 (by decide) rfl rfl rfl ?_
    refine ev_bipush (v := 7) 48 dX11_putAs_46 (by decide) rfl ?_
    refine ev_aload_n (i := 0) 49 dX11_putAs_48 rfl rfl rfl ?_
    refine ev_get (v := .ref 110) 52 dX11_putAs_49 dk_94 fl_11_64 (by decide) rfl rfl rfl ?_
    refine ev_iconst (v := 4) 53 dX11_putAs_52 (by decide) rfl ?_
    refine ev_aload_n (i := 0) 54 dX11_putAs_53 rfl rfl rfl ?_
    refine ev_get (v := .int (S14.1 94 18)) 57 dX11_putAs_54 dk_94 fl_11_233 (by decide) rfl rfl rfl ?_
    refine ev_imul 58 dX11_putAs_57 rfl ?_
    refine ev_iload_n (i := 1) 59 dX11_putAs_58 rfl rfl rfl ?_
    refine ev_iadd 60 dX11_putAs_59 rfl ?_
    obtain ⟨g15, h⟩ := rx_gd_o h
    refine ex_iald _ 61 dX11_putAs_60 dk_110 g15 rfl rfl ?_
    obtain ⟨S16, eS16, h⟩ := rx_let_o h
    refine ex_iast 7 62 dX11_putAs_61 dk_124 (rx_vin (by decide)) (by decide) rfl eS16 ?_
    refine ev_aload_n (i := 0) 63 dX11_putAs_62 rfl rfl rfl ?_
    refine ev_iconst (v := 2) 64 dX11_putAs_63 (by decide) rfl ?_
    refine ev_iload_n (i := 2) 65 dX11_putAs_64 rfl rfl rfl ?_
    obtain ⟨x18, S17, g19, h⟩ := rx_bd_o h
    refine ev_cVi2 68 dX11_putAs_65 (em_X11_asks g19) mm_X11_asks mv_X11_asks lk_11_339 dk_94 (by decide) rfl (Nat.le_of_ble_eq_true rfl) (Nat.le_of_ble_eq_true rfl) rfl ?_
    refine ev_istore (ls' := [some (.ref 94), some (.int x6), some (.int x7), some (.int x8), some (.int x18)]) 70 dX11_putAs_68 (Nat.le_of_ble_eq_true rfl) rfl rfl ?_
    refine ev_iload 72 dX11_putAs_70 rfl rfl ?_
    refine ev_if_ge 79 75 dX11_putAs_72 rfl rfl (fun c20 => ?_) (fun c20 => ?_)
    · replace h := rx_if_t c20 h
      refine ev_iload 81 dX11_putAs_79 rfl rfl ?_
      refine ev_bipush (v := 9) 83 dX11_putAs_81 (by decide) rfl ?_
      refine ev_rem 84 dX11_putAs_83 (by decide) rfl ?_
      exact ev_ireturn dX11_putAs_84 rfl (rx_ret_i h)
    · replace h := rx_if_f c20 h
      refine ev_iconst (v := 0) 76 dX11_putAs_75 (by decide) rfl ?_
      refine ev_goto 84 dX11_putAs_76 rfl ?_
      exact ev_ireturn dX11_putAs_84 rfl (rx_ret_i h)
  refine ev_icmp_ne 23 13 dX11_putAs_10 rfl rfl (fun c21 => ?_) (fun c21 => ?_)
  · replace h := rx_if_f c21 h
    exact (hJ23_1 _ _ _ _ h).fewer (rx_le_s (rx_le_s (rx_le_s (rx_le_s (rx_le_n rx_le_0)))))
  · replace h := rx_if_t c21 h
    refine ev_aload_n (i := 0) 14 dX11_putAs_13 rfl rfl rfl ?_
    refine ev_iload_n (i := 1) 15 dX11_putAs_14 rfl rfl rfl ?_
    obtain ⟨x23, S22, g24, h⟩ := rx_bd_o h
    refine ev_cVi1 18 dX11_putAs_15 (em_X11_isDaring g24) mm_X11_isDaring mv_X11_isDaring lk_11_348 dk_94 (by decide) rfl (Nat.le_of_ble_eq_true rfl) (Nat.le_of_ble_eq_true rfl) rfl ?_
    refine ev_if_ne 23 21 dX11_putAs_18 rfl rfl (fun c25 => ?_) (fun c25 => ?_)
    · replace h := rx_if_f c25 h
      exact (hJ23_1 _ _ _ _ h).fewer (rx_le_s (rx_le_s (rx_le_s (rx_le_s (rx_le_n rx_le_0)))))
    · replace h := rx_if_t c25 h
      refine ev_iload_n (i := 2) 22 dX11_putAs_21 rfl rfl rfl ?_
      exact ev_ireturn dX11_putAs_22 rfl (rx_ret_i h)

def f_X11_dropsOf (N : Nat) (x1 : Int32) (S0 : rx_S) : Option (Int32 × rx_S) := rx_bd (f_X11_looksAtThird N x1 S0) (fun x4 S3 => rx_bd (f_X11_asks N 3 0 S3) (fun x7 S6 => rx_bd (f_X11_held x7 0 100 S6) (fun x10 S9 => some (x10, S9))))
set_option maxHeartbeats 4000000 in
set_option maxRecDepth 20000 in
theorem em_X11_dropsOf {d N : Nat} {x1 : Int32} {S0 : rx_S} {zr : Int32} {zS : rx_S} (h : f_X11_dropsOf N x1 S0 = some (zr, zS)) : EM gM (d + 2) mX11_dropsOf [.ref 94, .int x1] S0 (rx_pi zr zS) := by
  unfold f_X11_dropsOf at h
  show EV gM (d + 2) mX11_dropsOf 0 [some (.ref 94), some (.int x1)] [] S0 (rx_pi zr zS)
  refine ev_aload_n (i := 0) 1 dX11_dropsOf_0 rfl rfl rfl ?_
  refine ev_iload_n (i := 1) 2 dX11_dropsOf_1 rfl rfl rfl ?_
  obtain ⟨x4, S3, g5, h⟩ := rx_bd_o h
  refine ev_cVv1 5 dX11_dropsOf_2 (em_X11_looksAtThird g5) mm_X11_looksAtThird mv_X11_looksAtThird lk_11_345 dk_94 (by decide) rfl (Nat.le_of_ble_eq_true rfl) (Nat.le_of_ble_eq_true rfl) rfl ?_
  refine ev_aload_n (i := 0) 6 dX11_dropsOf_5 rfl rfl rfl ?_
  refine ev_iconst (v := 3) 7 dX11_dropsOf_6 (by decide) rfl ?_
  refine ev_iconst (v := 0) 8 dX11_dropsOf_7 (by decide) rfl ?_
  obtain ⟨x7, S6, g8, h⟩ := rx_bd_o h
  refine ev_cVi2 11 dX11_dropsOf_8 (em_X11_asks g8) mm_X11_asks mv_X11_asks lk_11_339 dk_94 (by decide) rfl (Nat.le_of_ble_eq_true rfl) (Nat.le_of_ble_eq_true rfl) rfl ?_
  refine ev_iconst (v := 0) 12 dX11_dropsOf_11 (by decide) rfl ?_
  refine ev_bipush (v := 100) 14 dX11_dropsOf_12 (by decide) rfl ?_
  obtain ⟨x10, S9, g11, h⟩ := rx_bd_o h
  refine ev_cSi3 17 dX11_dropsOf_14 (em_X11_held g11) mm_X11_held ms_X11_held lk_11_342 (Nat.le_of_ble_eq_true rfl) (Nat.le_of_ble_eq_true rfl) rfl ?_
  exact ev_ireturn dX11_dropsOf_17 rfl (rx_ret_i h)

def f_X11_putBy_L12 (N : Nat) : Nat → Int32 → Int32 → Int32 → Int32 → Int32 → Int32 → rx_S → Option (Int32 × rx_S)
  | 0, _, _, _, _, _, _, _ => none
  | n + 1, x8, x9, x10, x11, x12, x13, S14 => if x11 ≤ x13 then (some (x12, S14)) else (rx_bd (f_X11_wordIn N x9 x11 x13 S14) (fun x17 S16 => rx_bd (f_X11_putAs N x8 x17 x13 S16) (fun x20 S19 => if x20 = 8 then (rx_let (x13 + 1) (fun x42 => f_X11_putBy_L12 N n x8 x9 x10 x11 x12 x42 S19)) else (rx_let (fun (x23 : Int32) (x24 : Int32) (x25 : Int32) (x26 : Int32) (x27 : Int32) (x28 : Int32) (x29 : Int32) (S30 : rx_S) => rx_let (((8 : Int32) * x27) + x29) (fun x31 => rx_let (x28 + 1) (fun x32 => f_X11_putBy_L12 N n x23 x24 x25 x26 x31 x32 S30))) (fun J89_1 => if x10 < 0 then (J89_1 x8 x9 x10 x11 x12 x13 x20 S19) else (rx_bd (f_X11_lotOf (((((256 : Int32) * (S19.1 127 44)) + ((64 : Int32) * x8)) + ((8 : Int32) * x10)) + x13) S19) (fun x35 S34 => rx_bd (f_X11_dropsOf N x8 S34) (fun x38 S37 => if x38 ≤ x35 then (J89_1 x8 x9 x10 x11 x12 x13 x20 S37) else (rx_let (x13 + 1) (fun x41 => f_X11_putBy_L12 N n x8 x9 x10 x11 x12 x41 S37))))))))))
def f_X11_putBy (N : Nat) (x1 : Int32) (x2 : Int32) (x3 : Int32) (S0 : rx_S) : Option (Int32 × rx_S) := rx_bd (f_X11_wordsIn N x2 S0) (fun x6 S5 => f_X11_putBy_L12 N N x1 x2 x3 x6 1 0 S5)
set_option maxHeartbeats 4000000 in
set_option maxRecDepth 20000 in
theorem em_X11_putBy_L12 {d N : Nat} {zr : Int32} {zS : rx_S} : ∀ (n : Nat) (x8 : Int32) (x9 : Int32) (x10 : Int32) (x11 : Int32) (x12 : Int32) (x13 : Int32) (S14 : rx_S), f_X11_putBy_L12 N n x8 x9 x10 x11 x12 x13 S14 = some (zr, zS) → EV gM (d + 4) mX11_putBy 12 [some (.ref 94), some (.int x8), some (.int x9), some (.int x10), some (.int x11), some (.int x12), some (.int x13), none] [] S14 (rx_pi zr zS) := by
  intro n
  induction n with
  | zero => intro x8 x9 x10 x11 x12 x13 S14 h; cases h
  | succ n ih =>
    intro x8 x9 x10 x11 x12 x13 S14 h
    rw [f_X11_putBy_L12] at h
    refine ev_iload 14 dX11_putBy_12 rfl rfl ?_
    refine ev_iload 16 dX11_putBy_14 rfl rfl ?_
    refine ev_icmp_ge 105 19 dX11_putBy_16 rfl rfl (fun c15 => ?_) (fun c15 => ?_)
    · replace h := rx_if_t c15 h
      refine ev_iload 107 dX11_putBy_105 rfl rfl ?_
      exact ev_ireturn dX11_putBy_107 rfl (rx_ret_i h)
    · replace h := rx_if_f c15 h
      refine ev_aload_n (i := 0) 20 dX11_putBy_19 rfl rfl rfl ?_
      refine ev_iload_n (i := 1) 21 dX11_putBy_20 rfl rfl rfl ?_
      refine ev_iload_n (i := 2) 22 dX11_putBy_21 rfl rfl rfl ?_
      refine ev_iload 24 dX11_putBy_22 rfl rfl ?_
      refine ev_iload 26 dX11_putBy_24 rfl rfl ?_
      obtain ⟨x17, S16, g18, h⟩ := rx_bd_o h
      refine ev_cSi3 29 dX11_putBy_26 (em_X11_wordIn g18) mm_X11_wordIn ms_X11_wordIn lk_11_354 (Nat.le_of_ble_eq_true rfl) (Nat.le_of_ble_eq_true rfl) rfl ?_
      refine ev_iload 31 dX11_putBy_29 rfl rfl ?_
      obtain ⟨x20, S19, g21, h⟩ := rx_bd_o h
      refine ev_cVi3 34 dX11_putBy_31 (em_X11_putAs g21) mm_X11_putAs mv_X11_putAs lk_11_357 dk_94 (by decide) rfl (Nat.le_of_ble_eq_true rfl) (Nat.le_of_ble_eq_true rfl) rfl ?_
      refine ev_istore (ls' := [some (.ref 94), some (.int x8), some (.int x9), some (.int x10), some (.int x11), some (.int x12), some (.int x13), some (.int x20)]) 36 dX11_putBy_34 (Nat.le_of_ble_eq_true rfl) rfl rfl ?_
      refine ev_iload 38 dX11_putBy_36 rfl rfl ?_
      refine ev_bipush (v := 8) 40 dX11_putBy_38 (by decide) rfl ?_
      refine ev_icmp_ne 46 43 dX11_putBy_40 rfl rfl (fun c22 => ?_) (fun c22 => ?_)
      · replace h := rx_if_f c22 h
        refine ev_iload_n (i := 3) 47 dX11_putBy_46 rfl rfl rfl ?_
        obtain ⟨J89_1, eJ89_1, h⟩ := rx_let_o h
        have hJ89_1 : ∀ (x23 : Int32) (x24 : Int32) (x25 : Int32) (x26 : Int32) (x27 : Int32) (x28 : Int32) (x29 : Int32) (S30 : rx_S), J89_1 x23 x24 x25 x26 x27 x28 x29 S30 = some (zr, zS) → EV gM (d + 4) mX11_putBy 89 [some (.ref 94), some (.int x23), some (.int x24), some (.int x25), some (.int x26), some (.int x27), some (.int x28), some (.int x29)] [] S30 (rx_pi zr zS) := by
          intro x23 x24 x25 x26 x27 x28 x29 S30 h
          subst eJ89_1
          refine ev_bipush (v := 8) 91 dX11_putBy_89 (by decide) rfl ?_
          refine ev_iload 93 dX11_putBy_91 rfl rfl ?_
          refine ev_imul 94 dX11_putBy_93 rfl ?_
          refine ev_iload 96 dX11_putBy_94 rfl rfl ?_
          refine ev_iadd 97 dX11_putBy_96 rfl ?_
          obtain ⟨x31, ex31, h⟩ := rx_let_o h
          refine ev_nm ex31 ?_
          refine ev_istore (ls' := [some (.ref 94), some (.int x23), some (.int x24), some (.int x25), some (.int x26), some (.int x31), some (.int x28), some (.int x29)]) 99 dX11_putBy_97 (Nat.le_of_ble_eq_true rfl) rfl rfl ?_
          obtain ⟨x32, ex32, h⟩ := rx_let_o h
          refine ev_iinc (v := x32) (ls' := [some (.ref 94), some (.int x23), some (.int x24), some (.int x25), some (.int x26), some (.int x31), some (.int x32), some (.int x29)]) 102 dX11_putBy_99 rfl (by rw [ex32]; rfl) (Nat.le_of_ble_eq_true rfl) rfl rfl ?_
          refine ev_goto 12 dX11_putBy_102 rfl ?_
          exact (ih _ _ _ _ _ _ _ h).fewer (rx_le_s (rx_le_s (rx_le_s (rx_le_s (rx_le_s (rx_le_s (rx_le_s (rx_le_n rx_le_0))))))))
        refine ev_if_lt 89 50 dX11_putBy_47 rfl rfl (fun c33 => ?_) (fun c33 => ?_)
        · replace h := rx_if_t c33 h
          exact (hJ89_1 _ _ _ _ _ _ _ _ h).fewer (rx_le_s (rx_le_s (rx_le_s (rx_le_s (rx_le_s (rx_le_s (rx_le_s (rx_le_s rx_le_0))))))))
        · replace h := rx_if_f c33 h
          refine ev_aload_n (i := 0) 51 dX11_putBy_50 rfl rfl rfl ?_
          refine ev_sipush (v := 256) 54 dX11_putBy_51 (by decide) rfl ?_
          refine ev_aload_n (i := 0) 55 dX11_putBy_54 rfl rfl rfl ?_
          refine ev_get (v := .ref 127) 58 dX11_putBy_55 dk_94 fl_11_116 (by decide) rfl rfl rfl ?_
          refine ev_bipush (v := 44) 60 dX11_putBy_58 (by decide) rfl ?_
          refine ex_iald 44 61 dX11_putBy_60 dk_127 (rx_vin (by decide)) (by decide) rfl ?_
          refine ev_imul 62 dX11_putBy_61 rfl ?_
          refine ev_bipush (v := 64) 64 dX11_putBy_62 (by decide) rfl ?_
          refine ev_iload_n (i := 1) 65 dX11_putBy_64 rfl rfl rfl ?_
          refine ev_imul 66 dX11_putBy_65 rfl ?_
          refine ev_iadd 67 dX11_putBy_66 rfl ?_
          refine ev_bipush (v := 8) 69 dX11_putBy_67 (by decide) rfl ?_
          refine ev_iload_n (i := 3) 70 dX11_putBy_69 rfl rfl rfl ?_
          refine ev_imul 71 dX11_putBy_70 rfl ?_
          refine ev_iadd 72 dX11_putBy_71 rfl ?_
          refine ev_iload 74 dX11_putBy_72 rfl rfl ?_
          refine ev_iadd 75 dX11_putBy_74 rfl ?_
          obtain ⟨x35, S34, g36, h⟩ := rx_bd_o h
          refine ev_cVi1 78 dX11_putBy_75 (em_X11_lotOf g36) mm_X11_lotOf mv_X11_lotOf lk_11_360 dk_94 (by decide) rfl (Nat.le_of_ble_eq_true rfl) (Nat.le_of_ble_eq_true rfl) rfl ?_
          refine ev_aload_n (i := 0) 79 dX11_putBy_78 rfl rfl rfl ?_
          refine ev_iload_n (i := 1) 80 dX11_putBy_79 rfl rfl rfl ?_
          obtain ⟨x38, S37, g39, h⟩ := rx_bd_o h
          refine ev_cVi1 83 dX11_putBy_80 (em_X11_dropsOf g39) mm_X11_dropsOf mv_X11_dropsOf lk_11_363 dk_94 (by decide) rfl (Nat.le_of_ble_eq_true rfl) (Nat.le_of_ble_eq_true rfl) rfl ?_
          refine ev_icmp_ge 89 86 dX11_putBy_83 rfl rfl (fun c40 => ?_) (fun c40 => ?_)
          · replace h := rx_if_t c40 h
            exact (hJ89_1 _ _ _ _ _ _ _ _ h).fewer (rx_le_s (rx_le_s (rx_le_s (rx_le_s (rx_le_s (rx_le_s (rx_le_s (rx_le_s rx_le_0))))))))
          · replace h := rx_if_f c40 h
            refine ev_goto 99 dX11_putBy_86 rfl ?_
            obtain ⟨x41, ex41, h⟩ := rx_let_o h
            refine ev_iinc (v := x41) (ls' := [some (.ref 94), some (.int x8), some (.int x9), some (.int x10), some (.int x11), some (.int x12), some (.int x41), some (.int x20)]) 102 dX11_putBy_99 rfl (by rw [ex41]; rfl) (Nat.le_of_ble_eq_true rfl) rfl rfl ?_
            refine ev_goto 12 dX11_putBy_102 rfl ?_
            exact (ih _ _ _ _ _ _ _ h).fewer (rx_le_s (rx_le_s (rx_le_s (rx_le_s (rx_le_s (rx_le_s (rx_le_s (rx_le_n rx_le_0))))))))
      · replace h := rx_if_t c22 h
        refine ev_goto 99 dX11_putBy_43 rfl ?_
        obtain ⟨x42, ex42, h⟩ := rx_let_o h
        refine ev_iinc (v := x42) (ls' := [some (.ref 94), some (.int x8), some (.int x9), some (.int x10), some (.int x11), some (.int x12), some (.int x42), some (.int x20)]) 102 dX11_putBy_99 rfl (by rw [ex42]; rfl) (Nat.le_of_ble_eq_true rfl) rfl rfl ?_
        refine ev_goto 12 dX11_putBy_102 rfl ?_
        exact (ih _ _ _ _ _ _ _ h).fewer (rx_le_s (rx_le_s (rx_le_s (rx_le_s (rx_le_s (rx_le_s (rx_le_s (rx_le_n rx_le_0))))))))

set_option maxHeartbeats 4000000 in
set_option maxRecDepth 20000 in
theorem em_X11_putBy {d N : Nat} {x1 : Int32} {x2 : Int32} {x3 : Int32} {S0 : rx_S} {zr : Int32} {zS : rx_S} (h : f_X11_putBy N x1 x2 x3 S0 = some (zr, zS)) : EM gM (d + 4) mX11_putBy [.ref 94, .int x1, .int x2, .int x3] S0 (rx_pi zr zS) := by
  unfold f_X11_putBy at h
  show EV gM (d + 4) mX11_putBy 0 [some (.ref 94), some (.int x1), some (.int x2), some (.int x3), none, none, none, none] [] S0 (rx_pi zr zS)
  refine ev_iload_n (i := 2) 1 dX11_putBy_0 rfl rfl rfl ?_
  obtain ⟨x6, S5, g7, h⟩ := rx_bd_o h
  refine ev_cSi1 4 dX11_putBy_1 (em_X11_wordsIn g7) mm_X11_wordsIn ms_X11_wordsIn lk_11_351 (Nat.le_of_ble_eq_true rfl) (Nat.le_of_ble_eq_true rfl) rfl ?_
  refine ev_istore (ls' := [some (.ref 94), some (.int x1), some (.int x2), some (.int x3), some (.int x6), none, none, none]) 6 dX11_putBy_4 (Nat.le_of_ble_eq_true rfl) rfl rfl ?_
  refine ev_iconst (v := 1) 7 dX11_putBy_6 (by decide) rfl ?_
  refine ev_istore (ls' := [some (.ref 94), some (.int x1), some (.int x2), some (.int x3), some (.int x6), some (.int 1), none, none]) 9 dX11_putBy_7 (Nat.le_of_ble_eq_true rfl) rfl rfl ?_
  refine ev_iconst (v := 0) 10 dX11_putBy_9 (by decide) rfl ?_
  refine ev_istore (ls' := [some (.ref 94), some (.int x1), some (.int x2), some (.int x3), some (.int x6), some (.int 1), some (.int 0), none]) 12 dX11_putBy_10 (Nat.le_of_ble_eq_true rfl) rfl rfl ?_
  exact (em_X11_putBy_L12 _ _ _ _ _ _ _ _ h).fewer (rx_le_s (rx_le_s (rx_le_s (rx_le_s (rx_le_s (rx_le_s (rx_le_s (rx_le_n rx_le_0))))))))

def f_X11_moodBehind_L16 (N : Nat) : Nat → Int32 → Int32 → Int32 → Int32 → Int32 → rx_S → Option (Int32 × rx_S)
  | 0, _, _, _, _, _, _ => none
  | n + 1, x9, x10, x11, x12, x13, S14 => if x11 ≤ x13 then (some (x12, S14)) else (rx_bd (f_X11_looks N S14) (fun x17 S16 => rx_bd (f_X11_wordIn N x10 x11 x13 S16) (fun x20 S19 => rx_let (rx_ui S19 124 0 x20) (fun S22 => rx_let (rx_ui S22 124 1 x13) (fun S23 => rx_let (rx_ui S23 124 2 x12) (fun S24 => rx_let (rx_ui S24 124 5 x9) (fun S25 => rx_bd (f_X11_asks N 4 0 S25) (fun x27 S26 => rx_bd (f_X11_held x27 (-9) 9 S26) (fun x30 S29 => rx_bd (f_X11_held (x12 + x30) 0 99 S29) (fun x33 S32 => rx_let (x13 + 1) (fun x35 => f_X11_moodBehind_L16 N n x9 x10 x11 x33 x35 S32)))))))))))
def f_X11_moodBehind (N : Nat) (x1 : Int32) (x2 : Int32) (S0 : rx_S) : Option (Int32 × rx_S) := rx_bd (f_X11_wordsIn N x2 S0) (fun x5 S4 => rx_gd x1 48 (rx_let (S4.1 127 (Int32.toNatClampNeg x1)) (fun x8 => f_X11_moodBehind_L16 N N x1 x2 x5 x8 0 S4)))
set_option maxHeartbeats 4000000 in
set_option maxRecDepth 20000 in
theorem em_X11_moodBehind_L16 {d N : Nat} {zr : Int32} {zS : rx_S} : ∀ (n : Nat) (x9 : Int32) (x10 : Int32) (x11 : Int32) (x12 : Int32) (x13 : Int32) (S14 : rx_S), f_X11_moodBehind_L16 N n x9 x10 x11 x12 x13 S14 = some (zr, zS) → EV gM (d + 2) mX11_moodBehind 16 [some (.ref 94), some (.int x9), some (.int x10), some (.int x11), some (.int x12), some (.int x13)] [] S14 (rx_pi zr zS) := by
  intro n
  induction n with
  | zero => intro x9 x10 x11 x12 x13 S14 h; cases h
  | succ n ih =>
    intro x9 x10 x11 x12 x13 S14 h
    rw [f_X11_moodBehind_L16] at h
    refine ev_iload 18 dX11_moodBehind_16 rfl rfl ?_
    refine ev_iload_n (i := 3) 19 dX11_moodBehind_18 rfl rfl rfl ?_
    refine ev_icmp_ge 92 22 dX11_moodBehind_19 rfl rfl (fun c15 => ?_) (fun c15 => ?_)
    · replace h := rx_if_t c15 h
      refine ev_iload 94 dX11_moodBehind_92 rfl rfl ?_
      exact ev_ireturn dX11_moodBehind_94 rfl (rx_ret_i h)
    · replace h := rx_if_f c15 h
      refine ev_aload_n (i := 0) 23 dX11_moodBehind_22 rfl rfl rfl ?_
      obtain ⟨x17, S16, g18, h⟩ := rx_bd_o h
      refine ev_cVv0 26 dX11_moodBehind_23 (em_X11_looks g18) mm_X11_looks mv_X11_looks lk_11_333 dk_94 (by decide) rfl (Nat.le_of_ble_eq_true rfl) (Nat.le_of_ble_eq_true rfl) rfl ?_
      refine ev_aload_n (i := 0) 27 dX11_moodBehind_26 rfl rfl rfl ?_
      refine ev_get (v := .ref 124) 30 dX11_moodBehind_27 dk_94 fl_11_107 (by decide) rfl rfl rfl ?_
      refine ev_iconst (v := 0) 31 dX11_moodBehind_30 (by decide) rfl ?_
      refine ev_iload_n (i := 2) 32 dX11_moodBehind_31 rfl rfl rfl ?_
      refine ev_iload_n (i := 3) 33 dX11_moodBehind_32 rfl rfl rfl ?_
      refine ev_iload 35 dX11_moodBehind_33 rfl rfl ?_
      obtain ⟨x20, S19, g21, h⟩ := rx_bd_o h
      refine ev_cSi3 38 dX11_moodBehind_35 (em_X11_wordIn g21) mm_X11_wordIn ms_X11_wordIn lk_11_354 (Nat.le_of_ble_eq_true rfl) (Nat.le_of_ble_eq_true rfl) rfl ?_
      obtain ⟨S22, eS22, h⟩ := rx_let_o h
      refine ex_iast 0 39 dX11_moodBehind_38 dk_124 (rx_vin (by decide)) (by decide) rfl eS22 ?_
      refine ev_aload_n (i := 0) 40 dX11_moodBehind_39 rfl rfl rfl ?_
      refine ev_get (v := .ref 124) 43 dX11_moodBehind_40 dk_94 fl_11_107 (by decide) rfl rfl rfl ?_
      refine ev_iconst (v := 1) 44 dX11_moodBehind_43 (by decide) rfl ?_
      refine ev_iload 46 dX11_moodBehind_44 rfl rfl ?_
      obtain ⟨S23, eS23, h⟩ := rx_let_o h
      refine ex_iast 1 47 dX11_moodBehind_46 dk_124 (rx_vin (by decide)) (by decide) rfl eS23 ?_
      refine ev_aload_n (i := 0) 48 dX11_moodBehind_47 rfl rfl rfl ?_
      refine ev_get (v := .ref 124) 51 dX11_moodBehind_48 dk_94 fl_11_107 (by decide) rfl rfl rfl ?_
      refine ev_iconst (v := 2) 52 dX11_moodBehind_51 (by decide) rfl ?_
      refine ev_iload 54 dX11_moodBehind_52 rfl rfl ?_
      obtain ⟨S24, eS24, h⟩ := rx_let_o h
      refine ex_iast 2 55 dX11_moodBehind_54 dk_124 (rx_vin (by decide)) (by decide) rfl eS24 ?_
      refine ev_aload_n (i := 0) 56 dX11_moodBehind_55 rfl rfl rfl ?_
      refine ev_get (v := .ref 124) 59 dX11_moodBehind_56 dk_94 fl_11_107 (by decide) rfl rfl rfl ?_
      refine ev_iconst (v := 5) 60 dX11_moodBehind_59 (by decide) rfl ?_
      refine ev_iload_n (i := 1) 61 dX11_moodBehind_60 rfl rfl rfl ?_
      obtain ⟨S25, eS25, h⟩ := rx_let_o h
      refine ex_iast 5 62 dX11_moodBehind_61 dk_124 (rx_vin (by decide)) (by decide) rfl eS25 ?_
      refine ev_iload 64 dX11_moodBehind_62 rfl rfl ?_
      refine ev_aload_n (i := 0) 65 dX11_moodBehind_64 rfl rfl rfl ?_
      refine ev_iconst (v := 4) 66 dX11_moodBehind_65 (by decide) rfl ?_
      refine ev_iconst (v := 0) 67 dX11_moodBehind_66 (by decide) rfl ?_
      obtain ⟨x27, S26, g28, h⟩ := rx_bd_o h
      refine ev_cVi2 70 dX11_moodBehind_67 (em_X11_asks g28) mm_X11_asks mv_X11_asks lk_11_339 dk_94 (by decide) rfl (Nat.le_of_ble_eq_true rfl) (Nat.le_of_ble_eq_true rfl) rfl ?_
      refine ev_bipush (v := (-9)) 72 dX11_moodBehind_70 (by decide) rfl ?_
      refine ev_bipush (v := 9) 74 dX11_moodBehind_72 (by decide) rfl ?_
      obtain ⟨x30, S29, g31, h⟩ := rx_bd_o h
      refine ev_cSi3 77 dX11_moodBehind_74 (em_X11_held g31) mm_X11_held ms_X11_held lk_11_342 (Nat.le_of_ble_eq_true rfl) (Nat.le_of_ble_eq_true rfl) rfl ?_
      refine ev_iadd 78 dX11_moodBehind_77 rfl ?_
      refine ev_iconst (v := 0) 79 dX11_moodBehind_78 (by decide) rfl ?_
      refine ev_bipush (v := 99) 81 dX11_moodBehind_79 (by decide) rfl ?_
      obtain ⟨x33, S32, g34, h⟩ := rx_bd_o h
      refine ev_cSi3 84 dX11_moodBehind_81 (em_X11_held g34) mm_X11_held ms_X11_held lk_11_342 (Nat.le_of_ble_eq_true rfl) (Nat.le_of_ble_eq_true rfl) rfl ?_
      refine ev_istore (ls' := [some (.ref 94), some (.int x9), some (.int x10), some (.int x11), some (.int x33), some (.int x13)]) 86 dX11_moodBehind_84 (Nat.le_of_ble_eq_true rfl) rfl rfl ?_
      obtain ⟨x35, ex35, h⟩ := rx_let_o h
      refine ev_iinc (v := x35) (ls' := [some (.ref 94), some (.int x9), some (.int x10), some (.int x11), some (.int x33), some (.int x35)]) 89 dX11_moodBehind_86 rfl (by rw [ex35]; rfl) (Nat.le_of_ble_eq_true rfl) rfl rfl ?_
      refine ev_goto 16 dX11_moodBehind_89 rfl ?_
      exact (ih _ _ _ _ _ _ h).fewer (rx_le_s (rx_le_s (rx_le_s (rx_le_s (rx_le_s (rx_le_s rx_le_0))))))

set_option maxHeartbeats 4000000 in
set_option maxRecDepth 20000 in
theorem em_X11_moodBehind {d N : Nat} {x1 : Int32} {x2 : Int32} {S0 : rx_S} {zr : Int32} {zS : rx_S} (h : f_X11_moodBehind N x1 x2 S0 = some (zr, zS)) : EM gM (d + 2) mX11_moodBehind [.ref 94, .int x1, .int x2] S0 (rx_pi zr zS) := by
  unfold f_X11_moodBehind at h
  show EV gM (d + 2) mX11_moodBehind 0 [some (.ref 94), some (.int x1), some (.int x2), none, none, none] [] S0 (rx_pi zr zS)
  refine ev_iload_n (i := 2) 1 dX11_moodBehind_0 rfl rfl rfl ?_
  obtain ⟨x5, S4, g6, h⟩ := rx_bd_o h
  refine ev_cSi1 4 dX11_moodBehind_1 (em_X11_wordsIn g6) mm_X11_wordsIn ms_X11_wordsIn lk_11_351 (Nat.le_of_ble_eq_true rfl) (Nat.le_of_ble_eq_true rfl) rfl ?_
  refine ev_istore_n (ls' := [some (.ref 94), some (.int x1), some (.int x2), some (.int x5), none, none]) 5 dX11_moodBehind_4 rfl (Nat.le_of_ble_eq_true rfl) rfl rfl ?_
  refine ev_aload_n (i := 0) 6 dX11_moodBehind_5 rfl rfl rfl ?_
  refine ev_get (v := .ref 127) 9 dX11_moodBehind_6 dk_94 fl_11_116 (by decide) rfl rfl rfl ?_
  refine ev_iload_n (i := 1) 10 dX11_moodBehind_9 rfl rfl rfl ?_
  obtain ⟨g7, h⟩ := rx_gd_o h
  refine ex_iald _ 11 dX11_moodBehind_10 dk_127 g7 rfl rfl ?_
  obtain ⟨x8, ex8, h⟩ := rx_let_o h
  refine ev_nm ex8 ?_
  refine ev_istore (ls' := [some (.ref 94), some (.int x1), some (.int x2), some (.int x5), some (.int x8), none]) 13 dX11_moodBehind_11 (Nat.le_of_ble_eq_true rfl) rfl rfl ?_
  refine ev_iconst (v := 0) 14 dX11_moodBehind_13 (by decide) rfl ?_
  refine ev_istore (ls' := [some (.ref 94), some (.int x1), some (.int x2), some (.int x5), some (.int x8), some (.int 0)]) 16 dX11_moodBehind_14 (Nat.le_of_ble_eq_true rfl) rfl rfl ?_
  exact (em_X11_moodBehind_L16 _ _ _ _ _ _ _ h).fewer (rx_le_s (rx_le_s (rx_le_s (rx_le_s (rx_le_s (rx_le_s rx_le_0))))))

def f_X11_partnerIn (x1 : Int32) (x2 : Int32) (S0 : rx_S) : Option (Int32 × rx_S) := rx_gd (((2 : Int32) * (((3 : Int32) * (S0.1 94 18)) + x1)) + x2) 12 (some ((S0.1 108 (Int32.toNatClampNeg (((2 : Int32) * (((3 : Int32) * (S0.1 94 18)) + x1)) + x2))), S0))
set_option maxHeartbeats 4000000 in
set_option maxRecDepth 20000 in
theorem em_X11_partnerIn {d : Nat} {x1 : Int32} {x2 : Int32} {S0 : rx_S} {zr : Int32} {zS : rx_S} (h : f_X11_partnerIn x1 x2 S0 = some (zr, zS)) : EM gM d mX11_partnerIn [.ref 94, .int x1, .int x2] S0 (rx_pi zr zS) := by
  unfold f_X11_partnerIn at h
  show EV gM d mX11_partnerIn 0 [some (.ref 94), some (.int x1), some (.int x2)] [] S0 (rx_pi zr zS)
  refine ev_aload_n (i := 0) 1 dX11_partnerIn_0 rfl rfl rfl ?_
  refine ev_get (v := .ref 108) 4 dX11_partnerIn_1 dk_94 fl_11_58 (by decide) rfl rfl rfl ?_
  refine ev_iconst (v := 2) 5 dX11_partnerIn_4 (by decide) rfl ?_
  refine ev_iconst (v := 3) 6 dX11_partnerIn_5 (by decide) rfl ?_
  refine ev_aload_n (i := 0) 7 dX11_partnerIn_6 rfl rfl rfl ?_
  refine ev_get (v := .int (S0.1 94 18)) 10 dX11_partnerIn_7 dk_94 fl_11_233 (by decide) rfl rfl rfl ?_
  refine ev_imul 11 dX11_partnerIn_10 rfl ?_
  refine ev_iload_n (i := 1) 12 dX11_partnerIn_11 rfl rfl rfl ?_
  refine ev_iadd 13 dX11_partnerIn_12 rfl ?_
  refine ev_imul 14 dX11_partnerIn_13 rfl ?_
  refine ev_iload_n (i := 2) 15 dX11_partnerIn_14 rfl rfl rfl ?_
  refine ev_iadd 16 dX11_partnerIn_15 rfl ?_
  obtain ⟨g4, h⟩ := rx_gd_o h
  refine ex_iald _ 17 dX11_partnerIn_16 dk_108 g4 rfl rfl ?_
  exact ev_ireturn dX11_partnerIn_17 rfl (rx_ret_i h)

def f_X11_speakerOf (x1 : Int32) (S0 : rx_S) : Option (Int32 × rx_S) := rx_bd (f_X11_partnerIn x1 (rx_rem (S0.1 127 44) 2) S0) (fun x4 S3 => some (x4, S3))
set_option maxHeartbeats 4000000 in
set_option maxRecDepth 20000 in
theorem em_X11_speakerOf {d : Nat} {x1 : Int32} {S0 : rx_S} {zr : Int32} {zS : rx_S} (h : f_X11_speakerOf x1 S0 = some (zr, zS)) : EM gM (d + 1) mX11_speakerOf [.ref 94, .int x1] S0 (rx_pi zr zS) := by
  unfold f_X11_speakerOf at h
  show EV gM (d + 1) mX11_speakerOf 0 [some (.ref 94), some (.int x1)] [] S0 (rx_pi zr zS)
  refine ev_aload_n (i := 0) 1 dX11_speakerOf_0 rfl rfl rfl ?_
  refine ev_iload_n (i := 1) 2 dX11_speakerOf_1 rfl rfl rfl ?_
  refine ev_aload_n (i := 0) 3 dX11_speakerOf_2 rfl rfl rfl ?_
  refine ev_get (v := .ref 127) 6 dX11_speakerOf_3 dk_94 fl_11_116 (by decide) rfl rfl rfl ?_
  refine ev_bipush (v := 44) 8 dX11_speakerOf_6 (by decide) rfl ?_
  refine ex_iald 44 9 dX11_speakerOf_8 dk_127 (rx_vin (by decide)) (by decide) rfl ?_
  refine ev_iconst (v := 2) 10 dX11_speakerOf_9 (by decide) rfl ?_
  refine ev_rem 11 dX11_speakerOf_10 (by decide) rfl ?_
  obtain ⟨x4, S3, g5, h⟩ := rx_bd_o h
  refine ev_cVi2 14 dX11_speakerOf_11 (em_X11_partnerIn g5) mm_X11_partnerIn mv_X11_partnerIn lk_11_366 dk_94 (by decide) rfl (Nat.le_of_ble_eq_true rfl) (Nat.le_of_ble_eq_true rfl) rfl ?_
  exact ev_ireturn dX11_speakerOf_14 rfl (rx_ret_i h)

def f_X11_talks (N : Nat) (x1 : Int32) (S0 : rx_S) : Option (Unit × rx_S) := rx_gd ((12 : Int32) + x1) 48 (rx_let (S0.1 127 (Int32.toNatClampNeg ((12 : Int32) + x1))) (fun x4 => rx_bd (f_X11_speakerOf x1 S0) (fun x6 S5 => rx_bd (f_X11_partnerIn x1 ((1 : Int32) - (rx_rem (S5.1 127 44) 2)) S5) (fun x9 S8 => rx_bd (f_X11_saidBy N x6 S8) (fun x12 S11 => rx_bd (f_X11_wordsIn N x12 S11) (fun x15 S14 => rx_bd (f_X11_putBy N x4 x12 x1 S14) (fun x18 S17 => rx_bd (f_X11_looks N S17) (fun x21 S20 => rx_gd x6 48 (rx_let (rx_ui S20 124 2 (S20.1 127 (Int32.toNatClampNeg x6))) (fun S24 => rx_gd ((24 : Int32) + x4) 48 (rx_let (rx_ui S24 124 3 (S24.1 127 (Int32.toNatClampNeg ((24 : Int32) + x4)))) (fun S26 => rx_gd ((28 : Int32) + x4) 48 (rx_let (rx_ui S26 124 4 (S26.1 127 (Int32.toNatClampNeg ((28 : Int32) + x4)))) (fun S28 => rx_let (rx_ui S28 124 5 x1) (fun S29 => rx_bd (f_X11_asks N 5 0 S29) (fun x31 S30 => rx_bd (f_X11_held x31 0 9 S30) (fun x34 S33 => rx_bd (f_X11_moodBehind N x9 x18 S33) (fun x37 S36 => rx_gd x9 48 (rx_let (rx_ui S36 127 (Int32.toNatClampNeg x9) x37) (fun S40 => rx_gd ((6 : Int32) + x9) 48 (rx_bd (f_X11_wordsIn N x18 S40) (fun x43 S42 => rx_gd ((6 : Int32) + x9) 48 (rx_let (rx_ui S42 127 (Int32.toNatClampNeg ((6 : Int32) + x9)) ((S40.1 127 (Int32.toNatClampNeg ((6 : Int32) + x9))) + x43)) (fun S46 => rx_gd ((18 : Int32) + x1) 48 (rx_gd (((4 : Int32) * (S46.1 94 18)) + x4) 8 (rx_gd ((18 : Int32) + x1) 48 (rx_let (rx_ui S46 127 (Int32.toNatClampNeg ((18 : Int32) + x1)) ((S46.1 127 (Int32.toNatClampNeg ((18 : Int32) + x1))) + (x15 * (S46.1 110 (Int32.toNatClampNeg (((4 : Int32) * (S46.1 94 18)) + x4)))))) (fun S50 => rx_gd ((36 : Int32) + x4) 48 (rx_gd (((4 : Int32) * (S50.1 94 18)) + x4) 8 (rx_gd ((36 : Int32) + x4) 48 (rx_let (rx_ui S50 127 (Int32.toNatClampNeg ((36 : Int32) + x4)) ((S50.1 127 (Int32.toNatClampNeg ((36 : Int32) + x4))) + (x15 * (S50.1 110 (Int32.toNatClampNeg (((4 : Int32) * (S50.1 94 18)) + x4)))))) (fun S54 => rx_gd ((24 : Int32) + x4) 48 (rx_bd (f_X11_held ((S54.1 127 (Int32.toNatClampNeg ((24 : Int32) + x4))) + x15) 0 99 S54) (fun x57 S56 => rx_gd ((24 : Int32) + x4) 48 (rx_let (rx_ui S56 127 (Int32.toNatClampNeg ((24 : Int32) + x4)) x57) (fun S60 => rx_gd ((28 : Int32) + x4) 48 (rx_bd (f_X11_held ((S60.1 127 (Int32.toNatClampNeg ((28 : Int32) + x4))) + x34) 0 99 S60) (fun x63 S62 => rx_gd ((28 : Int32) + x4) 48 (rx_let (rx_ui S62 127 (Int32.toNatClampNeg ((28 : Int32) + x4)) x63) (fun S66 => rx_let (rx_ui S66 127 45 ((S66.1 127 45) + x15)) (fun S67 => rx_bd (f_X11_wordsIn N x18 S67) (fun x69 S68 => rx_let (rx_ui S68 127 46 ((S67.1 127 46) + x69)) (fun S71 => rx_gd ((32 : Int32) + x4) 48 (if (S71.1 127 (Int32.toNatClampNeg ((32 : Int32) + x4))) = 0 then (some ((), S71)) else (if x18 = x12 then (some ((), S71)) else (rx_gd ((40 : Int32) + x4) 48 (rx_gd ((40 : Int32) + x4) 48 (rx_let (rx_ui S71 127 (Int32.toNatClampNeg ((40 : Int32) + x4)) ((S71.1 127 (Int32.toNatClampNeg ((40 : Int32) + x4))) + 1)) (fun S77 => rx_gd ((36 : Int32) + x4) 48 (rx_gd (S77.1 94 18) 2 (rx_gd ((36 : Int32) + x4) 48 (rx_let (rx_ui S77 127 (Int32.toNatClampNeg ((36 : Int32) + x4)) ((S77.1 127 (Int32.toNatClampNeg ((36 : Int32) + x4))) - (S77.1 112 (Int32.toNatClampNeg (S77.1 94 18))))) (fun S81 => some ((), S81))))))))))))))))))))))))))))))))))))))))))))))))))))))
set_option maxHeartbeats 4000000 in
set_option maxRecDepth 20000 in
theorem em_X11_talks {d N : Nat} {x1 : Int32} {S0 : rx_S} {zr : Unit} {zS : rx_S} (h : f_X11_talks N x1 S0 = some (zr, zS)) : EM gM (d + 5) mX11_talks [.ref 94, .int x1] S0 (rx_pv zS) := by
  unfold f_X11_talks at h
  show EV gM (d + 5) mX11_talks 0 [some (.ref 94), some (.int x1), none, none, none, none, none, none, none] [] S0 (rx_pv zS)
  refine ev_aload_n (i := 0) 1 dX11_talks_0 rfl rfl rfl ?_
  refine ev_get (v := .ref 127) 4 dX11_talks_1 dk_94 fl_11_116 (by decide) rfl rfl rfl ?_
  refine ev_bipush (v := 12) 6 dX11_talks_4 (by decide) rfl ?_
  refine ev_iload_n (i := 1) 7 dX11_talks_6 rfl rfl rfl ?_
  refine ev_iadd 8 dX11_talks_7 rfl ?_
  obtain ⟨g3, h⟩ := rx_gd_o h
  refine ex_iald _ 9 dX11_talks_8 dk_127 g3 rfl rfl ?_
  obtain ⟨x4, ex4, h⟩ := rx_let_o h
  refine ev_nm ex4 ?_
  refine ev_istore_n (ls' := [some (.ref 94), some (.int x1), some (.int x4), none, none, none, none, none, none]) 10 dX11_talks_9 rfl (Nat.le_of_ble_eq_true rfl) rfl rfl ?_
  refine ev_aload_n (i := 0) 11 dX11_talks_10 rfl rfl rfl ?_
  refine ev_iload_n (i := 1) 12 dX11_talks_11 rfl rfl rfl ?_
  obtain ⟨x6, S5, g7, h⟩ := rx_bd_o h
  refine ev_cVi1 15 dX11_talks_12 (em_X11_speakerOf g7) mm_X11_speakerOf mv_X11_speakerOf lk_11_369 dk_94 (by decide) rfl (Nat.le_of_ble_eq_true rfl) (Nat.le_of_ble_eq_true rfl) rfl ?_
  refine ev_istore_n (ls' := [some (.ref 94), some (.int x1), some (.int x4), some (.int x6), none, none, none, none, none]) 16 dX11_talks_15 rfl (Nat.le_of_ble_eq_true rfl) rfl rfl ?_
  refine ev_aload_n (i := 0) 17 dX11_talks_16 rfl rfl rfl ?_
  refine ev_iload_n (i := 1) 18 dX11_talks_17 rfl rfl rfl ?_
  refine ev_iconst (v := 1) 19 dX11_talks_18 (by decide) rfl ?_
  refine ev_aload_n (i := 0) 20 dX11_talks_19 rfl rfl rfl ?_
  refine ev_get (v := .ref 127) 23 dX11_talks_20 dk_94 fl_11_116 (by decide) rfl rfl rfl ?_
  refine ev_bipush (v := 44) 25 dX11_talks_23 (by decide) rfl ?_
  refine ex_iald 44 26 dX11_talks_25 dk_127 (rx_vin (by decide)) (by decide) rfl ?_
  refine ev_iconst (v := 2) 27 dX11_talks_26 (by decide) rfl ?_
  refine ev_rem 28 dX11_talks_27 (by decide) rfl ?_
  refine ev_isub 29 dX11_talks_28 rfl ?_
  obtain ⟨x9, S8, g10, h⟩ := rx_bd_o h
  refine ev_cVi2 32 dX11_talks_29 (em_X11_partnerIn g10) mm_X11_partnerIn mv_X11_partnerIn lk_11_366 dk_94 (by decide) rfl (Nat.le_of_ble_eq_true rfl) (Nat.le_of_ble_eq_true rfl) rfl ?_
  refine ev_istore (ls' := [some (.ref 94), some (.int x1), some (.int x4), some (.int x6), some (.int x9), none, none, none, none]) 34 dX11_talks_32 (Nat.le_of_ble_eq_true rfl) rfl rfl ?_
  refine ev_aload_n (i := 0) 35 dX11_talks_34 rfl rfl rfl ?_
  refine ev_iload_n (i := 3) 36 dX11_talks_35 rfl rfl rfl ?_
  obtain ⟨x12, S11, g13, h⟩ := rx_bd_o h
  refine ev_cVi1 39 dX11_talks_36 (em_X11_saidBy g13) mm_X11_saidBy mv_X11_saidBy lk_11_372 dk_94 (by decide) rfl (Nat.le_of_ble_eq_true rfl) (Nat.le_of_ble_eq_true rfl) rfl ?_
  refine ev_istore (ls' := [some (.ref 94), some (.int x1), some (.int x4), some (.int x6), some (.int x9), some (.int x12), none, none, none]) 41 dX11_talks_39 (Nat.le_of_ble_eq_true rfl) rfl rfl ?_
  refine ev_iload 43 dX11_talks_41 rfl rfl ?_
  obtain ⟨x15, S14, g16, h⟩ := rx_bd_o h
  refine ev_cSi1 46 dX11_talks_43 (em_X11_wordsIn g16) mm_X11_wordsIn ms_X11_wordsIn lk_11_351 (Nat.le_of_ble_eq_true rfl) (Nat.le_of_ble_eq_true rfl) rfl ?_
  refine ev_istore (ls' := [some (.ref 94), some (.int x1), some (.int x4), some (.int x6), some (.int x9), some (.int x12), some (.int x15), none, none]) 48 dX11_talks_46 (Nat.le_of_ble_eq_true rfl) rfl rfl ?_
  refine ev_aload_n (i := 0) 49 dX11_talks_48 rfl rfl rfl ?_
  refine ev_iload_n (i := 2) 50 dX11_talks_49 rfl rfl rfl ?_
  refine ev_iload 52 dX11_talks_50 rfl rfl ?_
  refine ev_iload_n (i := 1) 53 dX11_talks_52 rfl rfl rfl ?_
  obtain ⟨x18, S17, g19, h⟩ := rx_bd_o h
  refine ev_cVi3 56 dX11_talks_53 (em_X11_putBy g19) mm_X11_putBy mv_X11_putBy lk_11_375 dk_94 (by decide) rfl (Nat.le_of_ble_eq_true rfl) (Nat.le_of_ble_eq_true rfl) rfl ?_
  refine ev_istore (ls' := [some (.ref 94), some (.int x1), some (.int x4), some (.int x6), some (.int x9), some (.int x12), some (.int x15), some (.int x18), none]) 58 dX11_talks_56 (Nat.le_of_ble_eq_true rfl) rfl rfl ?_
  refine ev_aload_n (i := 0) 59 dX11_talks_58 rfl rfl rfl ?_
  obtain ⟨x21, S20, g22, h⟩ := rx_bd_o h
  refine ev_cVv0 62 dX11_talks_59 (em_X11_looks g22) mm_X11_looks mv_X11_looks lk_11_333 dk_94 (by decide) rfl (Nat.le_of_ble_eq_true rfl) (Nat.le_of_ble_eq_true rfl) rfl ?_
  refine ev_aload_n (i := 0) 63 dX11_talks_62 rfl rfl rfl ?_
  refine ev_get (v := .ref 124) 66 dX11_talks_63 dk_94 fl_11_107 (by decide) rfl rfl rfl ?_
  refine ev_iconst (v := 2) 67 dX11_talks_66 (by decide) rfl ?_
  refine ev_aload_n (i := 0) 68 dX11_talks_67 rfl rfl rfl ?_
  refine ev_get (v := .ref 127) 71 dX11_talks_68 dk_94 fl_11_116 (by decide) rfl rfl rfl ?_
  refine ev_iload_n (i := 3) 72 dX11_talks_71 rfl rfl rfl ?_
  obtain ⟨g23, h⟩ := rx_gd_o h
  refine ex_iald _ 73 dX11_talks_72 dk_127 g23 rfl rfl ?_
  obtain ⟨S24, eS24, h⟩ := rx_let_o h
  refine ex_iast 2 74 dX11_talks_73 dk_124 (rx_vin (by decide)) (by decide) rfl eS24 ?_
  refine ev_aload_n (i := 0) 75 dX11_talks_74 rfl rfl rfl ?_
  refine ev_get (v := .ref 124) 78 dX11_talks_75 dk_94 fl_11_107 (by decide) rfl rfl rfl ?_
  refine ev_iconst (v := 3) 79 dX11_talks_78 (by decide) rfl ?_
  refine ev_aload_n (i := 0) 80 dX11_talks_79 rfl rfl rfl ?_
  refine ev_get (v := .ref 127) 83 dX11_talks_80 dk_94 fl_11_116 (by decide) rfl rfl rfl ?_
  refine ev_bipush (v := 24) 85 dX11_talks_83 (by decide) rfl ?_
  refine ev_iload_n (i := 2) 86 dX11_talks_85 rfl rfl rfl ?_
  refine ev_iadd 87 dX11_talks_86 rfl ?_
  obtain ⟨g25, h⟩ := rx_gd_o h
  refine ex_iald _ 88 dX11_talks_87 dk_127 g25 rfl rfl ?_
  obtain ⟨S26, eS26, h⟩ := rx_let_o h
  refine ex_iast 3 89 dX11_talks_88 dk_124 (rx_vin (by decide)) (by decide) rfl eS26 ?_
  refine ev_aload_n (i := 0) 90 dX11_talks_89 rfl rfl rfl ?_
  refine ev_get (v := .ref 124) 93 dX11_talks_90 dk_94 fl_11_107 (by decide) rfl rfl rfl ?_
  refine ev_iconst (v := 4) 94 dX11_talks_93 (by decide) rfl ?_
  refine ev_aload_n (i := 0) 95 dX11_talks_94 rfl rfl rfl ?_
  refine ev_get (v := .ref 127) 98 dX11_talks_95 dk_94 fl_11_116 (by decide) rfl rfl rfl ?_
  refine ev_bipush (v := 28) 100 dX11_talks_98 (by decide) rfl ?_
  refine ev_iload_n (i := 2) 101 dX11_talks_100 rfl rfl rfl ?_
  refine ev_iadd 102 dX11_talks_101 rfl ?_
  obtain ⟨g27, h⟩ := rx_gd_o h
  refine ex_iald _ 103 dX11_talks_102 dk_127 g27 rfl rfl ?_
  obtain ⟨S28, eS28, h⟩ := rx_let_o h
  refine ex_iast 4 104 dX11_talks_103 dk_124 (rx_vin (by decide)) (by decide) rfl eS28 ?_
  refine ev_aload_n (i := 0) 105 dX11_talks_104 rfl rfl rfl ?_
  refine ev_get (v := .ref 124) 108 dX11_talks_105 dk_94 fl_11_107 (by decide) rfl rfl rfl ?_
  refine ev_iconst (v := 5) 109 dX11_talks_108 (by decide) rfl ?_
  refine ev_iload_n (i := 1) 110 dX11_talks_109 rfl rfl rfl ?_
  obtain ⟨S29, eS29, h⟩ := rx_let_o h
  refine ex_iast 5 111 dX11_talks_110 dk_124 (rx_vin (by decide)) (by decide) rfl eS29 ?_
  refine ev_aload_n (i := 0) 112 dX11_talks_111 rfl rfl rfl ?_
  refine ev_iconst (v := 5) 113 dX11_talks_112 (by decide) rfl ?_
  refine ev_iconst (v := 0) 114 dX11_talks_113 (by decide) rfl ?_
  obtain ⟨x31, S30, g32, h⟩ := rx_bd_o h
  refine ev_cVi2 117 dX11_talks_114 (em_X11_asks g32) mm_X11_asks mv_X11_asks lk_11_339 dk_94 (by decide) rfl (Nat.le_of_ble_eq_true rfl) (Nat.le_of_ble_eq_true rfl) rfl ?_
  refine ev_iconst (v := 0) 118 dX11_talks_117 (by decide) rfl ?_
  refine ev_bipush (v := 9) 120 dX11_talks_118 (by decide) rfl ?_
  obtain ⟨x34, S33, g35, h⟩ := rx_bd_o h
  refine ev_cSi3 123 dX11_talks_120 (em_X11_held g35) mm_X11_held ms_X11_held lk_11_342 (Nat.le_of_ble_eq_true rfl) (Nat.le_of_ble_eq_true rfl) rfl ?_
  refine ev_istore (ls' := [some (.ref 94), some (.int x1), some (.int x4), some (.int x6), some (.int x9), some (.int x12), some (.int x15), some (.int x18), some (.int x34)]) 125 dX11_talks_123 (Nat.le_of_ble_eq_true rfl) rfl rfl ?_
  refine ev_aload_n (i := 0) 126 dX11_talks_125 rfl rfl rfl ?_
  refine ev_get (v := .ref 127) 129 dX11_talks_126 dk_94 fl_11_116 (by decide) rfl rfl rfl ?_
  refine ev_iload 131 dX11_talks_129 rfl rfl ?_
  refine ev_aload_n (i := 0) 132 dX11_talks_131 rfl rfl rfl ?_
  refine ev_iload 134 dX11_talks_132 rfl rfl ?_
  refine ev_iload 136 dX11_talks_134 rfl rfl ?_
  obtain ⟨x37, S36, g38, h⟩ := rx_bd_o h
  refine ev_cVi2 139 dX11_talks_136 (em_X11_moodBehind g38) mm_X11_moodBehind mv_X11_moodBehind lk_11_378 dk_94 (by decide) rfl (Nat.le_of_ble_eq_true rfl) (Nat.le_of_ble_eq_true rfl) rfl ?_
  obtain ⟨g39, h⟩ := rx_gd_o h
  obtain ⟨S40, eS40, h⟩ := rx_let_o h
  refine ex_iast _ 140 dX11_talks_139 dk_127 g39 rfl rfl eS40 ?_
  refine ev_aload_n (i := 0) 141 dX11_talks_140 rfl rfl rfl ?_
  refine ev_get (v := .ref 127) 144 dX11_talks_141 dk_94 fl_11_116 (by decide) rfl rfl rfl ?_
  refine ev_bipush (v := 6) 146 dX11_talks_144 (by decide) rfl ?_
  refine ev_iload 148 dX11_talks_146 rfl rfl ?_
  refine ev_iadd 149 dX11_talks_148 rfl ?_
  refine ev_dup2 150 dX11_talks_149 rfl rfl rfl ?_
  obtain ⟨g41, h⟩ := rx_gd_o h
  refine ex_iald _ 151 dX11_talks_150 dk_127 g41 rfl rfl ?_
  refine ev_iload 153 dX11_talks_151 rfl rfl ?_
  obtain ⟨x43, S42, g44, h⟩ := rx_bd_o h
  refine ev_cSi1 156 dX11_talks_153 (em_X11_wordsIn g44) mm_X11_wordsIn ms_X11_wordsIn lk_11_351 (Nat.le_of_ble_eq_true rfl) (Nat.le_of_ble_eq_true rfl) rfl ?_
  refine ev_iadd 157 dX11_talks_156 rfl ?_
  obtain ⟨g45, h⟩ := rx_gd_o h
  obtain ⟨S46, eS46, h⟩ := rx_let_o h
  refine ex_iast _ 158 dX11_talks_157 dk_127 g45 rfl rfl eS46 ?_
  refine ev_aload_n (i := 0) 159 dX11_talks_158 rfl rfl rfl ?_
  refine ev_get (v := .ref 127) 162 dX11_talks_159 dk_94 fl_11_116 (by decide) rfl rfl rfl ?_
  refine ev_bipush (v := 18) 164 dX11_talks_162 (by decide) rfl ?_
  refine ev_iload_n (i := 1) 165 dX11_talks_164 rfl rfl rfl ?_
  refine ev_iadd 166 dX11_talks_165 rfl ?_
  refine ev_dup2 167 dX11_talks_166 rfl rfl rfl ?_
  obtain ⟨g47, h⟩ := rx_gd_o h
  refine ex_iald _ 168 dX11_talks_167 dk_127 g47 rfl rfl ?_
  refine ev_iload 170 dX11_talks_168 rfl rfl ?_
  refine ev_aload_n (i := 0) 171 dX11_talks_170 rfl rfl rfl ?_
  refine ev_get (v := .ref 110) 174 dX11_talks_171 dk_94 fl_11_64 (by decide) rfl rfl rfl ?_
  refine ev_iconst (v := 4) 175 dX11_talks_174 (by decide) rfl ?_
  refine ev_aload_n (i := 0) 176 dX11_talks_175 rfl rfl rfl ?_
  refine ev_get (v := .int (S46.1 94 18)) 179 dX11_talks_176 dk_94 fl_11_233 (by decide) rfl rfl rfl ?_
  refine ev_imul 180 dX11_talks_179 rfl ?_
  refine ev_iload_n (i := 2) 181 dX11_talks_180 rfl rfl rfl ?_
  refine ev_iadd 182 dX11_talks_181 rfl ?_
  obtain ⟨g48, h⟩ := rx_gd_o h
  refine ex_iald _ 183 dX11_talks_182 dk_110 g48 rfl rfl ?_
  refine ev_imul 184 dX11_talks_183 rfl ?_
  refine ev_iadd 185 dX11_talks_184 rfl ?_
  obtain ⟨g49, h⟩ := rx_gd_o h
  obtain ⟨S50, eS50, h⟩ := rx_let_o h
  refine ex_iast _ 186 dX11_talks_185 dk_127 g49 rfl rfl eS50 ?_
  refine ev_aload_n (i := 0) 187 dX11_talks_186 rfl rfl rfl ?_
  refine ev_get (v := .ref 127) 190 dX11_talks_187 dk_94 fl_11_116 (by decide) rfl rfl rfl ?_
  refine ev_bipush (v := 36) 192 dX11_talks_190 (by decide) rfl ?_
  refine ev_iload_n (i := 2) 193 dX11_talks_192 rfl rfl rfl ?_
  refine ev_iadd 194 dX11_talks_193 rfl ?_
  refine ev_dup2 195 dX11_talks_194 rfl rfl rfl ?_
  obtain ⟨g51, h⟩ := rx_gd_o h
  refine ex_iald _ 196 dX11_talks_195 dk_127 g51 rfl rfl ?_
  refine ev_iload 198 dX11_talks_196 rfl rfl ?_
  refine ev_aload_n (i := 0) 199 dX11_talks_198 rfl rfl rfl ?_
  refine ev_get (v := .ref 110) 202 dX11_talks_199 dk_94 fl_11_64 (by decide) rfl rfl rfl ?_
  refine ev_iconst (v := 4) 203 dX11_talks_202 (by decide) rfl ?_
  refine ev_aload_n (i := 0) 204 dX11_talks_203 rfl rfl rfl ?_
  refine ev_get (v := .int (S50.1 94 18)) 207 dX11_talks_204 dk_94 fl_11_233 (by decide) rfl rfl rfl ?_
  refine ev_imul 208 dX11_talks_207 rfl ?_
  refine ev_iload_n (i := 2) 209 dX11_talks_208 rfl rfl rfl ?_
  refine ev_iadd 210 dX11_talks_209 rfl ?_
  obtain ⟨g52, h⟩ := rx_gd_o h
  refine ex_iald _ 211 dX11_talks_210 dk_110 g52 rfl rfl ?_
  refine ev_imul 212 dX11_talks_211 rfl ?_
  refine ev_iadd 213 dX11_talks_212 rfl ?_
  obtain ⟨g53, h⟩ := rx_gd_o h
  obtain ⟨S54, eS54, h⟩ := rx_let_o h
  refine ex_iast _ 214 dX11_talks_213 dk_127 g53 rfl rfl eS54 ?_
  refine ev_aload_n (i := 0) 215 dX11_talks_214 rfl rfl rfl ?_
  refine ev_get (v := .ref 127) 218 dX11_talks_215 dk_94 fl_11_116 (by decide) rfl rfl rfl ?_
  refine ev_bipush (v := 24) 220 dX11_talks_218 (by decide) rfl ?_
  refine ev_iload_n (i := 2) 221 dX11_talks_220 rfl rfl rfl ?_
  refine ev_iadd 222 dX11_talks_221 rfl ?_
  refine ev_aload_n (i := 0) 223 dX11_talks_222 rfl rfl rfl ?_
  refine ev_get (v := .ref 127) 226 dX11_talks_223 dk_94 fl_11_116 (by decide) rfl rfl rfl ?_
  refine ev_bipush (v := 24) 228 dX11_talks_226 (by decide) rfl ?_
  refine ev_iload_n (i := 2) 229 dX11_talks_228 rfl rfl rfl ?_
  refine ev_iadd 230 dX11_talks_229 rfl ?_
  obtain ⟨g55, h⟩ := rx_gd_o h
  refine ex_iald _ 231 dX11_talks_230 dk_127 g55 rfl rfl ?_
  refine ev_iload 233 dX11_talks_231 rfl rfl ?_
  refine ev_iadd 234 dX11_talks_233 rfl ?_
  refine ev_iconst (v := 0) 235 dX11_talks_234 (by decide) rfl ?_
  refine ev_bipush (v := 99) 237 dX11_talks_235 (by decide) rfl ?_
  obtain ⟨x57, S56, g58, h⟩ := rx_bd_o h
  refine ev_cSi3 240 dX11_talks_237 (em_X11_held g58) mm_X11_held ms_X11_held lk_11_342 (Nat.le_of_ble_eq_true rfl) (Nat.le_of_ble_eq_true rfl) rfl ?_
  obtain ⟨g59, h⟩ := rx_gd_o h
  obtain ⟨S60, eS60, h⟩ := rx_let_o h
  refine ex_iast _ 241 dX11_talks_240 dk_127 g59 rfl rfl eS60 ?_
  refine ev_aload_n (i := 0) 242 dX11_talks_241 rfl rfl rfl ?_
  refine ev_get (v := .ref 127) 245 dX11_talks_242 dk_94 fl_11_116 (by decide) rfl rfl rfl ?_
  refine ev_bipush (v := 28) 247 dX11_talks_245 (by decide) rfl ?_
  refine ev_iload_n (i := 2) 248 dX11_talks_247 rfl rfl rfl ?_
  refine ev_iadd 249 dX11_talks_248 rfl ?_
  refine ev_aload_n (i := 0) 250 dX11_talks_249 rfl rfl rfl ?_
  refine ev_get (v := .ref 127) 253 dX11_talks_250 dk_94 fl_11_116 (by decide) rfl rfl rfl ?_
  refine ev_bipush (v := 28) 255 dX11_talks_253 (by decide) rfl ?_
  refine ev_iload_n (i := 2) 256 dX11_talks_255 rfl rfl rfl ?_
  refine ev_iadd 257 dX11_talks_256 rfl ?_
  obtain ⟨g61, h⟩ := rx_gd_o h
  refine ex_iald _ 258 dX11_talks_257 dk_127 g61 rfl rfl ?_
  refine ev_iload 260 dX11_talks_258 rfl rfl ?_
  refine ev_iadd 261 dX11_talks_260 rfl ?_
  refine ev_iconst (v := 0) 262 dX11_talks_261 (by decide) rfl ?_
  refine ev_bipush (v := 99) 264 dX11_talks_262 (by decide) rfl ?_
  obtain ⟨x63, S62, g64, h⟩ := rx_bd_o h
  refine ev_cSi3 267 dX11_talks_264 (em_X11_held g64) mm_X11_held ms_X11_held lk_11_342 (Nat.le_of_ble_eq_true rfl) (Nat.le_of_ble_eq_true rfl) rfl ?_
  obtain ⟨g65, h⟩ := rx_gd_o h
  obtain ⟨S66, eS66, h⟩ := rx_let_o h
  refine ex_iast _ 268 dX11_talks_267 dk_127 g65 rfl rfl eS66 ?_
  refine ev_aload_n (i := 0) 269 dX11_talks_268 rfl rfl rfl ?_
  refine ev_get (v := .ref 127) 272 dX11_talks_269 dk_94 fl_11_116 (by decide) rfl rfl rfl ?_
  refine ev_bipush (v := 45) 274 dX11_talks_272 (by decide) rfl ?_
  refine ev_dup2 275 dX11_talks_274 rfl rfl rfl ?_
  refine ex_iald 45 276 dX11_talks_275 dk_127 (rx_vin (by decide)) (by decide) rfl ?_
  refine ev_iload 278 dX11_talks_276 rfl rfl ?_
  refine ev_iadd 279 dX11_talks_278 rfl ?_
  obtain ⟨S67, eS67, h⟩ := rx_let_o h
  refine ex_iast 45 280 dX11_talks_279 dk_127 (rx_vin (by decide)) (by decide) rfl eS67 ?_
  refine ev_aload_n (i := 0) 281 dX11_talks_280 rfl rfl rfl ?_
  refine ev_get (v := .ref 127) 284 dX11_talks_281 dk_94 fl_11_116 (by decide) rfl rfl rfl ?_
  refine ev_bipush (v := 46) 286 dX11_talks_284 (by decide) rfl ?_
  refine ev_dup2 287 dX11_talks_286 rfl rfl rfl ?_
  refine ex_iald 46 288 dX11_talks_287 dk_127 (rx_vin (by decide)) (by decide) rfl ?_
  refine ev_iload 290 dX11_talks_288 rfl rfl ?_
  obtain ⟨x69, S68, g70, h⟩ := rx_bd_o h
  refine ev_cSi1 293 dX11_talks_290 (em_X11_wordsIn g70) mm_X11_wordsIn ms_X11_wordsIn lk_11_351 (Nat.le_of_ble_eq_true rfl) (Nat.le_of_ble_eq_true rfl) rfl ?_
  refine ev_iadd 294 dX11_talks_293 rfl ?_
  obtain ⟨S71, eS71, h⟩ := rx_let_o h
  refine ex_iast 46 295 dX11_talks_294 dk_127 (rx_vin (by decide)) (by decide) rfl eS71 ?_
  refine ev_aload_n (i := 0) 296 dX11_talks_295 rfl rfl rfl ?_
  refine ev_get (v := .ref 127) 299 dX11_talks_296 dk_94 fl_11_116 (by decide) rfl rfl rfl ?_
  refine ev_bipush (v := 32) 301 dX11_talks_299 (by decide) rfl ?_
  refine ev_iload_n (i := 2) 302 dX11_talks_301 rfl rfl rfl ?_
  refine ev_iadd 303 dX11_talks_302 rfl ?_
  obtain ⟨g72, h⟩ := rx_gd_o h
  refine ex_iald _ 304 dX11_talks_303 dk_127 g72 rfl rfl ?_
  refine ev_if_eq 314 307 dX11_talks_304 rfl rfl (fun c73 => ?_) (fun c73 => ?_)
  · replace h := rx_if_t c73 h
    exact ev_return dX11_talks_314 rfl (rx_ret_v h)
  · replace h := rx_if_f c73 h
    refine ev_iload 309 dX11_talks_307 rfl rfl ?_
    refine ev_iload 311 dX11_talks_309 rfl rfl ?_
    refine ev_icmp_ne 315 314 dX11_talks_311 rfl rfl (fun c74 => ?_) (fun c74 => ?_)
    · replace h := rx_if_f c74 h
      refine ev_aload_n (i := 0) 316 dX11_talks_315 rfl rfl rfl ?_
      refine ev_get (v := .ref 127) 319 dX11_talks_316 dk_94 fl_11_116 (by decide) rfl rfl rfl ?_
      refine ev_bipush (v := 40) 321 dX11_talks_319 (by decide) rfl ?_
      refine ev_iload_n (i := 2) 322 dX11_talks_321 rfl rfl rfl ?_
      refine ev_iadd 323 dX11_talks_322 rfl ?_
      refine ev_dup2 324 dX11_talks_323 rfl rfl rfl ?_
      obtain ⟨g75, h⟩ := rx_gd_o h
      refine ex_iald _ 325 dX11_talks_324 dk_127 g75 rfl rfl ?_
      refine ev_iconst (v := 1) 326 dX11_talks_325 (by decide) rfl ?_
      refine ev_iadd 327 dX11_talks_326 rfl ?_
      obtain ⟨g76, h⟩ := rx_gd_o h
      obtain ⟨S77, eS77, h⟩ := rx_let_o h
      refine ex_iast _ 328 dX11_talks_327 dk_127 g76 rfl rfl eS77 ?_
      refine ev_aload_n (i := 0) 329 dX11_talks_328 rfl rfl rfl ?_
      refine ev_get (v := .ref 127) 332 dX11_talks_329 dk_94 fl_11_116 (by decide) rfl rfl rfl ?_
      refine ev_bipush (v := 36) 334 dX11_talks_332 (by decide) rfl ?_
      refine ev_iload_n (i := 2) 335 dX11_talks_334 rfl rfl rfl ?_
      refine ev_iadd 336 dX11_talks_335 rfl ?_
      refine ev_dup2 337 dX11_talks_336 rfl rfl rfl ?_
      obtain ⟨g78, h⟩ := rx_gd_o h
      refine ex_iald _ 338 dX11_talks_337 dk_127 g78 rfl rfl ?_
      refine ev_aload_n (i := 0) 339 dX11_talks_338 rfl rfl rfl ?_
      refine ev_get (v := .ref 112) 342 dX11_talks_339 dk_94 fl_11_70 (by decide) rfl rfl rfl ?_
      refine ev_aload_n (i := 0) 343 dX11_talks_342 rfl rfl rfl ?_
      refine ev_get (v := .int (S77.1 94 18)) 346 dX11_talks_343 dk_94 fl_11_233 (by decide) rfl rfl rfl ?_
      obtain ⟨g79, h⟩ := rx_gd_o h
      refine ex_iald _ 347 dX11_talks_346 dk_112 g79 rfl rfl ?_
      refine ev_isub 348 dX11_talks_347 rfl ?_
      obtain ⟨g80, h⟩ := rx_gd_o h
      obtain ⟨S81, eS81, h⟩ := rx_let_o h
      refine ex_iast _ 349 dX11_talks_348 dk_127 g80 rfl rfl eS81 ?_
      exact ev_return dX11_talks_349 rfl (rx_ret_v h)
    · replace h := rx_if_t c74 h
      exact ev_return dX11_talks_314 rfl (rx_ret_v h)

def f_X11_staysSilent_L15 (N : Nat) : Nat → Int32 → Int32 → rx_S → Option (Unit × rx_S)
  | 0, _, _, _ => none
  | n + 1, x6, x7, S8 => if (2 : Int32) ≤ x7 then (some ((), S8)) else (rx_bd (f_X11_partnerIn x6 x7 S8) (fun x11 S10 => rx_gd x11 48 (if (S10.1 127 (Int32.toNatClampNeg x11)) ≤ 0 then (rx_let (x7 + 1) (fun x15 => f_X11_staysSilent_L15 N n x6 x15 S10)) else (rx_bd (f_X11_partnerIn x6 x7 S10) (fun x17 S16 => rx_gd x17 48 (rx_gd x17 48 (rx_let (rx_ui S16 127 (Int32.toNatClampNeg x17) ((S16.1 127 (Int32.toNatClampNeg x17)) - 1)) (fun S21 => rx_let (x7 + 1) (fun x22 => f_X11_staysSilent_L15 N n x6 x22 S21)))))))))
def f_X11_staysSilent (N : Nat) (x1 : Int32) (S0 : rx_S) : Option (Unit × rx_S) := rx_gd ((21 : Int32) + x1) 48 (rx_gd ((21 : Int32) + x1) 48 (rx_let (rx_ui S0 127 (Int32.toNatClampNeg ((21 : Int32) + x1)) ((S0.1 127 (Int32.toNatClampNeg ((21 : Int32) + x1))) + 1)) (fun S5 => f_X11_staysSilent_L15 N N x1 0 S5)))
set_option maxHeartbeats 4000000 in
set_option maxRecDepth 20000 in
theorem em_X11_staysSilent_L15 {d N : Nat} {zr : Unit} {zS : rx_S} : ∀ (n : Nat) (x6 : Int32) (x7 : Int32) (S8 : rx_S), f_X11_staysSilent_L15 N n x6 x7 S8 = some (zr, zS) → EV gM (d + 1) mX11_staysSilent 15 [some (.ref 94), some (.int x6), some (.int x7)] [] S8 (rx_pv zS) := by
  intro n
  induction n with
  | zero => intro x6 x7 S8 h; cases h
  | succ n ih =>
    intro x6 x7 S8 h
    rw [f_X11_staysSilent_L15] at h
    refine ev_iload_n (i := 2) 16 dX11_staysSilent_15 rfl rfl rfl ?_
    refine ev_iconst (v := 2) 17 dX11_staysSilent_16 (by decide) rfl ?_
    refine ev_icmp_ge 55 20 dX11_staysSilent_17 rfl rfl (fun c9 => ?_) (fun c9 => ?_)
    · replace h := rx_if_t c9 h
      exact ev_return dX11_staysSilent_55 rfl (rx_ret_v h)
    · replace h := rx_if_f c9 h
      refine ev_aload_n (i := 0) 21 dX11_staysSilent_20 rfl rfl rfl ?_
      refine ev_get (v := .ref 127) 24 dX11_staysSilent_21 dk_94 fl_11_116 (by decide) rfl rfl rfl ?_
      refine ev_aload_n (i := 0) 25 dX11_staysSilent_24 rfl rfl rfl ?_
      refine ev_iload_n (i := 1) 26 dX11_staysSilent_25 rfl rfl rfl ?_
      refine ev_iload_n (i := 2) 27 dX11_staysSilent_26 rfl rfl rfl ?_
      obtain ⟨x11, S10, g12, h⟩ := rx_bd_o h
      refine ev_cVi2 30 dX11_staysSilent_27 (em_X11_partnerIn g12) mm_X11_partnerIn mv_X11_partnerIn lk_11_366 dk_94 (by decide) rfl (Nat.le_of_ble_eq_true rfl) (Nat.le_of_ble_eq_true rfl) rfl ?_
      obtain ⟨g13, h⟩ := rx_gd_o h
      refine ex_iald _ 31 dX11_staysSilent_30 dk_127 g13 rfl rfl ?_
      refine ev_if_le 49 34 dX11_staysSilent_31 rfl rfl (fun c14 => ?_) (fun c14 => ?_)
      · replace h := rx_if_t c14 h
        obtain ⟨x15, ex15, h⟩ := rx_let_o h
        refine ev_iinc (v := x15) (ls' := [some (.ref 94), some (.int x6), some (.int x15)]) 52 dX11_staysSilent_49 rfl (by rw [ex15]; rfl) (Nat.le_of_ble_eq_true rfl) rfl rfl ?_
        refine ev_goto 15 dX11_staysSilent_52 rfl ?_
        exact (ih _ _ _ h).fewer (rx_le_s (rx_le_s (rx_le_s rx_le_0)))
      · replace h := rx_if_f c14 h
        refine ev_aload_n (i := 0) 35 dX11_staysSilent_34 rfl rfl rfl ?_
        refine ev_get (v := .ref 127) 38 dX11_staysSilent_35 dk_94 fl_11_116 (by decide) rfl rfl rfl ?_
        refine ev_aload_n (i := 0) 39 dX11_staysSilent_38 rfl rfl rfl ?_
        refine ev_iload_n (i := 1) 40 dX11_staysSilent_39 rfl rfl rfl ?_
        refine ev_iload_n (i := 2) 41 dX11_staysSilent_40 rfl rfl rfl ?_
        obtain ⟨x17, S16, g18, h⟩ := rx_bd_o h
        refine ev_cVi2 44 dX11_staysSilent_41 (em_X11_partnerIn g18) mm_X11_partnerIn mv_X11_partnerIn lk_11_366 dk_94 (by decide) rfl (Nat.le_of_ble_eq_true rfl) (Nat.le_of_ble_eq_true rfl) rfl ?_
        refine ev_dup2 45 dX11_staysSilent_44 rfl rfl rfl ?_
        obtain ⟨g19, h⟩ := rx_gd_o h
        refine ex_iald _ 46 dX11_staysSilent_45 dk_127 g19 rfl rfl ?_
        refine ev_iconst (v := 1) 47 dX11_staysSilent_46 (by decide) rfl ?_
        refine ev_isub 48 dX11_staysSilent_47 rfl ?_
        obtain ⟨g20, h⟩ := rx_gd_o h
        obtain ⟨S21, eS21, h⟩ := rx_let_o h
        refine ex_iast _ 49 dX11_staysSilent_48 dk_127 g20 rfl rfl eS21 ?_
        obtain ⟨x22, ex22, h⟩ := rx_let_o h
        refine ev_iinc (v := x22) (ls' := [some (.ref 94), some (.int x6), some (.int x22)]) 52 dX11_staysSilent_49 rfl (by rw [ex22]; rfl) (Nat.le_of_ble_eq_true rfl) rfl rfl ?_
        refine ev_goto 15 dX11_staysSilent_52 rfl ?_
        exact (ih _ _ _ h).fewer (rx_le_s (rx_le_s (rx_le_s rx_le_0)))

set_option maxHeartbeats 4000000 in
set_option maxRecDepth 20000 in
theorem em_X11_staysSilent {d N : Nat} {x1 : Int32} {S0 : rx_S} {zr : Unit} {zS : rx_S} (h : f_X11_staysSilent N x1 S0 = some (zr, zS)) : EM gM (d + 1) mX11_staysSilent [.ref 94, .int x1] S0 (rx_pv zS) := by
  unfold f_X11_staysSilent at h
  show EV gM (d + 1) mX11_staysSilent 0 [some (.ref 94), some (.int x1), none] [] S0 (rx_pv zS)
  refine ev_aload_n (i := 0) 1 dX11_staysSilent_0 rfl rfl rfl ?_
  refine ev_get (v := .ref 127) 4 dX11_staysSilent_1 dk_94 fl_11_116 (by decide) rfl rfl rfl ?_
  refine ev_bipush (v := 21) 6 dX11_staysSilent_4 (by decide) rfl ?_
  refine ev_iload_n (i := 1) 7 dX11_staysSilent_6 rfl rfl rfl ?_
  refine ev_iadd 8 dX11_staysSilent_7 rfl ?_
  refine ev_dup2 9 dX11_staysSilent_8 rfl rfl rfl ?_
  obtain ⟨g3, h⟩ := rx_gd_o h
  refine ex_iald _ 10 dX11_staysSilent_9 dk_127 g3 rfl rfl ?_
  refine ev_iconst (v := 1) 11 dX11_staysSilent_10 (by decide) rfl ?_
  refine ev_iadd 12 dX11_staysSilent_11 rfl ?_
  obtain ⟨g4, h⟩ := rx_gd_o h
  obtain ⟨S5, eS5, h⟩ := rx_let_o h
  refine ex_iast _ 13 dX11_staysSilent_12 dk_127 g4 rfl rfl eS5 ?_
  refine ev_iconst (v := 0) 14 dX11_staysSilent_13 (by decide) rfl ?_
  refine ev_istore_n (ls' := [some (.ref 94), some (.int x1), some (.int 0)]) 15 dX11_staysSilent_14 rfl (Nat.le_of_ble_eq_true rfl) rfl rfl ?_
  exact (em_X11_staysSilent_L15 _ _ _ _ h).fewer (rx_le_s (rx_le_s (rx_le_s rx_le_0)))

def f_X11_hiredBy_L4 (N : Nat) : Nat → Int32 → Int32 → Int32 → rx_S → Option (Int32 × rx_S)
  | 0, _, _, _, _ => none
  | n + 1, x3, x4, x5, S6 => rx_gd (S6.1 94 18) 2 (if (S6.1 107 (Int32.toNatClampNeg (S6.1 94 18))) ≤ x5 then (some (x4, S6)) else (rx_gd ((12 : Int32) + x5) 48 (if (S6.1 127 (Int32.toNatClampNeg ((12 : Int32) + x5))) = x3 then (rx_let (x4 ||| ((1 : Int32) <<< (x5 &&& 31))) (fun x12 => rx_let (x5 + 1) (fun x13 => f_X11_hiredBy_L4 N n x3 x12 x13 S6))) else (rx_let (x5 + 1) (fun x11 => f_X11_hiredBy_L4 N n x3 x4 x11 S6)))))
def f_X11_hiredBy (N : Nat) (x1 : Int32) (S0 : rx_S) : Option (Int32 × rx_S) := f_X11_hiredBy_L4 N N x1 0 0 S0
set_option maxHeartbeats 4000000 in
set_option maxRecDepth 20000 in
theorem em_X11_hiredBy_L4 {d N : Nat} {zr : Int32} {zS : rx_S} : ∀ (n : Nat) (x3 : Int32) (x4 : Int32) (x5 : Int32) (S6 : rx_S), f_X11_hiredBy_L4 N n x3 x4 x5 S6 = some (zr, zS) → EV gM d mX11_hiredBy 4 [some (.ref 94), some (.int x3), some (.int x4), some (.int x5)] [] S6 (rx_pi zr zS) := by
  intro n
  induction n with
  | zero => intro x3 x4 x5 S6 h; cases h
  | succ n ih =>
    intro x3 x4 x5 S6 h
    rw [f_X11_hiredBy_L4] at h
    refine ev_iload_n (i := 3) 5 dX11_hiredBy_4 rfl rfl rfl ?_
    refine ev_aload_n (i := 0) 6 dX11_hiredBy_5 rfl rfl rfl ?_
    refine ev_get (v := .ref 107) 9 dX11_hiredBy_6 dk_94 fl_11_55 (by decide) rfl rfl rfl ?_
    refine ev_aload_n (i := 0) 10 dX11_hiredBy_9 rfl rfl rfl ?_
    refine ev_get (v := .int (S6.1 94 18)) 13 dX11_hiredBy_10 dk_94 fl_11_233 (by decide) rfl rfl rfl ?_
    obtain ⟨g7, h⟩ := rx_gd_o h
    refine ex_iald _ 14 dX11_hiredBy_13 dk_107 g7 rfl rfl ?_
    refine ev_icmp_ge 42 17 dX11_hiredBy_14 rfl rfl (fun c8 => ?_) (fun c8 => ?_)
    · replace h := rx_if_t c8 h
      refine ev_iload_n (i := 2) 43 dX11_hiredBy_42 rfl rfl rfl ?_
      exact ev_ireturn dX11_hiredBy_43 rfl (rx_ret_i h)
    · replace h := rx_if_f c8 h
      refine ev_aload_n (i := 0) 18 dX11_hiredBy_17 rfl rfl rfl ?_
      refine ev_get (v := .ref 127) 21 dX11_hiredBy_18 dk_94 fl_11_116 (by decide) rfl rfl rfl ?_
      refine ev_bipush (v := 12) 23 dX11_hiredBy_21 (by decide) rfl ?_
      refine ev_iload_n (i := 3) 24 dX11_hiredBy_23 rfl rfl rfl ?_
      refine ev_iadd 25 dX11_hiredBy_24 rfl ?_
      obtain ⟨g9, h⟩ := rx_gd_o h
      refine ex_iald _ 26 dX11_hiredBy_25 dk_127 g9 rfl rfl ?_
      refine ev_iload_n (i := 1) 27 dX11_hiredBy_26 rfl rfl rfl ?_
      refine ev_icmp_ne 36 30 dX11_hiredBy_27 rfl rfl (fun c10 => ?_) (fun c10 => ?_)
      · replace h := rx_if_f c10 h
        obtain ⟨x11, ex11, h⟩ := rx_let_o h
        refine ev_iinc (v := x11) (ls' := [some (.ref 94), some (.int x3), some (.int x4), some (.int x11)]) 39 dX11_hiredBy_36 rfl (by rw [ex11]; rfl) (Nat.le_of_ble_eq_true rfl) rfl rfl ?_
        refine ev_goto 4 dX11_hiredBy_39 rfl ?_
        exact (ih _ _ _ _ h).fewer (rx_le_s (rx_le_s (rx_le_s (rx_le_s rx_le_0))))
      · replace h := rx_if_t c10 h
        refine ev_iload_n (i := 2) 31 dX11_hiredBy_30 rfl rfl rfl ?_
        refine ev_iconst (v := 1) 32 dX11_hiredBy_31 (by decide) rfl ?_
        refine ev_iload_n (i := 3) 33 dX11_hiredBy_32 rfl rfl rfl ?_
        refine ev_ishl 34 dX11_hiredBy_33 rfl ?_
        refine ev_ior 35 dX11_hiredBy_34 rfl ?_
        obtain ⟨x12, ex12, h⟩ := rx_let_o h
        refine ev_nm ex12 ?_
        refine ev_istore_n (ls' := [some (.ref 94), some (.int x3), some (.int x12), some (.int x5)]) 36 dX11_hiredBy_35 rfl (Nat.le_of_ble_eq_true rfl) rfl rfl ?_
        obtain ⟨x13, ex13, h⟩ := rx_let_o h
        refine ev_iinc (v := x13) (ls' := [some (.ref 94), some (.int x3), some (.int x12), some (.int x13)]) 39 dX11_hiredBy_36 rfl (by rw [ex13]; rfl) (Nat.le_of_ble_eq_true rfl) rfl rfl ?_
        refine ev_goto 4 dX11_hiredBy_39 rfl ?_
        exact (ih _ _ _ _ h).fewer (rx_le_s (rx_le_s (rx_le_s (rx_le_s rx_le_0))))

set_option maxHeartbeats 4000000 in
set_option maxRecDepth 20000 in
theorem em_X11_hiredBy {d N : Nat} {x1 : Int32} {S0 : rx_S} {zr : Int32} {zS : rx_S} (h : f_X11_hiredBy N x1 S0 = some (zr, zS)) : EM gM d mX11_hiredBy [.ref 94, .int x1] S0 (rx_pi zr zS) := by
  unfold f_X11_hiredBy at h
  show EV gM d mX11_hiredBy 0 [some (.ref 94), some (.int x1), none, none] [] S0 (rx_pi zr zS)
  refine ev_iconst (v := 0) 1 dX11_hiredBy_0 (by decide) rfl ?_
  refine ev_istore_n (ls' := [some (.ref 94), some (.int x1), some (.int 0), none]) 2 dX11_hiredBy_1 rfl (Nat.le_of_ble_eq_true rfl) rfl rfl ?_
  refine ev_iconst (v := 0) 3 dX11_hiredBy_2 (by decide) rfl ?_
  refine ev_istore_n (ls' := [some (.ref 94), some (.int x1), some (.int 0), some (.int 0)]) 4 dX11_hiredBy_3 rfl (Nat.le_of_ble_eq_true rfl) rfl rfl ?_
  exact (em_X11_hiredBy_L4 _ _ _ _ _ h).fewer (rx_le_s (rx_le_s (rx_le_s (rx_le_s rx_le_0))))

