def f_X10_year_L40 (N : Nat) : Nat → Int32 → Int32 → Int32 → Int32 → Int32 → rx_S → Option (Int32 × rx_S)
  | 0, _, _, _, _, _, _ => none
  | n + 1, x13, x14, x15, x16, x17, S18 => if x15 ≤ x17 then (some (x16, S18)) else (rx_bd (f_X0_weeksToPart N x13 x14 ((S18.1 2 10) + x17) S18) (fun x21 S20 => if x21 = (-2) then (rx_let (x17 + 1) (fun x24 => f_X10_year_L40 N n x13 x14 x15 x16 x24 S20)) else (rx_let (x16 + 1) (fun x25 => rx_let (x17 + 1) (fun x26 => f_X10_year_L40 N n x13 x14 x15 x25 x26 S20)))))
def f_X10_year (N : Nat) (x1 : Int32) (x2 : Int32) (x3 : Int32) (S0 : rx_S) : Option (Int32 × rx_S) := rx_bd (f_X8_hasCouple 2 x1 S0) (fun x6 S5 => if x6 = 0 then (some ((-1), S5)) else (if x2 < 0 then (some ((-1), S5)) else (if (60 : Int32) < x2 then (some ((-1), S5)) else (if x3 < 1 then (some ((-1), S5)) else (if x3 ≤ 20 then (f_X10_year_L40 N N x1 x2 x3 0 0 S5) else (some ((-1), S5)))))))
set_option maxHeartbeats 4000000 in
set_option maxRecDepth 20000 in
theorem em_X10_year_L40 {d N : Nat} {zr : Int32} {zS : rx_S} : ∀ (n : Nat) (x13 : Int32) (x14 : Int32) (x15 : Int32) (x16 : Int32) (x17 : Int32) (S18 : rx_S), f_X10_year_L40 N n x13 x14 x15 x16 x17 S18 = some (zr, zS) → EV gC (d + 7) mX10_year 40 [some (.ref 0), some (.int x13), some (.int x14), some (.int x15), some (.int x16), some (.int x17)] [] S18 (rx_pi zr zS) := by
  intro n
  induction n with
  | zero => intro x13 x14 x15 x16 x17 S18 h; cases h
  | succ n ih =>
    intro x13 x14 x15 x16 x17 S18 h
    rw [f_X10_year_L40] at h
    refine ev_iload 42 dX10_year_40 rfl rfl ?_
    refine ev_iload_n (i := 3) 43 dX10_year_42 rfl rfl rfl ?_
    refine ev_icmp_ge 83 46 dX10_year_43 rfl rfl (fun c19 => ?_) (fun c19 => ?_)
    · replace h := rx_if_t c19 h
      refine ev_iload 85 dX10_year_83 rfl rfl ?_
      exact ev_ireturn dX10_year_85 rfl (rx_ret_i h)
    · replace h := rx_if_f c19 h
      refine ev_aload_n (i := 0) 47 dX10_year_46 rfl rfl rfl ?_
      refine ev_get (v := .ref 88) 50 dX10_year_47 dk_0 fl_10_63 (by decide) rfl rfl rfl ?_
      refine ev_aload_n (i := 0) 51 dX10_year_50 rfl rfl rfl ?_
      refine ev_get (v := .ref 32) 54 dX10_year_51 dk_0 fl_10_31 (by decide) rfl rfl rfl ?_
      refine ev_iload_n (i := 1) 55 dX10_year_54 rfl rfl rfl ?_
      refine ev_iload_n (i := 2) 56 dX10_year_55 rfl rfl rfl ?_
      refine ev_aload_n (i := 0) 57 dX10_year_56 rfl rfl rfl ?_
      refine ev_get (v := .ref 2) 60 dX10_year_57 dk_0 fl_10_20 (by decide) rfl rfl rfl ?_
      refine ev_get (v := .int (S18.1 2 10)) 63 dX10_year_60 dk_2 fl_10_167 (by decide) rfl rfl rfl ?_
      refine ev_iload 65 dX10_year_63 rfl rfl ?_
      refine ev_iadd 66 dX10_year_65 rfl ?_
      obtain ⟨x21, S20, g22, h⟩ := rx_bd_o h
      refine ev_cVi4 69 dX10_year_66 (em_X0_weeksToPart g22) mm_X0_weeksToPart mv_X0_weeksToPart lk_10_233 dk_88 (by decide) rfl (Nat.le_of_ble_eq_true rfl) (Nat.le_of_ble_eq_true rfl) rfl ?_
      refine ev_bipush (v := (-2)) 71 dX10_year_69 (by decide) rfl ?_
      refine ev_icmp_eq 77 74 dX10_year_71 rfl rfl (fun c23 => ?_) (fun c23 => ?_)
      · replace h := rx_if_t c23 h
        obtain ⟨x24, ex24, h⟩ := rx_let_o h
        refine ev_iinc (v := x24) (ls' := [some (.ref 0), some (.int x13), some (.int x14), some (.int x15), some (.int x16), some (.int x24)]) 80 dX10_year_77 rfl (by rw [ex24]; rfl) (Nat.le_of_ble_eq_true rfl) rfl rfl ?_
        refine ev_goto 40 dX10_year_80 rfl ?_
        exact (ih _ _ _ _ _ _ h).fewer (rx_le_s (rx_le_s (rx_le_s (rx_le_s (rx_le_s (rx_le_s rx_le_0))))))
      · replace h := rx_if_f c23 h
        obtain ⟨x25, ex25, h⟩ := rx_let_o h
        refine ev_iinc (v := x25) (ls' := [some (.ref 0), some (.int x13), some (.int x14), some (.int x15), some (.int x25), some (.int x17)]) 77 dX10_year_74 rfl (by rw [ex25]; rfl) (Nat.le_of_ble_eq_true rfl) rfl rfl ?_
        obtain ⟨x26, ex26, h⟩ := rx_let_o h
        refine ev_iinc (v := x26) (ls' := [some (.ref 0), some (.int x13), some (.int x14), some (.int x15), some (.int x25), some (.int x26)]) 80 dX10_year_77 rfl (by rw [ex26]; rfl) (Nat.le_of_ble_eq_true rfl) rfl rfl ?_
        refine ev_goto 40 dX10_year_80 rfl ?_
        exact (ih _ _ _ _ _ _ h).fewer (rx_le_s (rx_le_s (rx_le_s (rx_le_s (rx_le_s (rx_le_s rx_le_0))))))

set_option maxHeartbeats 4000000 in
set_option maxRecDepth 20000 in
theorem em_X10_year {d N : Nat} {x1 : Int32} {x2 : Int32} {x3 : Int32} {S0 : rx_S} {zr : Int32} {zS : rx_S} (h : f_X10_year N x1 x2 x3 S0 = some (zr, zS)) : EM gC (d + 7) mX10_year [.ref 0, .int x1, .int x2, .int x3] S0 (rx_pi zr zS) := by
  unfold f_X10_year at h
  show EV gC (d + 7) mX10_year 0 [some (.ref 0), some (.int x1), some (.int x2), some (.int x3), none, none] [] S0 (rx_pi zr zS)
  refine ev_aload_n (i := 0) 1 dX10_year_0 rfl rfl rfl ?_
  refine ev_get (v := .ref 2) 4 dX10_year_1 dk_0 fl_10_20 (by decide) rfl rfl rfl ?_
  refine ev_iload_n (i := 1) 5 dX10_year_4 rfl rfl rfl ?_
  obtain ⟨x6, S5, g7, h⟩ := rx_bd_o h
  refine ev_cVi1 8 dX10_year_5 (em_X8_hasCouple_2 g7) mm_X8_hasCouple mv_X8_hasCouple lk_10_117 dk_2 (by decide) rfl (Nat.le_of_ble_eq_true rfl) (Nat.le_of_ble_eq_true rfl) rfl ?_
  refine ev_if_eq 32 11 dX10_year_8 rfl rfl (fun c8 => ?_) (fun c8 => ?_)
  · replace h := rx_if_t c8 h
    refine ev_iconst (v := (-1)) 33 dX10_year_32 (by decide) rfl ?_
    exact ev_ireturn dX10_year_33 rfl (rx_ret_i h)
  · replace h := rx_if_f c8 h
    refine ev_iload_n (i := 2) 12 dX10_year_11 rfl rfl rfl ?_
    refine ev_if_lt 32 15 dX10_year_12 rfl rfl (fun c9 => ?_) (fun c9 => ?_)
    · replace h := rx_if_t c9 h
      refine ev_iconst (v := (-1)) 33 dX10_year_32 (by decide) rfl ?_
      exact ev_ireturn dX10_year_33 rfl (rx_ret_i h)
    · replace h := rx_if_f c9 h
      refine ev_iload_n (i := 2) 16 dX10_year_15 rfl rfl rfl ?_
      refine ev_bipush (v := 60) 18 dX10_year_16 (by decide) rfl ?_
      refine ev_icmp_gt 32 21 dX10_year_18 rfl rfl (fun c10 => ?_) (fun c10 => ?_)
      · replace h := rx_if_t c10 h
        refine ev_iconst (v := (-1)) 33 dX10_year_32 (by decide) rfl ?_
        exact ev_ireturn dX10_year_33 rfl (rx_ret_i h)
      · replace h := rx_if_f c10 h
        refine ev_iload_n (i := 3) 22 dX10_year_21 rfl rfl rfl ?_
        refine ev_iconst (v := 1) 23 dX10_year_22 (by decide) rfl ?_
        refine ev_icmp_lt 32 26 dX10_year_23 rfl rfl (fun c11 => ?_) (fun c11 => ?_)
        · replace h := rx_if_t c11 h
          refine ev_iconst (v := (-1)) 33 dX10_year_32 (by decide) rfl ?_
          exact ev_ireturn dX10_year_33 rfl (rx_ret_i h)
        · replace h := rx_if_f c11 h
          refine ev_iload_n (i := 3) 27 dX10_year_26 rfl rfl rfl ?_
          refine ev_bipush (v := 20) 29 dX10_year_27 (by decide) rfl ?_
          refine ev_icmp_le 34 32 dX10_year_29 rfl rfl (fun c12 => ?_) (fun c12 => ?_)
          · replace h := rx_if_t c12 h
            refine ev_iconst (v := 0) 35 dX10_year_34 (by decide) rfl ?_
            refine ev_istore (ls' := [some (.ref 0), some (.int x1), some (.int x2), some (.int x3), some (.int 0), none]) 37 dX10_year_35 (Nat.le_of_ble_eq_true rfl) rfl rfl ?_
            refine ev_iconst (v := 0) 38 dX10_year_37 (by decide) rfl ?_
            refine ev_istore (ls' := [some (.ref 0), some (.int x1), some (.int x2), some (.int x3), some (.int 0), some (.int 0)]) 40 dX10_year_38 (Nat.le_of_ble_eq_true rfl) rfl rfl ?_
            exact (em_X10_year_L40 _ _ _ _ _ _ _ h).fewer (rx_le_s (rx_le_s (rx_le_s (rx_le_s (rx_le_s (rx_le_s rx_le_0))))))
          · replace h := rx_if_f c12 h
            refine ev_iconst (v := (-1)) 33 dX10_year_32 (by decide) rfl ?_
            exact ev_ireturn dX10_year_33 rfl (rx_ret_i h)

def f_X10_tell (N : Nat) (x1 : Int32) (x2 : Int32) (S0 : rx_S) : Option (Int32 × rx_S) := rx_bd (f_X10_isWord x1 S0) (fun x5 S4 => if x5 = 0 then (some ((-1), S4)) else (rx_bd (f_X5_isRow N x2 S4) (fun x9 S8 => if x9 = 0 then (some ((-1), S8)) else (rx_bd (f_X5_size N x2 S8) (fun x13 S12 => if x13 ≤ 1 then (rx_bd (f_X1_add x1 x2 S12) (fun x17 S16 => some (x17, S16))) else (some ((-1), S12)))))))
set_option maxHeartbeats 4000000 in
set_option maxRecDepth 20000 in
theorem em_X10_tell {d N : Nat} {x1 : Int32} {x2 : Int32} {S0 : rx_S} {zr : Int32} {zS : rx_S} (h : f_X10_tell N x1 x2 S0 = some (zr, zS)) : EM gC (d + 2) mX10_tell [.ref 0, .int x1, .int x2] S0 (rx_pi zr zS) := by
  unfold f_X10_tell at h
  show EV gC (d + 2) mX10_tell 0 [some (.ref 0), some (.int x1), some (.int x2)] [] S0 (rx_pi zr zS)
  refine ev_iload_n (i := 1) 1 dX10_tell_0 rfl rfl rfl ?_
  obtain ⟨x5, S4, g6, h⟩ := rx_bd_o h
  refine ev_cSi1 4 dX10_tell_1 (em_X10_isWord g6) mm_X10_isWord ms_X10_isWord lk_10_185 (Nat.le_of_ble_eq_true rfl) (Nat.le_of_ble_eq_true rfl) rfl ?_
  refine ev_if_eq 22 7 dX10_tell_4 rfl rfl (fun c7 => ?_) (fun c7 => ?_)
  · replace h := rx_if_t c7 h
    refine ev_iconst (v := (-1)) 23 dX10_tell_22 (by decide) rfl ?_
    exact ev_ireturn dX10_tell_23 rfl (rx_ret_i h)
  · replace h := rx_if_f c7 h
    refine ev_iload_n (i := 2) 8 dX10_tell_7 rfl rfl rfl ?_
    obtain ⟨x9, S8, g10, h⟩ := rx_bd_o h
    refine ev_cSi1 11 dX10_tell_8 (em_X5_isRow g10) mm_X5_isRow ms_X5_isRow lk_10_195 (Nat.le_of_ble_eq_true rfl) (Nat.le_of_ble_eq_true rfl) rfl ?_
    refine ev_if_eq 22 14 dX10_tell_11 rfl rfl (fun c11 => ?_) (fun c11 => ?_)
    · replace h := rx_if_t c11 h
      refine ev_iconst (v := (-1)) 23 dX10_tell_22 (by decide) rfl ?_
      exact ev_ireturn dX10_tell_23 rfl (rx_ret_i h)
    · replace h := rx_if_f c11 h
      refine ev_iload_n (i := 2) 15 dX10_tell_14 rfl rfl rfl ?_
      obtain ⟨x13, S12, g14, h⟩ := rx_bd_o h
      refine ev_cSi1 18 dX10_tell_15 (em_X5_size g14) mm_X5_size ms_X5_size lk_10_243 (Nat.le_of_ble_eq_true rfl) (Nat.le_of_ble_eq_true rfl) rfl ?_
      refine ev_iconst (v := 1) 19 dX10_tell_18 (by decide) rfl ?_
      refine ev_icmp_le 24 22 dX10_tell_19 rfl rfl (fun c15 => ?_) (fun c15 => ?_)
      · replace h := rx_if_t c15 h
        refine ev_aload_n (i := 0) 25 dX10_tell_24 rfl rfl rfl ?_
        refine ev_get (v := .ref 91) 28 dX10_tell_25 dk_0 fl_10_70 (by decide) rfl rfl rfl ?_
        refine ev_iload_n (i := 1) 29 dX10_tell_28 rfl rfl rfl ?_
        refine ev_iload_n (i := 2) 30 dX10_tell_29 rfl rfl rfl ?_
        obtain ⟨x17, S16, g18, h⟩ := rx_bd_o h
        refine ev_cVi2 33 dX10_tell_30 (em_X1_add g18) mm_X1_add mv_X1_add lk_10_245 dk_91 (by decide) rfl (Nat.le_of_ble_eq_true rfl) (Nat.le_of_ble_eq_true rfl) rfl ?_
        exact ev_ireturn dX10_tell_33 rfl (rx_ret_i h)
      · replace h := rx_if_f c15 h
        refine ev_iconst (v := (-1)) 23 dX10_tell_22 (by decide) rfl ?_
        exact ev_ireturn dX10_tell_23 rfl (rx_ret_i h)

def f_X10_forget (S0 : rx_S) : Option (Int32 × rx_S) := rx_let (S0.1 91 4) (fun x2 => rx_bd (f_X1_clear S0) (fun x4 S3 => some (x2, S3)))
set_option maxHeartbeats 4000000 in
set_option maxRecDepth 20000 in
theorem em_X10_forget {d : Nat} {S0 : rx_S} {zr : Int32} {zS : rx_S} (h : f_X10_forget S0 = some (zr, zS)) : EM gC (d + 1) mX10_forget [.ref 0] S0 (rx_pi zr zS) := by
  unfold f_X10_forget at h
  show EV gC (d + 1) mX10_forget 0 [some (.ref 0), none] [] S0 (rx_pi zr zS)
  refine ev_aload_n (i := 0) 1 dX10_forget_0 rfl rfl rfl ?_
  refine ev_get (v := .ref 91) 4 dX10_forget_1 dk_0 fl_10_70 (by decide) rfl rfl rfl ?_
  refine ev_get (v := .int (S0.1 91 4)) 7 dX10_forget_4 dk_91 fl_10_154 (by decide) rfl rfl rfl ?_
  obtain ⟨x2, ex2, h⟩ := rx_let_o h
  refine ev_nm ex2 ?_
  refine ev_istore_n (ls' := [some (.ref 0), some (.int x2)]) 8 dX10_forget_7 rfl (Nat.le_of_ble_eq_true rfl) rfl rfl ?_
  refine ev_aload_n (i := 0) 9 dX10_forget_8 rfl rfl rfl ?_
  refine ev_get (v := .ref 91) 12 dX10_forget_9 dk_0 fl_10_70 (by decide) rfl rfl rfl ?_
  obtain ⟨x4, S3, g5, h⟩ := rx_bd_o h
  refine ev_cVv0 15 dX10_forget_12 (em_X1_clear g5) mm_X1_clear mv_X1_clear lk_10_105 dk_91 (by decide) rfl (Nat.le_of_ble_eq_true rfl) (Nat.le_of_ble_eq_true rfl) rfl ?_
  refine ev_iload_n (i := 1) 16 dX10_forget_15 rfl rfl rfl ?_
  exact ev_ireturn dX10_forget_16 rfl (rx_ret_i h)

def f_X10_who (N : Nat) (x1 : Int32) (S0 : rx_S) : Option (Int32 × rx_S) := rx_bd (f_X1_isKnown x1 S0) (fun x4 S3 => if x4 = 0 then (some ((-1), S3)) else (rx_bd (f_X1_candidates N x1 S3) (fun x8 S7 => some (x8, S7))))
set_option maxHeartbeats 4000000 in
set_option maxRecDepth 20000 in
theorem em_X10_who {d N : Nat} {x1 : Int32} {S0 : rx_S} {zr : Int32} {zS : rx_S} (h : f_X10_who N x1 S0 = some (zr, zS)) : EM gC (d + 6) mX10_who [.ref 0, .int x1] S0 (rx_pi zr zS) := by
  unfold f_X10_who at h
  show EV gC (d + 6) mX10_who 0 [some (.ref 0), some (.int x1)] [] S0 (rx_pi zr zS)
  refine ev_aload_n (i := 0) 1 dX10_who_0 rfl rfl rfl ?_
  refine ev_get (v := .ref 91) 4 dX10_who_1 dk_0 fl_10_70 (by decide) rfl rfl rfl ?_
  refine ev_iload_n (i := 1) 5 dX10_who_4 rfl rfl rfl ?_
  obtain ⟨x4, S3, g5, h⟩ := rx_bd_o h
  refine ev_cVi1 8 dX10_who_5 (em_X1_isKnown g5) mm_X1_isKnown mv_X1_isKnown lk_10_248 dk_91 (by decide) rfl (Nat.le_of_ble_eq_true rfl) (Nat.le_of_ble_eq_true rfl) rfl ?_
  refine ev_if_eq 26 11 dX10_who_8 rfl rfl (fun c6 => ?_) (fun c6 => ?_)
  · replace h := rx_if_t c6 h
    refine ev_iconst (v := (-1)) 27 dX10_who_26 (by decide) rfl ?_
    exact ev_ireturn dX10_who_27 rfl (rx_ret_i h)
  · replace h := rx_if_f c6 h
    refine ev_aload_n (i := 0) 12 dX10_who_11 rfl rfl rfl ?_
    refine ev_get (v := .ref 91) 15 dX10_who_12 dk_0 fl_10_70 (by decide) rfl rfl rfl ?_
    refine ev_aload_n (i := 0) 16 dX10_who_15 rfl rfl rfl ?_
    refine ev_get (v := .ref 32) 19 dX10_who_16 dk_0 fl_10_31 (by decide) rfl rfl rfl ?_
    refine ev_iload_n (i := 1) 20 dX10_who_19 rfl rfl rfl ?_
    obtain ⟨x8, S7, g9, h⟩ := rx_bd_o h
    refine ev_cVi2 23 dX10_who_20 (em_X1_candidates g9) mm_X1_candidates mv_X1_candidates lk_10_251 dk_91 (by decide) rfl (Nat.le_of_ble_eq_true rfl) (Nat.le_of_ble_eq_true rfl) rfl ?_
    refine ev_goto 27 dX10_who_23 rfl ?_
    exact ev_ireturn dX10_who_27 rfl (rx_ret_i h)

def f_X10_ask (N : Nat) (x1 : Int32) (S0 : rx_S) : Option (Int32 × rx_S) := rx_bd (f_X1_isKnown x1 S0) (fun x4 S3 => if x4 = 0 then (some ((-1), S3)) else (rx_bd (f_X1_bestWord N x1 S3) (fun x8 S7 => some (x8, S7))))
set_option maxHeartbeats 4000000 in
set_option maxRecDepth 20000 in
theorem em_X10_ask {d N : Nat} {x1 : Int32} {S0 : rx_S} {zr : Int32} {zS : rx_S} (h : f_X10_ask N x1 S0 = some (zr, zS)) : EM gC (d + 7) mX10_ask [.ref 0, .int x1] S0 (rx_pi zr zS) := by
  unfold f_X10_ask at h
  show EV gC (d + 7) mX10_ask 0 [some (.ref 0), some (.int x1)] [] S0 (rx_pi zr zS)
  refine ev_aload_n (i := 0) 1 dX10_ask_0 rfl rfl rfl ?_
  refine ev_get (v := .ref 91) 4 dX10_ask_1 dk_0 fl_10_70 (by decide) rfl rfl rfl ?_
  refine ev_iload_n (i := 1) 5 dX10_ask_4 rfl rfl rfl ?_
  obtain ⟨x4, S3, g5, h⟩ := rx_bd_o h
  refine ev_cVi1 8 dX10_ask_5 (em_X1_isKnown g5) mm_X1_isKnown mv_X1_isKnown lk_10_248 dk_91 (by decide) rfl (Nat.le_of_ble_eq_true rfl) (Nat.le_of_ble_eq_true rfl) rfl ?_
  refine ev_if_eq 26 11 dX10_ask_8 rfl rfl (fun c6 => ?_) (fun c6 => ?_)
  · replace h := rx_if_t c6 h
    refine ev_iconst (v := (-1)) 27 dX10_ask_26 (by decide) rfl ?_
    exact ev_ireturn dX10_ask_27 rfl (rx_ret_i h)
  · replace h := rx_if_f c6 h
    refine ev_aload_n (i := 0) 12 dX10_ask_11 rfl rfl rfl ?_
    refine ev_get (v := .ref 91) 15 dX10_ask_12 dk_0 fl_10_70 (by decide) rfl rfl rfl ?_
    refine ev_aload_n (i := 0) 16 dX10_ask_15 rfl rfl rfl ?_
    refine ev_get (v := .ref 32) 19 dX10_ask_16 dk_0 fl_10_31 (by decide) rfl rfl rfl ?_
    refine ev_iload_n (i := 1) 20 dX10_ask_19 rfl rfl rfl ?_
    obtain ⟨x8, S7, g9, h⟩ := rx_bd_o h
    refine ev_cVi2 23 dX10_ask_20 (em_X1_bestWord g9) mm_X1_bestWord mv_X1_bestWord lk_10_254 dk_91 (by decide) rfl (Nat.le_of_ble_eq_true rfl) (Nat.le_of_ble_eq_true rfl) rfl ?_
    refine ev_goto 27 dX10_ask_23 rfl ?_
    exact ev_ireturn dX10_ask_27 rfl (rx_ret_i h)

