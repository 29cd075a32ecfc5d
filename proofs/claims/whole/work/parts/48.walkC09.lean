def f_X10_third (N : Nat) (x1 : Int32) (x2 : Int32) (S0 : rx_S) : Option (Int32 × rx_S) := rx_bd (f_X8_hasThird 2 x1 S0) (fun x5 S4 => if x5 = 0 then (some ((-100000), S4)) else (if x2 = 0 then (rx_gd x1 4 (some ((S4.1 11 (Int32.toNatClampNeg x1)), S4))) else (if x2 = 1 then (rx_gd ((28 : Int32) + x1) 48 (some ((S4.1 32 (Int32.toNatClampNeg ((28 : Int32) + x1))), S4))) else (if x2 = 2 then (rx_gd ((32 : Int32) + x1) 48 (some ((S4.1 32 (Int32.toNatClampNeg ((32 : Int32) + x1))), S4))) else (if x2 = 3 then (rx_gd ((36 : Int32) + x1) 48 (some ((S4.1 32 (Int32.toNatClampNeg ((36 : Int32) + x1))), S4))) else (if x2 = 4 then (rx_gd ((40 : Int32) + x1) 48 (some ((S4.1 32 (Int32.toNatClampNeg ((40 : Int32) + x1))), S4))) else (if x2 = 5 then (rx_gd ((44 : Int32) + x1) 48 (some ((S4.1 32 (Int32.toNatClampNeg ((44 : Int32) + x1))), S4))) else (if x2 = 6 then (rx_bd (f_X10_couplesOf N x1 S4) (fun x22 S21 => some (x22, S21))) else (if x2 = 7 then (rx_bd (f_X7_isDaring 32 N x1 S4) (fun x26 S25 => if x26 = 0 then (some (0, S25)) else (some (1, S25)))) else (some ((-100000), S4)))))))))))
set_option maxHeartbeats 4000000 in
set_option maxRecDepth 20000 in
theorem em_X10_third {d N : Nat} {x1 : Int32} {x2 : Int32} {S0 : rx_S} {zr : Int32} {zS : rx_S} (h : f_X10_third N x1 x2 S0 = some (zr, zS)) : EM gC (d + 3) mX10_third [.ref 0, .int x1, .int x2] S0 (rx_pi zr zS) := by
  unfold f_X10_third at h
  show EV gC (d + 3) mX10_third 0 [some (.ref 0), some (.int x1), some (.int x2)] [] S0 (rx_pi zr zS)
  refine ev_aload_n (i := 0) 1 dX10_third_0 rfl rfl rfl ?_
  refine ev_get (v := .ref 2) 4 dX10_third_1 dk_0 fl_10_20 (by decide) rfl rfl rfl ?_
  refine ev_iload_n (i := 1) 5 dX10_third_4 rfl rfl rfl ?_
  obtain ⟨x5, S4, g6, h⟩ := rx_bd_o h
  refine ev_cVi1 8 dX10_third_5 (em_X8_hasThird_2 g6) mm_X8_hasThird mv_X8_hasThird lk_10_123 dk_2 (by decide) rfl (Nat.le_of_ble_eq_true rfl) (Nat.le_of_ble_eq_true rfl) rfl ?_
  refine ev_if_ne 14 11 dX10_third_8 rfl rfl (fun c7 => ?_) (fun c7 => ?_)
  · replace h := rx_if_f c7 h
    refine ev_iload_n (i := 2) 15 dX10_third_14 rfl rfl rfl ?_
    by_cases c8 : x2 = 0
    · replace h := rx_if_t c8 h
      refine ev_tableIn 60 dX10_third_15 (by rw [c8]; decide) (by rw [c8]; decide) (off := 45) (by rw [c8]; rfl) rfl ?_
      refine ev_aload_n (i := 0) 61 dX10_third_60 rfl rfl rfl ?_
      refine ev_get (v := .ref 2) 64 dX10_third_61 dk_0 fl_10_20 (by decide) rfl rfl rfl ?_
      refine ev_get (v := .ref 11) 67 dX10_third_64 dk_2 fl_10_127 (by decide) rfl rfl rfl ?_
      refine ev_iload_n (i := 1) 68 dX10_third_67 rfl rfl rfl ?_
      obtain ⟨g9, h⟩ := rx_gd_o h
      refine ex_iald _ 69 dX10_third_68 dk_11 g9 rfl rfl ?_
      exact ev_ireturn dX10_third_69 rfl (rx_ret_i h)
    · replace h := rx_if_f c8 h
      by_cases c10 : x2 = 1
      · replace h := rx_if_t c10 h
        refine ev_tableIn 70 dX10_third_15 (by rw [c10]; decide) (by rw [c10]; decide) (off := 55) (by rw [c10]; rfl) rfl ?_
        refine ev_aload_n (i := 0) 71 dX10_third_70 rfl rfl rfl ?_
        refine ev_get (v := .ref 32) 74 dX10_third_71 dk_0 fl_10_31 (by decide) rfl rfl rfl ?_
        refine ev_bipush (v := 28) 76 dX10_third_74 (by decide) rfl ?_
        refine ev_iload_n (i := 1) 77 dX10_third_76 rfl rfl rfl ?_
        refine ev_iadd 78 dX10_third_77 rfl ?_
        obtain ⟨g11, h⟩ := rx_gd_o h
        refine ex_iald _ 79 dX10_third_78 dk_32 g11 rfl rfl ?_
        exact ev_ireturn dX10_third_79 rfl (rx_ret_i h)
      · replace h := rx_if_f c10 h
        by_cases c12 : x2 = 2
        · replace h := rx_if_t c12 h
          refine ev_tableIn 80 dX10_third_15 (by rw [c12]; decide) (by rw [c12]; decide) (off := 65) (by rw [c12]; rfl) rfl ?_
          refine ev_aload_n (i := 0) 81 dX10_third_80 rfl rfl rfl ?_
          refine ev_get (v := .ref 32) 84 dX10_third_81 dk_0 fl_10_31 (by decide) rfl rfl rfl ?_
          refine ev_bipush (v := 32) 86 dX10_third_84 (by decide) rfl ?_
          refine ev_iload_n (i := 1) 87 dX10_third_86 rfl rfl rfl ?_
          refine ev_iadd 88 dX10_third_87 rfl ?_
          obtain ⟨g13, h⟩ := rx_gd_o h
          refine ex_iald _ 89 dX10_third_88 dk_32 g13 rfl rfl ?_
          exact ev_ireturn dX10_third_89 rfl (rx_ret_i h)
        · replace h := rx_if_f c12 h
          by_cases c14 : x2 = 3
          · replace h := rx_if_t c14 h
            refine ev_tableIn 90 dX10_third_15 (by rw [c14]; decide) (by rw [c14]; decide) (off := 75) (by rw [c14]; rfl) rfl ?_
            refine ev_aload_n (i := 0) 91 dX10_third_90 rfl rfl rfl ?_
            refine ev_get (v := .ref 32) 94 dX10_third_91 dk_0 fl_10_31 (by decide) rfl rfl rfl ?_
            refine ev_bipush (v := 36) 96 dX10_third_94 (by decide) rfl ?_
            refine ev_iload_n (i := 1) 97 dX10_third_96 rfl rfl rfl ?_
            refine ev_iadd 98 dX10_third_97 rfl ?_
            obtain ⟨g15, h⟩ := rx_gd_o h
            refine ex_iald _ 99 dX10_third_98 dk_32 g15 rfl rfl ?_
            exact ev_ireturn dX10_third_99 rfl (rx_ret_i h)
          · replace h := rx_if_f c14 h
            by_cases c16 : x2 = 4
            · replace h := rx_if_t c16 h
              refine ev_tableIn 100 dX10_third_15 (by rw [c16]; decide) (by rw [c16]; decide) (off := 85) (by rw [c16]; rfl) rfl ?_
              refine ev_aload_n (i := 0) 101 dX10_third_100 rfl rfl rfl ?_
              refine ev_get (v := .ref 32) 104 dX10_third_101 dk_0 fl_10_31 (by decide) rfl rfl rfl ?_
              refine ev_bipush (v := 40) 106 dX10_third_104 (by decide) rfl ?_
              refine ev_iload_n (i := 1) 107 dX10_third_106 rfl rfl rfl ?_
              refine ev_iadd 108 dX10_third_107 rfl ?_
              obtain ⟨g17, h⟩ := rx_gd_o h
              refine ex_iald _ 109 dX10_third_108 dk_32 g17 rfl rfl ?_
              exact ev_ireturn dX10_third_109 rfl (rx_ret_i h)
            · replace h := rx_if_f c16 h
              by_cases c18 : x2 = 5
              · replace h := rx_if_t c18 h
                refine ev_tableIn 110 dX10_third_15 (by rw [c18]; decide) (by rw [c18]; decide) (off := 95) (by rw [c18]; rfl) rfl ?_
                refine ev_aload_n (i := 0) 111 dX10_third_110 rfl rfl rfl ?_
                refine ev_get (v := .ref 32) 114 dX10_third_111 dk_0 fl_10_31 (by decide) rfl rfl rfl ?_
                refine ev_bipush (v := 44) 116 dX10_third_114 (by decide) rfl ?_
                refine ev_iload_n (i := 1) 117 dX10_third_116 rfl rfl rfl ?_
                refine ev_iadd 118 dX10_third_117 rfl ?_
                obtain ⟨g19, h⟩ := rx_gd_o h
                refine ex_iald _ 119 dX10_third_118 dk_32 g19 rfl rfl ?_
                exact ev_ireturn dX10_third_119 rfl (rx_ret_i h)
              · replace h := rx_if_f c18 h
                by_cases c20 : x2 = 6
                · replace h := rx_if_t c20 h
                  refine ev_tableIn 120 dX10_third_15 (by rw [c20]; decide) (by rw [c20]; decide) (off := 105) (by rw [c20]; rfl) rfl ?_
                  refine ev_aload_n (i := 0) 121 dX10_third_120 rfl rfl rfl ?_
                  refine ev_iload_n (i := 1) 122 dX10_third_121 rfl rfl rfl ?_
                  obtain ⟨x22, S21, g23, h⟩ := rx_bd_o h
                  refine ev_cVi1 125 dX10_third_122 (em_X10_couplesOf g23) mm_X10_couplesOf mv_X10_couplesOf lk_10_130 dk_0 (by decide) rfl (Nat.le_of_ble_eq_true rfl) (Nat.le_of_ble_eq_true rfl) rfl ?_
                  exact ev_ireturn dX10_third_125 rfl (rx_ret_i h)
                · replace h := rx_if_f c20 h
                  by_cases c24 : x2 = 7
                  · replace h := rx_if_t c24 h
                    refine ev_tableIn 126 dX10_third_15 (by rw [c24]; decide) (by rw [c24]; decide) (off := 111) (by rw [c24]; rfl) rfl ?_
                    refine ev_aload_n (i := 0) 127 dX10_third_126 rfl rfl rfl ?_
                    refine ev_get (v := .ref 80) 130 dX10_third_127 dk_0 fl_10_47 (by decide) rfl rfl rfl ?_
                    refine ev_aload_n (i := 0) 131 dX10_third_130 rfl rfl rfl ?_
                    refine ev_get (v := .ref 32) 134 dX10_third_131 dk_0 fl_10_31 (by decide) rfl rfl rfl ?_
                    refine ev_iload_n (i := 1) 135 dX10_third_134 rfl rfl rfl ?_
                    obtain ⟨x26, S25, g27, h⟩ := rx_bd_o h
                    refine ev_cVi2 138 dX10_third_135 (em_X7_isDaring_32 g27) mm_X7_isDaring mv_X7_isDaring lk_10_134 dk_80 (by decide) rfl (Nat.le_of_ble_eq_true rfl) (Nat.le_of_ble_eq_true rfl) rfl ?_
                    refine ev_if_eq 145 141 dX10_third_138 rfl rfl (fun c28 => ?_) (fun c28 => ?_)
                    · replace h := rx_if_t c28 h
                      refine ev_iconst (v := 0) 146 dX10_third_145 (by decide) rfl ?_
                      exact ev_ireturn dX10_third_146 rfl (rx_ret_i h)
                    · replace h := rx_if_f c28 h
                      refine ev_iconst (v := 1) 142 dX10_third_141 (by decide) rfl ?_
                      refine ev_goto 146 dX10_third_142 rfl ?_
                      exact ev_ireturn dX10_third_146 rfl (rx_ret_i h)
                  · replace h := rx_if_f c24 h
                    refine ev_tableOut 147 dX10_third_15 (by have q0 := rx_ne c8 (z := 0) (by decide); have q1 := rx_ne c10 (z := 1) (by decide); have q2 := rx_ne c12 (z := 2) (by decide); have q3 := rx_ne c14 (z := 3) (by decide); have q4 := rx_ne c16 (z := 4) (by decide); have q5 := rx_ne c18 (z := 5) (by decide); have q6 := rx_ne c20 (z := 6) (by decide); have q7 := rx_ne c24 (z := 7) (by decide); omega) rfl ?_
                    refine ev_ldc (v := (-100000)) 149 dX10_third_147 rfl ct_10_126 rfl ?_
                    exact ev_ireturn dX10_third_149 rfl (rx_ret_i h)
  · replace h := rx_if_t c7 h
    refine ev_ldc (v := (-100000)) 13 dX10_third_11 rfl ct_10_126 rfl ?_
    exact ev_ireturn dX10_third_13 rfl (rx_ret_i h)

def f_X10_allMoods_L4 (N : Nat) : Nat → Int32 → Int32 → rx_S → Option (Int32 × rx_S)
  | 0, _, _, _ => none
  | n + 1, x2, x3, S4 => if (S4.1 2 6) ≤ x3 then (some (x2, S4)) else (rx_gd ((4 : Int32) + x3) 48 (rx_let (x2 + (S4.1 32 (Int32.toNatClampNeg ((4 : Int32) + x3)))) (fun x7 => rx_let (x3 + 1) (fun x8 => f_X10_allMoods_L4 N n x7 x8 S4))))
def f_X10_allMoods (N : Nat) (S0 : rx_S) : Option (Int32 × rx_S) := f_X10_allMoods_L4 N N 0 0 S0
set_option maxHeartbeats 4000000 in
set_option maxRecDepth 20000 in
theorem em_X10_allMoods_L4 {d N : Nat} {zr : Int32} {zS : rx_S} : ∀ (n : Nat) (x2 : Int32) (x3 : Int32) (S4 : rx_S), f_X10_allMoods_L4 N n x2 x3 S4 = some (zr, zS) → EV gC d mX10_allMoods 4 [some (.ref 0), some (.int x2), some (.int x3)] [] S4 (rx_pi zr zS) := by
  intro n
  induction n with
  | zero => intro x2 x3 S4 h; cases h
  | succ n ih =>
    intro x2 x3 S4 h
    rw [f_X10_allMoods_L4] at h
    refine ev_iload_n (i := 2) 5 dX10_allMoods_4 rfl rfl rfl ?_
    refine ev_aload_n (i := 0) 6 dX10_allMoods_5 rfl rfl rfl ?_
    refine ev_get (v := .ref 2) 9 dX10_allMoods_6 dk_0 fl_10_20 (by decide) rfl rfl rfl ?_
    refine ev_get (v := .int (S4.1 2 6)) 12 dX10_allMoods_9 dk_2 fl_10_141 (by decide) rfl rfl rfl ?_
    refine ev_icmp_ge 32 15 dX10_allMoods_12 rfl rfl (fun c5 => ?_) (fun c5 => ?_)
    · replace h := rx_if_t c5 h
      refine ev_iload_n (i := 1) 33 dX10_allMoods_32 rfl rfl rfl ?_
      exact ev_ireturn dX10_allMoods_33 rfl (rx_ret_i h)
    · replace h := rx_if_f c5 h
      refine ev_iload_n (i := 1) 16 dX10_allMoods_15 rfl rfl rfl ?_
      refine ev_aload_n (i := 0) 17 dX10_allMoods_16 rfl rfl rfl ?_
      refine ev_get (v := .ref 32) 20 dX10_allMoods_17 dk_0 fl_10_31 (by decide) rfl rfl rfl ?_
      refine ev_iconst (v := 4) 21 dX10_allMoods_20 (by decide) rfl ?_
      refine ev_iload_n (i := 2) 22 dX10_allMoods_21 rfl rfl rfl ?_
      refine ev_iadd 23 dX10_allMoods_22 rfl ?_
      obtain ⟨g6, h⟩ := rx_gd_o h
      refine ex_iald _ 24 dX10_allMoods_23 dk_32 g6 rfl rfl ?_
      refine ev_iadd 25 dX10_allMoods_24 rfl ?_
      obtain ⟨x7, ex7, h⟩ := rx_let_o h
      refine ev_nm ex7 ?_
      refine ev_istore_n (ls' := [some (.ref 0), some (.int x7), some (.int x3)]) 26 dX10_allMoods_25 rfl (Nat.le_of_ble_eq_true rfl) rfl rfl ?_
      obtain ⟨x8, ex8, h⟩ := rx_let_o h
      refine ev_iinc (v := x8) (ls' := [some (.ref 0), some (.int x7), some (.int x8)]) 29 dX10_allMoods_26 rfl (by rw [ex8]; rfl) (Nat.le_of_ble_eq_true rfl) rfl rfl ?_
      refine ev_goto 4 dX10_allMoods_29 rfl ?_
      exact (ih _ _ _ h).fewer (rx_le_s (rx_le_s (rx_le_s rx_le_0)))

set_option maxHeartbeats 4000000 in
set_option maxRecDepth 20000 in
theorem em_X10_allMoods {d N : Nat} {S0 : rx_S} {zr : Int32} {zS : rx_S} (h : f_X10_allMoods N S0 = some (zr, zS)) : EM gC d mX10_allMoods [.ref 0] S0 (rx_pi zr zS) := by
  unfold f_X10_allMoods at h
  show EV gC d mX10_allMoods 0 [some (.ref 0), none, none] [] S0 (rx_pi zr zS)
  refine ev_iconst (v := 0) 1 dX10_allMoods_0 (by decide) rfl ?_
  refine ev_istore_n (ls' := [some (.ref 0), some (.int 0), none]) 2 dX10_allMoods_1 rfl (Nat.le_of_ble_eq_true rfl) rfl rfl ?_
  refine ev_iconst (v := 0) 3 dX10_allMoods_2 (by decide) rfl ?_
  refine ev_istore_n (ls' := [some (.ref 0), some (.int 0), some (.int 0)]) 4 dX10_allMoods_3 rfl (Nat.le_of_ble_eq_true rfl) rfl rfl ?_
  exact (em_X10_allMoods_L4 _ _ _ _ h).fewer (rx_le_s (rx_le_s (rx_le_s rx_le_0)))

def f_X10_bitsOf_L5 (N : Nat) : Nat → Int32 → Int32 → Int32 → Int32 → rx_S → Option (Int32 × rx_S)
  | 0, _, _, _, _, _ => none
  | n + 1, x4, x5, x6, x7, S8 => if x5 ≤ x7 then (some (x6, S8)) else (rx_gd (x4 + x7) 48 (if (S8.1 32 (Int32.toNatClampNeg (x4 + x7))) = 0 then (rx_let (x7 + 1) (fun x12 => f_X10_bitsOf_L5 N n x4 x5 x6 x12 S8)) else (rx_let (x6 ||| ((1 : Int32) <<< (x7 &&& 31))) (fun x13 => rx_let (x7 + 1) (fun x14 => f_X10_bitsOf_L5 N n x4 x5 x13 x14 S8)))))
def f_X10_bitsOf (N : Nat) (x1 : Int32) (x2 : Int32) (S0 : rx_S) : Option (Int32 × rx_S) := f_X10_bitsOf_L5 N N x1 x2 0 0 S0
set_option maxHeartbeats 4000000 in
set_option maxRecDepth 20000 in
theorem em_X10_bitsOf_L5 {d N : Nat} {zr : Int32} {zS : rx_S} : ∀ (n : Nat) (x4 : Int32) (x5 : Int32) (x6 : Int32) (x7 : Int32) (S8 : rx_S), f_X10_bitsOf_L5 N n x4 x5 x6 x7 S8 = some (zr, zS) → EV gC d mX10_bitsOf 5 [some (.ref 0), some (.int x4), some (.int x5), some (.int x6), some (.int x7)] [] S8 (rx_pi zr zS) := by
  intro n
  induction n with
  | zero => intro x4 x5 x6 x7 S8 h; cases h
  | succ n ih =>
    intro x4 x5 x6 x7 S8 h
    rw [f_X10_bitsOf_L5] at h
    refine ev_iload 7 dX10_bitsOf_5 rfl rfl ?_
    refine ev_iload_n (i := 2) 8 dX10_bitsOf_7 rfl rfl rfl ?_
    refine ev_icmp_ge 36 11 dX10_bitsOf_8 rfl rfl (fun c9 => ?_) (fun c9 => ?_)
    · replace h := rx_if_t c9 h
      refine ev_iload_n (i := 3) 37 dX10_bitsOf_36 rfl rfl rfl ?_
      exact ev_ireturn dX10_bitsOf_37 rfl (rx_ret_i h)
    · replace h := rx_if_f c9 h
      refine ev_aload_n (i := 0) 12 dX10_bitsOf_11 rfl rfl rfl ?_
      refine ev_get (v := .ref 32) 15 dX10_bitsOf_12 dk_0 fl_10_31 (by decide) rfl rfl rfl ?_
      refine ev_iload_n (i := 1) 16 dX10_bitsOf_15 rfl rfl rfl ?_
      refine ev_iload 18 dX10_bitsOf_16 rfl rfl ?_
      refine ev_iadd 19 dX10_bitsOf_18 rfl ?_
      obtain ⟨g10, h⟩ := rx_gd_o h
      refine ex_iald _ 20 dX10_bitsOf_19 dk_32 g10 rfl rfl ?_
      refine ev_if_eq 30 23 dX10_bitsOf_20 rfl rfl (fun c11 => ?_) (fun c11 => ?_)
      · replace h := rx_if_t c11 h
        obtain ⟨x12, ex12, h⟩ := rx_let_o h
        refine ev_iinc (v := x12) (ls' := [some (.ref 0), some (.int x4), some (.int x5), some (.int x6), some (.int x12)]) 33 dX10_bitsOf_30 rfl (by rw [ex12]; rfl) (Nat.le_of_ble_eq_true rfl) rfl rfl ?_
        refine ev_goto 5 dX10_bitsOf_33 rfl ?_
        exact (ih _ _ _ _ _ h).fewer (rx_le_s (rx_le_s (rx_le_s (rx_le_s (rx_le_s rx_le_0)))))
      · replace h := rx_if_f c11 h
        refine ev_iload_n (i := 3) 24 dX10_bitsOf_23 rfl rfl rfl ?_
        refine ev_iconst (v := 1) 25 dX10_bitsOf_24 (by decide) rfl ?_
        refine ev_iload 27 dX10_bitsOf_25 rfl rfl ?_
        refine ev_ishl 28 dX10_bitsOf_27 rfl ?_
        refine ev_ior 29 dX10_bitsOf_28 rfl ?_
        obtain ⟨x13, ex13, h⟩ := rx_let_o h
        refine ev_nm ex13 ?_
        refine ev_istore_n (ls' := [some (.ref 0), some (.int x4), some (.int x5), some (.int x13), some (.int x7)]) 30 dX10_bitsOf_29 rfl (Nat.le_of_ble_eq_true rfl) rfl rfl ?_
        obtain ⟨x14, ex14, h⟩ := rx_let_o h
        refine ev_iinc (v := x14) (ls' := [some (.ref 0), some (.int x4), some (.int x5), some (.int x13), some (.int x14)]) 33 dX10_bitsOf_30 rfl (by rw [ex14]; rfl) (Nat.le_of_ble_eq_true rfl) rfl rfl ?_
        refine ev_goto 5 dX10_bitsOf_33 rfl ?_
        exact (ih _ _ _ _ _ h).fewer (rx_le_s (rx_le_s (rx_le_s (rx_le_s (rx_le_s rx_le_0)))))

set_option maxHeartbeats 4000000 in
set_option maxRecDepth 20000 in
theorem em_X10_bitsOf {d N : Nat} {x1 : Int32} {x2 : Int32} {S0 : rx_S} {zr : Int32} {zS : rx_S} (h : f_X10_bitsOf N x1 x2 S0 = some (zr, zS)) : EM gC d mX10_bitsOf [.ref 0, .int x1, .int x2] S0 (rx_pi zr zS) := by
  unfold f_X10_bitsOf at h
  show EV gC d mX10_bitsOf 0 [some (.ref 0), some (.int x1), some (.int x2), none, none] [] S0 (rx_pi zr zS)
  refine ev_iconst (v := 0) 1 dX10_bitsOf_0 (by decide) rfl ?_
  refine ev_istore_n (ls' := [some (.ref 0), some (.int x1), some (.int x2), some (.int 0), none]) 2 dX10_bitsOf_1 rfl (Nat.le_of_ble_eq_true rfl) rfl rfl ?_
  refine ev_iconst (v := 0) 3 dX10_bitsOf_2 (by decide) rfl ?_
  refine ev_istore (ls' := [some (.ref 0), some (.int x1), some (.int x2), some (.int 0), some (.int 0)]) 5 dX10_bitsOf_3 (Nat.le_of_ble_eq_true rfl) rfl rfl ?_
  exact (em_X10_bitsOf_L5 _ _ _ _ _ _ h).fewer (rx_le_s (rx_le_s (rx_le_s (rx_le_s (rx_le_s rx_le_0)))))

def f_X10_count (N : Nat) (x1 : Int32) (S0 : rx_S) : Option (Int32 × rx_S) := if x1 = 0 then (some ((S0.1 2 6), S0)) else (if x1 = 1 then (some ((S0.1 2 7), S0)) else (if x1 = 2 then (some ((S0.1 2 8), S0)) else (if x1 = 3 then (some ((S0.1 32 0), S0)) else (if x1 = 4 then (rx_bd (f_X10_bitsOf N 19 (S0.1 2 7) S0) (fun x9 S8 => some (x9, S8))) else (if x1 = 5 then (rx_bd (f_X10_bitsOf N 36 (S0.1 2 8) S0) (fun x13 S12 => some (x13, S12))) else (if x1 = 6 then (some ((S0.1 32 1), S0)) else (if x1 = 7 then (some ((S0.1 32 2), S0)) else (if x1 = 8 then (some ((S0.1 0 1), S0)) else (if x1 = 9 then (some ((S0.1 33 4), S0)) else (if x1 = 10 then (some ((S0.1 91 4), S0)) else (if x1 = 11 then (rx_bd (f_X3_heldCount N S0) (fun x22 S21 => some (x22, S21))) else (if x1 = 12 then (some ((S0.1 32 3), S0)) else (if x1 = 13 then (rx_bd (f_X10_allMoods N S0) (fun x27 S26 => some (x27, S26))) else (some ((-1), S0)))))))))))))))
set_option maxHeartbeats 4000000 in
set_option maxRecDepth 20000 in
theorem em_X10_count {d N : Nat} {x1 : Int32} {S0 : rx_S} {zr : Int32} {zS : rx_S} (h : f_X10_count N x1 S0 = some (zr, zS)) : EM gC (d + 1) mX10_count [.ref 0, .int x1] S0 (rx_pi zr zS) := by
  unfold f_X10_count at h
  show EV gC (d + 1) mX10_count 0 [some (.ref 0), some (.int x1)] [] S0 (rx_pi zr zS)
  refine ev_iload_n (i := 1) 1 dX10_count_0 rfl rfl rfl ?_
  by_cases c3 : x1 = 0
  · replace h := rx_if_t c3 h
    refine ev_tableIn 72 dX10_count_1 (by rw [c3]; decide) (by rw [c3]; decide) (off := 71) (by rw [c3]; rfl) rfl ?_
    refine ev_aload_n (i := 0) 73 dX10_count_72 rfl rfl rfl ?_
    refine ev_get (v := .ref 2) 76 dX10_count_73 dk_0 fl_10_20 (by decide) rfl rfl rfl ?_
    refine ev_get (v := .int (S0.1 2 6)) 79 dX10_count_76 dk_2 fl_10_141 (by decide) rfl rfl rfl ?_
    exact ev_ireturn dX10_count_79 rfl (rx_ret_i h)
  · replace h := rx_if_f c3 h
    by_cases c4 : x1 = 1
    · replace h := rx_if_t c4 h
      refine ev_tableIn 80 dX10_count_1 (by rw [c4]; decide) (by rw [c4]; decide) (off := 79) (by rw [c4]; rfl) rfl ?_
      refine ev_aload_n (i := 0) 81 dX10_count_80 rfl rfl rfl ?_
      refine ev_get (v := .ref 2) 84 dX10_count_81 dk_0 fl_10_20 (by decide) rfl rfl rfl ?_
      refine ev_get (v := .int (S0.1 2 7)) 87 dX10_count_84 dk_2 fl_10_138 (by decide) rfl rfl rfl ?_
      exact ev_ireturn dX10_count_87 rfl (rx_ret_i h)
    · replace h := rx_if_f c4 h
      by_cases c5 : x1 = 2
      · replace h := rx_if_t c5 h
        refine ev_tableIn 88 dX10_count_1 (by rw [c5]; decide) (by rw [c5]; decide) (off := 87) (by rw [c5]; rfl) rfl ?_
        refine ev_aload_n (i := 0) 89 dX10_count_88 rfl rfl rfl ?_
        refine ev_get (v := .ref 2) 92 dX10_count_89 dk_0 fl_10_20 (by decide) rfl rfl rfl ?_
        refine ev_get (v := .int (S0.1 2 8)) 95 dX10_count_92 dk_2 fl_10_144 (by decide) rfl rfl rfl ?_
        exact ev_ireturn dX10_count_95 rfl (rx_ret_i h)
      · replace h := rx_if_f c5 h
        by_cases c6 : x1 = 3
        · replace h := rx_if_t c6 h
          refine ev_tableIn 96 dX10_count_1 (by rw [c6]; decide) (by rw [c6]; decide) (off := 95) (by rw [c6]; rfl) rfl ?_
          refine ev_aload_n (i := 0) 97 dX10_count_96 rfl rfl rfl ?_
          refine ev_get (v := .ref 32) 100 dX10_count_97 dk_0 fl_10_31 (by decide) rfl rfl rfl ?_
          refine ev_iconst (v := 0) 101 dX10_count_100 (by decide) rfl ?_
          refine ex_iald 0 102 dX10_count_101 dk_32 (rx_vin (by decide)) (by decide) rfl ?_
          exact ev_ireturn dX10_count_102 rfl (rx_ret_i h)
        · replace h := rx_if_f c6 h
          by_cases c7 : x1 = 4
          · replace h := rx_if_t c7 h
            refine ev_tableIn 103 dX10_count_1 (by rw [c7]; decide) (by rw [c7]; decide) (off := 102) (by rw [c7]; rfl) rfl ?_
            refine ev_aload_n (i := 0) 104 dX10_count_103 rfl rfl rfl ?_
            refine ev_bipush (v := 19) 106 dX10_count_104 (by decide) rfl ?_
            refine ev_aload_n (i := 0) 107 dX10_count_106 rfl rfl rfl ?_
            refine ev_get (v := .ref 2) 110 dX10_count_107 dk_0 fl_10_20 (by decide) rfl rfl rfl ?_
            refine ev_get (v := .int (S0.1 2 7)) 113 dX10_count_110 dk_2 fl_10_138 (by decide) rfl rfl rfl ?_
            obtain ⟨x9, S8, g10, h⟩ := rx_bd_o h
            refine ev_cVi2 116 dX10_count_113 (em_X10_bitsOf g10) mm_X10_bitsOf mv_X10_bitsOf lk_10_147 dk_0 (by decide) rfl (Nat.le_of_ble_eq_true rfl) (Nat.le_of_ble_eq_true rfl) rfl ?_
            exact ev_ireturn dX10_count_116 rfl (rx_ret_i h)
          · replace h := rx_if_f c7 h
            by_cases c11 : x1 = 5
            · replace h := rx_if_t c11 h
              refine ev_tableIn 117 dX10_count_1 (by rw [c11]; decide) (by rw [c11]; decide) (off := 116) (by rw [c11]; rfl) rfl ?_
              refine ev_aload_n (i := 0) 118 dX10_count_117 rfl rfl rfl ?_
              refine ev_bipush (v := 36) 120 dX10_count_118 (by decide) rfl ?_
              refine ev_aload_n (i := 0) 121 dX10_count_120 rfl rfl rfl ?_
              refine ev_get (v := .ref 2) 124 dX10_count_121 dk_0 fl_10_20 (by decide) rfl rfl rfl ?_
              refine ev_get (v := .int (S0.1 2 8)) 127 dX10_count_124 dk_2 fl_10_144 (by decide) rfl rfl rfl ?_
              obtain ⟨x13, S12, g14, h⟩ := rx_bd_o h
              refine ev_cVi2 130 dX10_count_127 (em_X10_bitsOf g14) mm_X10_bitsOf mv_X10_bitsOf lk_10_147 dk_0 (by decide) rfl (Nat.le_of_ble_eq_true rfl) (Nat.le_of_ble_eq_true rfl) rfl ?_
              exact ev_ireturn dX10_count_130 rfl (rx_ret_i h)
            · replace h := rx_if_f c11 h
              by_cases c15 : x1 = 6
              · replace h := rx_if_t c15 h
                refine ev_tableIn 131 dX10_count_1 (by rw [c15]; decide) (by rw [c15]; decide) (off := 130) (by rw [c15]; rfl) rfl ?_
                refine ev_aload_n (i := 0) 132 dX10_count_131 rfl rfl rfl ?_
                refine ev_get (v := .ref 32) 135 dX10_count_132 dk_0 fl_10_31 (by decide) rfl rfl rfl ?_
                refine ev_iconst (v := 1) 136 dX10_count_135 (by decide) rfl ?_
                refine ex_iald 1 137 dX10_count_136 dk_32 (rx_vin (by decide)) (by decide) rfl ?_
                exact ev_ireturn dX10_count_137 rfl (rx_ret_i h)
              · replace h := rx_if_f c15 h
                by_cases c16 : x1 = 7
                · replace h := rx_if_t c16 h
                  refine ev_tableIn 138 dX10_count_1 (by rw [c16]; decide) (by rw [c16]; decide) (off := 137) (by rw [c16]; rfl) rfl ?_
                  refine ev_aload_n (i := 0) 139 dX10_count_138 rfl rfl rfl ?_
                  refine ev_get (v := .ref 32) 142 dX10_count_139 dk_0 fl_10_31 (by decide) rfl rfl rfl ?_
                  refine ev_iconst (v := 2) 143 dX10_count_142 (by decide) rfl ?_
                  refine ex_iald 2 144 dX10_count_143 dk_32 (rx_vin (by decide)) (by decide) rfl ?_
                  exact ev_ireturn dX10_count_144 rfl (rx_ret_i h)
                · replace h := rx_if_f c16 h
                  by_cases c17 : x1 = 8
                  · replace h := rx_if_t c17 h
                    refine ev_tableIn 145 dX10_count_1 (by rw [c17]; decide) (by rw [c17]; decide) (off := 144) (by rw [c17]; rfl) rfl ?_
                    refine ev_aload_n (i := 0) 146 dX10_count_145 rfl rfl rfl ?_
                    refine ev_get (v := .int (S0.1 0 1)) 149 dX10_count_146 dk_0 fl_10_81 (by decide) rfl rfl rfl ?_
                    exact ev_ireturn dX10_count_149 rfl (rx_ret_i h)
                  · replace h := rx_if_f c17 h
                    by_cases c18 : x1 = 9
                    · replace h := rx_if_t c18 h
                      refine ev_tableIn 150 dX10_count_1 (by rw [c18]; decide) (by rw [c18]; decide) (off := 149) (by rw [c18]; rfl) rfl ?_
                      refine ev_aload_n (i := 0) 151 dX10_count_150 rfl rfl rfl ?_
                      refine ev_get (v := .ref 33) 154 dX10_count_151 dk_0 fl_10_38 (by decide) rfl rfl rfl ?_
                      refine ev_get (v := .int (S0.1 33 4)) 157 dX10_count_154 dk_33 fl_10_151 (by decide) rfl rfl rfl ?_
                      exact ev_ireturn dX10_count_157 rfl (rx_ret_i h)
                    · replace h := rx_if_f c18 h
                      by_cases c19 : x1 = 10
                      · replace h := rx_if_t c19 h
                        refine ev_tableIn 158 dX10_count_1 (by rw [c19]; decide) (by rw [c19]; decide) (off := 157) (by rw [c19]; rfl) rfl ?_
                        refine ev_aload_n (i := 0) 159 dX10_count_158 rfl rfl rfl ?_
                        refine ev_get (v := .ref 91) 162 dX10_count_159 dk_0 fl_10_70 (by decide) rfl rfl rfl ?_
                        refine ev_get (v := .int (S0.1 91 4)) 165 dX10_count_162 dk_91 fl_10_154 (by decide) rfl rfl rfl ?_
                        exact ev_ireturn dX10_count_165 rfl (rx_ret_i h)
                      · replace h := rx_if_f c19 h
                        by_cases c20 : x1 = 11
                        · replace h := rx_if_t c20 h
                          refine ev_tableIn 166 dX10_count_1 (by rw [c20]; decide) (by rw [c20]; decide) (off := 165) (by rw [c20]; rfl) rfl ?_
                          refine ev_aload_n (i := 0) 167 dX10_count_166 rfl rfl rfl ?_
                          refine ev_get (v := .ref 33) 170 dX10_count_167 dk_0 fl_10_38 (by decide) rfl rfl rfl ?_
                          obtain ⟨x22, S21, g23, h⟩ := rx_bd_o h
                          refine ev_cVi0 173 dX10_count_170 (em_X3_heldCount g23) mm_X3_heldCount mv_X3_heldCount lk_10_157 dk_33 (by decide) rfl (Nat.le_of_ble_eq_true rfl) (Nat.le_of_ble_eq_true rfl) rfl ?_
                          exact ev_ireturn dX10_count_173 rfl (rx_ret_i h)
                        · replace h := rx_if_f c20 h
                          by_cases c24 : x1 = 12
                          · replace h := rx_if_t c24 h
                            refine ev_tableIn 174 dX10_count_1 (by rw [c24]; decide) (by rw [c24]; decide) (off := 173) (by rw [c24]; rfl) rfl ?_
                            refine ev_aload_n (i := 0) 175 dX10_count_174 rfl rfl rfl ?_
                            refine ev_get (v := .ref 32) 178 dX10_count_175 dk_0 fl_10_31 (by decide) rfl rfl rfl ?_
                            refine ev_iconst (v := 3) 179 dX10_count_178 (by decide) rfl ?_
                            refine ex_iald 3 180 dX10_count_179 dk_32 (rx_vin (by decide)) (by decide) rfl ?_
                            exact ev_ireturn dX10_count_180 rfl (rx_ret_i h)
                          · replace h := rx_if_f c24 h
                            by_cases c25 : x1 = 13
                            · replace h := rx_if_t c25 h
                              refine ev_tableIn 181 dX10_count_1 (by rw [c25]; decide) (by rw [c25]; decide) (off := 180) (by rw [c25]; rfl) rfl ?_
                              refine ev_aload_n (i := 0) 182 dX10_count_181 rfl rfl rfl ?_
                              obtain ⟨x27, S26, g28, h⟩ := rx_bd_o h
                              refine ev_cVi0 185 dX10_count_182 (em_X10_allMoods g28) mm_X10_allMoods mv_X10_allMoods lk_10_161 dk_0 (by decide) rfl (Nat.le_of_ble_eq_true rfl) (Nat.le_of_ble_eq_true rfl) rfl ?_
                              exact ev_ireturn dX10_count_185 rfl (rx_ret_i h)
                            · replace h := rx_if_f c25 h
                              refine ev_tableOut 186 dX10_count_1 (by have q0 := rx_ne c3 (z := 0) (by decide); have q1 := rx_ne c4 (z := 1) (by decide); have q2 := rx_ne c5 (z := 2) (by decide); have q3 := rx_ne c6 (z := 3) (by decide); have q4 := rx_ne c7 (z := 4) (by decide); have q5 := rx_ne c11 (z := 5) (by decide); have q6 := rx_ne c15 (z := 6) (by decide); have q7 := rx_ne c16 (z := 7) (by decide); have q8 := rx_ne c17 (z := 8) (by decide); have q9 := rx_ne c18 (z := 9) (by decide); have q10 := rx_ne c19 (z := 10) (by decide); have q11 := rx_ne c20 (z := 11) (by decide); have q12 := rx_ne c24 (z := 12) (by decide); have q13 := rx_ne c25 (z := 13) (by decide); omega) rfl ?_
                              refine ev_iconst (v := (-1)) 187 dX10_count_186 (by decide) rfl ?_
                              exact ev_ireturn dX10_count_187 rfl (rx_ret_i h)

def f_X10_hire (x1 : Int32) (x2 : Int32) (S0 : rx_S) : Option (Int32 × rx_S) := rx_bd (f_X8_hasCouple 2 x1 S0) (fun x5 S4 => if x5 = 0 then (some (0, S4)) else (rx_let (fun (x8 : Int32) (x9 : Int32) (S10 : rx_S) => rx_gd ((19 : Int32) + x8) 48 (if (S10.1 32 (Int32.toNatClampNeg ((19 : Int32) + x8))) = 0 then (rx_gd ((16 : Int32) + x8) 48 (if (S10.1 32 (Int32.toNatClampNeg ((16 : Int32) + x8))) = x9 then (some (0, S10)) else (rx_bd (f_X3_remember S10) (fun x16 S15 => rx_gd ((16 : Int32) + x8) 48 (rx_let (rx_ui S15 32 (Int32.toNatClampNeg ((16 : Int32) + x8)) x9) (fun S19 => some (1, S19))))))) else (some (0, S10)))) (fun J29_1 => if x2 = (-1) then (J29_1 x1 x2 S4) else (rx_bd (f_X8_hasThird 2 x2 S4) (fun x22 S21 => if x22 = 0 then (some (0, S21)) else (J29_1 x1 x2 S21))))))
set_option maxHeartbeats 4000000 in
set_option maxRecDepth 20000 in
theorem em_X10_hire {d : Nat} {x1 : Int32} {x2 : Int32} {S0 : rx_S} {zr : Int32} {zS : rx_S} (h : f_X10_hire x1 x2 S0 = some (zr, zS)) : EM gC (d + 2) mX10_hire [.ref 0, .int x1, .int x2] S0 (rx_pi zr zS) := by
  unfold f_X10_hire at h
  show EV gC (d + 2) mX10_hire 0 [some (.ref 0), some (.int x1), some (.int x2)] [] S0 (rx_pi zr zS)
  refine ev_aload_n (i := 0) 1 dX10_hire_0 rfl rfl rfl ?_
  refine ev_get (v := .ref 2) 4 dX10_hire_1 dk_0 fl_10_20 (by decide) rfl rfl rfl ?_
  refine ev_iload_n (i := 1) 5 dX10_hire_4 rfl rfl rfl ?_
  obtain ⟨x5, S4, g6, h⟩ := rx_bd_o h
  refine ev_cVi1 8 dX10_hire_5 (em_X8_hasCouple_2 g6) mm_X8_hasCouple mv_X8_hasCouple lk_10_117 dk_2 (by decide) rfl (Nat.le_of_ble_eq_true rfl) (Nat.le_of_ble_eq_true rfl) rfl ?_
  refine ev_if_eq 27 11 dX10_hire_8 rfl rfl (fun c7 => ?_) (fun c7 => ?_)
  · replace h := rx_if_t c7 h
    refine ev_iconst (v := 0) 28 dX10_hire_27 (by decide) rfl ?_
    exact ev_zreturn dX10_hire_28 rfl (by decide) (rx_ret_i h)
  · replace h := rx_if_f c7 h
    refine ev_iload_n (i := 2) 12 dX10_hire_11 rfl rfl rfl ?_
    refine ev_iconst (v := (-1)) 13 dX10_hire_12 (by decide) rfl ?_
    obtain ⟨J29_1, eJ29_1, h⟩ := rx_let_o h
    have hJ29_1 : ∀ (x8 : Int32) (x9 : Int32) (S10 : rx_S), J29_1 x8 x9 S10 = some (zr, zS) → EV gC (d + 2) mX10_hire 29 [some (.ref 0), some (.int x8), some (.int x9)] [] S10 (rx_pi zr zS) := by
      intro x8 x9 S10 h
      subst eJ29_1
      refine ev_aload_n (i := 0) 30 dX10_hire_29 rfl rfl rfl ?_
      refine ev_get (v := .ref 32) 33 dX10_hire_30 dk_0 fl_10_31 (by decide) rfl rfl rfl ?_
      refine ev_bipush (v := 19) 35 dX10_hire_33 (by decide) rfl ?_
      refine ev_iload_n (i := 1) 36 dX10_hire_35 rfl rfl rfl ?_
      refine ev_iadd 37 dX10_hire_36 rfl ?_
      obtain ⟨g11, h⟩ := rx_gd_o h
      refine ex_iald _ 38 dX10_hire_37 dk_32 g11 rfl rfl ?_
      refine ev_if_ne 54 41 dX10_hire_38 rfl rfl (fun c12 => ?_) (fun c12 => ?_)
      · replace h := rx_if_f c12 h
        refine ev_iconst (v := 0) 55 dX10_hire_54 (by decide) rfl ?_
        exact ev_zreturn dX10_hire_55 rfl (by decide) (rx_ret_i h)
      · replace h := rx_if_t c12 h
        refine ev_aload_n (i := 0) 42 dX10_hire_41 rfl rfl rfl ?_
        refine ev_get (v := .ref 32) 45 dX10_hire_42 dk_0 fl_10_31 (by decide) rfl rfl rfl ?_
        refine ev_bipush (v := 16) 47 dX10_hire_45 (by decide) rfl ?_
        refine ev_iload_n (i := 1) 48 dX10_hire_47 rfl rfl rfl ?_
        refine ev_iadd 49 dX10_hire_48 rfl ?_
        obtain ⟨g13, h⟩ := rx_gd_o h
        refine ex_iald _ 50 dX10_hire_49 dk_32 g13 rfl rfl ?_
        refine ev_iload_n (i := 2) 51 dX10_hire_50 rfl rfl rfl ?_
        refine ev_icmp_ne 56 54 dX10_hire_51 rfl rfl (fun c14 => ?_) (fun c14 => ?_)
        · replace h := rx_if_f c14 h
          refine ev_aload_n (i := 0) 57 dX10_hire_56 rfl rfl rfl ?_
          refine ev_get (v := .ref 33) 60 dX10_hire_57 dk_0 fl_10_38 (by decide) rfl rfl rfl ?_
          refine ev_aload_n (i := 0) 61 dX10_hire_60 rfl rfl rfl ?_
          refine ev_get (v := .ref 32) 64 dX10_hire_61 dk_0 fl_10_31 (by decide) rfl rfl rfl ?_
          obtain ⟨x16, S15, g17, h⟩ := rx_bd_o h
          refine ev_cVv1 67 dX10_hire_64 (em_X3_remember g17) mm_X3_remember mv_X3_remember lk_10_164 dk_33 (by decide) rfl (Nat.le_of_ble_eq_true rfl) (Nat.le_of_ble_eq_true rfl) rfl ?_
          refine ev_aload_n (i := 0) 68 dX10_hire_67 rfl rfl rfl ?_
          refine ev_get (v := .ref 32) 71 dX10_hire_68 dk_0 fl_10_31 (by decide) rfl rfl rfl ?_
          refine ev_bipush (v := 16) 73 dX10_hire_71 (by decide) rfl ?_
          refine ev_iload_n (i := 1) 74 dX10_hire_73 rfl rfl rfl ?_
          refine ev_iadd 75 dX10_hire_74 rfl ?_
          refine ev_iload_n (i := 2) 76 dX10_hire_75 rfl rfl rfl ?_
          obtain ⟨g18, h⟩ := rx_gd_o h
          obtain ⟨S19, eS19, h⟩ := rx_let_o h
          refine ex_iast _ 77 dX10_hire_76 dk_32 g18 rfl rfl eS19 ?_
          refine ev_iconst (v := 1) 78 dX10_hire_77 (by decide) rfl ?_
          exact ev_zreturn dX10_hire_78 rfl (by decide) (rx_ret_i h)
        · replace h := rx_if_t c14 h
          refine ev_iconst (v := 0) 55 dX10_hire_54 (by decide) rfl ?_
          exact ev_zreturn dX10_hire_55 rfl (by decide) (rx_ret_i h)
    refine ev_icmp_eq 29 16 dX10_hire_13 rfl rfl (fun c20 => ?_) (fun c20 => ?_)
    · replace h := rx_if_t c20 h
      exact (hJ29_1 _ _ _ h).fewer (rx_le_s (rx_le_s (rx_le_s rx_le_0)))
    · replace h := rx_if_f c20 h
      refine ev_aload_n (i := 0) 17 dX10_hire_16 rfl rfl rfl ?_
      refine ev_get (v := .ref 2) 20 dX10_hire_17 dk_0 fl_10_20 (by decide) rfl rfl rfl ?_
      refine ev_iload_n (i := 2) 21 dX10_hire_20 rfl rfl rfl ?_
      obtain ⟨x22, S21, g23, h⟩ := rx_bd_o h
      refine ev_cVi1 24 dX10_hire_21 (em_X8_hasThird_2 g23) mm_X8_hasThird mv_X8_hasThird lk_10_123 dk_2 (by decide) rfl (Nat.le_of_ble_eq_true rfl) (Nat.le_of_ble_eq_true rfl) rfl ?_
      refine ev_if_ne 29 27 dX10_hire_24 rfl rfl (fun c24 => ?_) (fun c24 => ?_)
      · replace h := rx_if_f c24 h
        exact (hJ29_1 _ _ _ h).fewer (rx_le_s (rx_le_s (rx_le_s rx_le_0)))
      · replace h := rx_if_t c24 h
        refine ev_iconst (v := 0) 28 dX10_hire_27 (by decide) rfl ?_
        exact ev_zreturn dX10_hire_28 rfl (by decide) (rx_ret_i h)

def f_X10_swear (x1 : Int32) (x2 : Int32) (S0 : rx_S) : Option (Int32 × rx_S) := rx_let (fun (x4 : Int32) (x5 : Int32) (S6 : rx_S) => rx_bd (f_X8_hasThird 2 x4 S6) (fun x8 S7 => if x8 = 0 then (some (0, S7)) else (rx_gd ((36 : Int32) + x4) 48 (if (S7.1 32 (Int32.toNatClampNeg ((36 : Int32) + x4))) = x5 then (some (0, S7)) else (rx_bd (f_X3_remember S7) (fun x14 S13 => rx_gd ((36 : Int32) + x4) 48 (rx_let (rx_ui S13 32 (Int32.toNatClampNeg ((36 : Int32) + x4)) x5) (fun S17 => some (1, S17))))))))) (fun J9_1 => if x2 = 0 then (J9_1 x1 0 S0) else (J9_1 x1 1 S0))
set_option maxHeartbeats 4000000 in
set_option maxRecDepth 20000 in
theorem em_X10_swear {d : Nat} {x1 : Int32} {x2 : Int32} {S0 : rx_S} {zr : Int32} {zS : rx_S} (h : f_X10_swear x1 x2 S0 = some (zr, zS)) : EM gC (d + 2) mX10_swear [.ref 0, .int x1, .int x2] S0 (rx_pi zr zS) := by
  unfold f_X10_swear at h
  show EV gC (d + 2) mX10_swear 0 [some (.ref 0), some (.int x1), some (.int x2), none] [] S0 (rx_pi zr zS)
  refine ev_iload_n (i := 2) 1 dX10_swear_0 rfl rfl rfl ?_
  obtain ⟨J9_1, eJ9_1, h⟩ := rx_let_o h
  have hJ9_1 : ∀ (x4 : Int32) (x5 : Int32) (S6 : rx_S), J9_1 x4 x5 S6 = some (zr, zS) → EV gC (d + 2) mX10_swear 9 [some (.ref 0), some (.int x4), none, none] [.int x5] S6 (rx_pi zr zS) := by
    intro x4 x5 S6 h
    subst eJ9_1
    refine ev_istore_n (ls' := [some (.ref 0), some (.int x4), none, some (.int x5)]) 10 dX10_swear_9 rfl (Nat.le_of_ble_eq_true rfl) rfl rfl ?_
    refine ev_aload_n (i := 0) 11 dX10_swear_10 rfl rfl rfl ?_
    refine ev_get (v := .ref 2) 14 dX10_swear_11 dk_0 fl_10_20 (by decide) rfl rfl rfl ?_
    refine ev_iload_n (i := 1) 15 dX10_swear_14 rfl rfl rfl ?_
    obtain ⟨x8, S7, g9, h⟩ := rx_bd_o h
    refine ev_cVi1 18 dX10_swear_15 (em_X8_hasThird_2 g9) mm_X8_hasThird mv_X8_hasThird lk_10_123 dk_2 (by decide) rfl (Nat.le_of_ble_eq_true rfl) (Nat.le_of_ble_eq_true rfl) rfl ?_
    refine ev_if_eq 34 21 dX10_swear_18 rfl rfl (fun c10 => ?_) (fun c10 => ?_)
    · replace h := rx_if_t c10 h
      refine ev_iconst (v := 0) 35 dX10_swear_34 (by decide) rfl ?_
      exact ev_zreturn dX10_swear_35 rfl (by decide) (rx_ret_i h)
    · replace h := rx_if_f c10 h
      refine ev_aload_n (i := 0) 22 dX10_swear_21 rfl rfl rfl ?_
      refine ev_get (v := .ref 32) 25 dX10_swear_22 dk_0 fl_10_31 (by decide) rfl rfl rfl ?_
      refine ev_bipush (v := 36) 27 dX10_swear_25 (by decide) rfl ?_
      refine ev_iload_n (i := 1) 28 dX10_swear_27 rfl rfl rfl ?_
      refine ev_iadd 29 dX10_swear_28 rfl ?_
      obtain ⟨g11, h⟩ := rx_gd_o h
      refine ex_iald _ 30 dX10_swear_29 dk_32 g11 rfl rfl ?_
      refine ev_iload_n (i := 3) 31 dX10_swear_30 rfl rfl rfl ?_
      refine ev_icmp_ne 36 34 dX10_swear_31 rfl rfl (fun c12 => ?_) (fun c12 => ?_)
      · replace h := rx_if_f c12 h
        refine ev_aload_n (i := 0) 37 dX10_swear_36 rfl rfl rfl ?_
        refine ev_get (v := .ref 33) 40 dX10_swear_37 dk_0 fl_10_38 (by decide) rfl rfl rfl ?_
        refine ev_aload_n (i := 0) 41 dX10_swear_40 rfl rfl rfl ?_
        refine ev_get (v := .ref 32) 44 dX10_swear_41 dk_0 fl_10_31 (by decide) rfl rfl rfl ?_
        obtain ⟨x14, S13, g15, h⟩ := rx_bd_o h
        refine ev_cVv1 47 dX10_swear_44 (em_X3_remember g15) mm_X3_remember mv_X3_remember lk_10_164 dk_33 (by decide) rfl (Nat.le_of_ble_eq_true rfl) (Nat.le_of_ble_eq_true rfl) rfl ?_
        refine ev_aload_n (i := 0) 48 dX10_swear_47 rfl rfl rfl ?_
        refine ev_get (v := .ref 32) 51 dX10_swear_48 dk_0 fl_10_31 (by decide) rfl rfl rfl ?_
        refine ev_bipush (v := 36) 53 dX10_swear_51 (by decide) rfl ?_
        refine ev_iload_n (i := 1) 54 dX10_swear_53 rfl rfl rfl ?_
        refine ev_iadd 55 dX10_swear_54 rfl ?_
        refine ev_iload_n (i := 3) 56 dX10_swear_55 rfl rfl rfl ?_
        obtain ⟨g16, h⟩ := rx_gd_o h
        obtain ⟨S17, eS17, h⟩ := rx_let_o h
        refine ex_iast _ 57 dX10_swear_56 dk_32 g16 rfl rfl eS17 ?_
        refine ev_iconst (v := 1) 58 dX10_swear_57 (by decide) rfl ?_
        exact ev_zreturn dX10_swear_58 rfl (by decide) (rx_ret_i h)
      · replace h := rx_if_t c12 h
        refine ev_iconst (v := 0) 35 dX10_swear_34 (by decide) rfl ?_
        exact ev_zreturn dX10_swear_35 rfl (by decide) (rx_ret_i h)
  refine ev_if_eq 8 4 dX10_swear_1 rfl rfl (fun c18 => ?_) (fun c18 => ?_)
  · replace h := rx_if_t c18 h
    refine ev_iconst (v := 0) 9 dX10_swear_8 (by decide) rfl ?_
    exact (hJ9_1 _ _ _ h).fewer (rx_le_s (rx_le_s (rx_le_n (rx_le_n rx_le_0))))
  · replace h := rx_if_f c18 h
    refine ev_iconst (v := 1) 5 dX10_swear_4 (by decide) rfl ?_
    refine ev_goto 9 dX10_swear_5 rfl ?_
    exact (hJ9_1 _ _ _ h).fewer (rx_le_s (rx_le_s (rx_le_n (rx_le_n rx_le_0))))

def f_X10_weeks_L29 (N : Nat) (K58 : rx_S → Option (Int32 × rx_S)) : Nat → Int32 → Int32 → rx_S → Option (Int32 × rx_S)
  | 0, _, _, _ => none
  | n + 1, x8, x9, S10 => if x8 ≤ x9 then (K58 S10) else (rx_bd (f_X7_goThroughWeek 32 N (S10.1 2 10) S10) (fun x14 S13 => rx_let (x9 + 1) (fun x16 => f_X10_weeks_L29 N K58 n x8 x16 S13)))
def f_X10_weeks (N : Nat) (x1 : Int32) (S0 : rx_S) : Option (Int32 × rx_S) := if x1 < 0 then (some ((-1), S0)) else (if x1 ≤ 60 then (rx_let (fun (x5 : Int32) (S6 : rx_S) => rx_let (fun (S7 : rx_S) => some ((S7.1 32 0), S7)) (fun J58_2 => f_X10_weeks_L29 N J58_2 N x5 0 S6)) (fun J27_1 => if x1 ≤ 0 then (J27_1 x1 S0) else (rx_bd (f_X3_remember S0) (fun x19 S18 => J27_1 x1 S18)))) else (some ((-1), S0)))
set_option maxHeartbeats 4000000 in
set_option maxRecDepth 20000 in
theorem em_X10_weeks_L29 {d N : Nat} {K58 : rx_S → Option (Int32 × rx_S)} {zr : Int32} {zS : rx_S} (hK58 : ∀ (S11 : rx_S), K58 S11 = some (zr, zS) → EV gC (d + 6) mX10_weeks 58 [some (.ref 0), none, none] [] S11 (rx_pi zr zS)) : ∀ (n : Nat) (x8 : Int32) (x9 : Int32) (S10 : rx_S), f_X10_weeks_L29 N K58 n x8 x9 S10 = some (zr, zS) → EV gC (d + 6) mX10_weeks 29 [some (.ref 0), some (.int x8), some (.int x9)] [] S10 (rx_pi zr zS) := by
  intro n
  induction n with
  | zero => intro x8 x9 S10 h; cases h
  | succ n ih =>
    intro x8 x9 S10 h
    rw [f_X10_weeks_L29] at h
    refine ev_iload_n (i := 2) 30 dX10_weeks_29 rfl rfl rfl ?_
    refine ev_iload_n (i := 1) 31 dX10_weeks_30 rfl rfl rfl ?_
    refine ev_icmp_ge 58 34 dX10_weeks_31 rfl rfl (fun c12 => ?_) (fun c12 => ?_)
    · replace h := rx_if_t c12 h
      exact (hK58 _ h).fewer (rx_le_s (rx_le_n (rx_le_n rx_le_0)))
    · replace h := rx_if_f c12 h
      refine ev_aload_n (i := 0) 35 dX10_weeks_34 rfl rfl rfl ?_
      refine ev_get (v := .ref 80) 38 dX10_weeks_35 dk_0 fl_10_47 (by decide) rfl rfl rfl ?_
      refine ev_aload_n (i := 0) 39 dX10_weeks_38 rfl rfl rfl ?_
      refine ev_get (v := .ref 32) 42 dX10_weeks_39 dk_0 fl_10_31 (by decide) rfl rfl rfl ?_
      refine ev_aload_n (i := 0) 43 dX10_weeks_42 rfl rfl rfl ?_
      refine ev_get (v := .ref 2) 46 dX10_weeks_43 dk_0 fl_10_20 (by decide) rfl rfl rfl ?_
      refine ev_get (v := .int (S10.1 2 10)) 49 dX10_weeks_46 dk_2 fl_10_167 (by decide) rfl rfl rfl ?_
      obtain ⟨x14, S13, g15, h⟩ := rx_bd_o h
      refine ev_cVv2 52 dX10_weeks_49 (em_X7_goThroughWeek_32 g15) mm_X7_goThroughWeek mv_X7_goThroughWeek lk_10_170 dk_80 (by decide) rfl (Nat.le_of_ble_eq_true rfl) (Nat.le_of_ble_eq_true rfl) rfl ?_
      obtain ⟨x16, ex16, h⟩ := rx_let_o h
      refine ev_iinc (v := x16) (ls' := [some (.ref 0), some (.int x8), some (.int x16)]) 55 dX10_weeks_52 rfl (by rw [ex16]; rfl) (Nat.le_of_ble_eq_true rfl) rfl rfl ?_
      refine ev_goto 29 dX10_weeks_55 rfl ?_
      exact (ih _ _ _ h).fewer (rx_le_s (rx_le_s (rx_le_s rx_le_0)))

set_option maxHeartbeats 4000000 in
set_option maxRecDepth 20000 in
theorem em_X10_weeks {d N : Nat} {x1 : Int32} {S0 : rx_S} {zr : Int32} {zS : rx_S} (h : f_X10_weeks N x1 S0 = some (zr, zS)) : EM gC (d + 6) mX10_weeks [.ref 0, .int x1] S0 (rx_pi zr zS) := by
  unfold f_X10_weeks at h
  show EV gC (d + 6) mX10_weeks 0 [some (.ref 0), some (.int x1), none] [] S0 (rx_pi zr zS)
  refine ev_iload_n (i := 1) 1 dX10_weeks_0 rfl rfl rfl ?_
  refine ev_if_lt 10 4 dX10_weeks_1 rfl rfl (fun c3 => ?_) (fun c3 => ?_)
  · replace h := rx_if_t c3 h
    refine ev_iconst (v := (-1)) 11 dX10_weeks_10 (by decide) rfl ?_
    exact ev_ireturn dX10_weeks_11 rfl (rx_ret_i h)
  · replace h := rx_if_f c3 h
    refine ev_iload_n (i := 1) 5 dX10_weeks_4 rfl rfl rfl ?_
    refine ev_bipush (v := 60) 7 dX10_weeks_5 (by decide) rfl ?_
    refine ev_icmp_le 12 10 dX10_weeks_7 rfl rfl (fun c4 => ?_) (fun c4 => ?_)
    · replace h := rx_if_t c4 h
      refine ev_iload_n (i := 1) 13 dX10_weeks_12 rfl rfl rfl ?_
      obtain ⟨J27_1, eJ27_1, h⟩ := rx_let_o h
      have hJ27_1 : ∀ (x5 : Int32) (S6 : rx_S), J27_1 x5 S6 = some (zr, zS) → EV gC (d + 6) mX10_weeks 27 [some (.ref 0), some (.int x5), none] [] S6 (rx_pi zr zS) := by
        intro x5 S6 h
        subst eJ27_1
        refine ev_iconst (v := 0) 28 dX10_weeks_27 (by decide) rfl ?_
        refine ev_istore_n (ls' := [some (.ref 0), some (.int x5), some (.int 0)]) 29 dX10_weeks_28 rfl (Nat.le_of_ble_eq_true rfl) rfl rfl ?_
        obtain ⟨J58_2, eJ58_2, h⟩ := rx_let_o h
        have hJ58_2 : ∀ (S7 : rx_S), J58_2 S7 = some (zr, zS) → EV gC (d + 6) mX10_weeks 58 [some (.ref 0), none, none] [] S7 (rx_pi zr zS) := by
          intro S7 h
          subst eJ58_2
          refine ev_aload_n (i := 0) 59 dX10_weeks_58 rfl rfl rfl ?_
          refine ev_get (v := .ref 32) 62 dX10_weeks_59 dk_0 fl_10_31 (by decide) rfl rfl rfl ?_
          refine ev_iconst (v := 0) 63 dX10_weeks_62 (by decide) rfl ?_
          refine ex_iald 0 64 dX10_weeks_63 dk_32 (rx_vin (by decide)) (by decide) rfl ?_
          exact ev_ireturn dX10_weeks_64 rfl (rx_ret_i h)
        exact (em_X10_weeks_L29 hJ58_2 _ _ _ _ h).fewer (rx_le_s (rx_le_s (rx_le_s rx_le_0)))
      refine ev_if_le 27 16 dX10_weeks_13 rfl rfl (fun c17 => ?_) (fun c17 => ?_)
      · replace h := rx_if_t c17 h
        exact (hJ27_1 _ _ h).fewer (rx_le_s (rx_le_s (rx_le_n rx_le_0)))
      · replace h := rx_if_f c17 h
        refine ev_aload_n (i := 0) 17 dX10_weeks_16 rfl rfl rfl ?_
        refine ev_get (v := .ref 33) 20 dX10_weeks_17 dk_0 fl_10_38 (by decide) rfl rfl rfl ?_
        refine ev_aload_n (i := 0) 21 dX10_weeks_20 rfl rfl rfl ?_
        refine ev_get (v := .ref 32) 24 dX10_weeks_21 dk_0 fl_10_31 (by decide) rfl rfl rfl ?_
        obtain ⟨x19, S18, g20, h⟩ := rx_bd_o h
        refine ev_cVv1 27 dX10_weeks_24 (em_X3_remember g20) mm_X3_remember mv_X3_remember lk_10_164 dk_33 (by decide) rfl (Nat.le_of_ble_eq_true rfl) (Nat.le_of_ble_eq_true rfl) rfl ?_
        exact (hJ27_1 _ _ h).fewer (rx_le_s (rx_le_s (rx_le_n rx_le_0)))
    · replace h := rx_if_f c4 h
      refine ev_iconst (v := (-1)) 11 dX10_weeks_10 (by decide) rfl ?_
      exact ev_ireturn dX10_weeks_11 rfl (rx_ret_i h)

def f_X10_undo (S0 : rx_S) : Option (Int32 × rx_S) := rx_bd (f_X3_takeBack S0) (fun x3 S2 => rx_bl x3 (some (x3, S2)))
set_option maxHeartbeats 4000000 in
set_option maxRecDepth 20000 in
theorem em_X10_undo {d : Nat} {S0 : rx_S} {zr : Int32} {zS : rx_S} (h : f_X10_undo S0 = some (zr, zS)) : EM gC (d + 2) mX10_undo [.ref 0] S0 (rx_pi zr zS) := by
  unfold f_X10_undo at h
  show EV gC (d + 2) mX10_undo 0 [some (.ref 0)] [] S0 (rx_pi zr zS)
  refine ev_aload_n (i := 0) 1 dX10_undo_0 rfl rfl rfl ?_
  refine ev_get (v := .ref 33) 4 dX10_undo_1 dk_0 fl_10_38 (by decide) rfl rfl rfl ?_
  refine ev_aload_n (i := 0) 5 dX10_undo_4 rfl rfl rfl ?_
  refine ev_get (v := .ref 32) 8 dX10_undo_5 dk_0 fl_10_31 (by decide) rfl rfl rfl ?_
  obtain ⟨x3, S2, g4, h⟩ := rx_bd_o h
  refine ev_cVi1 11 dX10_undo_8 (em_X3_takeBack g4) mm_X3_takeBack mv_X3_takeBack lk_10_174 dk_33 (by decide) rfl (Nat.le_of_ble_eq_true rfl) (Nat.le_of_ble_eq_true rfl) rfl ?_
  obtain ⟨g5, h⟩ := rx_bl_o h
  exact ev_zreturn dX10_undo_11 rfl (rx_nb g5) (rx_ret_i h)

def f_X10_hold (x1 : Int32) (S0 : rx_S) : Option (Int32 × rx_S) := rx_bd (f_X3_keep x1 S0) (fun x4 S3 => rx_bl x4 (some (x4, S3)))
set_option maxHeartbeats 4000000 in
set_option maxRecDepth 20000 in
theorem em_X10_hold {d : Nat} {x1 : Int32} {S0 : rx_S} {zr : Int32} {zS : rx_S} (h : f_X10_hold x1 S0 = some (zr, zS)) : EM gC (d + 2) mX10_hold [.ref 0, .int x1] S0 (rx_pi zr zS) := by
  unfold f_X10_hold at h
  show EV gC (d + 2) mX10_hold 0 [some (.ref 0), some (.int x1)] [] S0 (rx_pi zr zS)
  refine ev_aload_n (i := 0) 1 dX10_hold_0 rfl rfl rfl ?_
  refine ev_get (v := .ref 33) 4 dX10_hold_1 dk_0 fl_10_38 (by decide) rfl rfl rfl ?_
  refine ev_iload_n (i := 1) 5 dX10_hold_4 rfl rfl rfl ?_
  refine ev_aload_n (i := 0) 6 dX10_hold_5 rfl rfl rfl ?_
  refine ev_get (v := .ref 32) 9 dX10_hold_6 dk_0 fl_10_31 (by decide) rfl rfl rfl ?_
  obtain ⟨x4, S3, g5, h⟩ := rx_bd_o h
  refine ev_cVi2 12 dX10_hold_9 (em_X3_keep g5) mm_X3_keep mv_X3_keep lk_10_178 dk_33 (by decide) rfl (Nat.le_of_ble_eq_true rfl) (Nat.le_of_ble_eq_true rfl) rfl ?_
  obtain ⟨g6, h⟩ := rx_bl_o h
  exact ev_zreturn dX10_hold_12 rfl (rx_nb g6) (rx_ret_i h)

def f_X10_restore (x1 : Int32) (S0 : rx_S) : Option (Int32 × rx_S) := rx_bd (f_X3_bringBack x1 S0) (fun x4 S3 => if x4 = 0 then (some (0, S3)) else (rx_bd (f_X3_forgetDone S3) (fun x8 S7 => some (1, S7))))
set_option maxHeartbeats 4000000 in
set_option maxRecDepth 20000 in
theorem em_X10_restore {d : Nat} {x1 : Int32} {S0 : rx_S} {zr : Int32} {zS : rx_S} (h : f_X10_restore x1 S0 = some (zr, zS)) : EM gC (d + 2) mX10_restore [.ref 0, .int x1] S0 (rx_pi zr zS) := by
  unfold f_X10_restore at h
  show EV gC (d + 2) mX10_restore 0 [some (.ref 0), some (.int x1)] [] S0 (rx_pi zr zS)
  refine ev_aload_n (i := 0) 1 dX10_restore_0 rfl rfl rfl ?_
  refine ev_get (v := .ref 33) 4 dX10_restore_1 dk_0 fl_10_38 (by decide) rfl rfl rfl ?_
  refine ev_iload_n (i := 1) 5 dX10_restore_4 rfl rfl rfl ?_
  refine ev_aload_n (i := 0) 6 dX10_restore_5 rfl rfl rfl ?_
  refine ev_get (v := .ref 32) 9 dX10_restore_6 dk_0 fl_10_31 (by decide) rfl rfl rfl ?_
  obtain ⟨x4, S3, g5, h⟩ := rx_bd_o h
  refine ev_cVi2 12 dX10_restore_9 (em_X3_bringBack g5) mm_X3_bringBack mv_X3_bringBack lk_10_182 dk_33 (by decide) rfl (Nat.le_of_ble_eq_true rfl) (Nat.le_of_ble_eq_true rfl) rfl ?_
  refine ev_if_ne 17 15 dX10_restore_12 rfl rfl (fun c6 => ?_) (fun c6 => ?_)
  · replace h := rx_if_f c6 h
    refine ev_aload_n (i := 0) 18 dX10_restore_17 rfl rfl rfl ?_
    refine ev_get (v := .ref 33) 21 dX10_restore_18 dk_0 fl_10_38 (by decide) rfl rfl rfl ?_
    obtain ⟨x8, S7, g9, h⟩ := rx_bd_o h
    refine ev_cVv0 24 dX10_restore_21 (em_X3_forgetDone g9) mm_X3_forgetDone mv_X3_forgetDone lk_10_99 dk_33 (by decide) rfl (Nat.le_of_ble_eq_true rfl) (Nat.le_of_ble_eq_true rfl) rfl ?_
    refine ev_iconst (v := 1) 25 dX10_restore_24 (by decide) rfl ?_
    exact ev_zreturn dX10_restore_25 rfl (by decide) (rx_ret_i h)
  · replace h := rx_if_t c6 h
    refine ev_iconst (v := 0) 16 dX10_restore_15 (by decide) rfl ?_
    exact ev_zreturn dX10_restore_16 rfl (by decide) (rx_ret_i h)

def f_X10_isWord (x0 : Int32) (S0 : rx_S) : Option (Int32 × rx_S) := if x0 < 0 then (some (0, S0)) else (if (8 : Int32) ≤ x0 then (some (0, S0)) else (some (1, S0)))
set_option maxHeartbeats 4000000 in
set_option maxRecDepth 20000 in
theorem em_X10_isWord {G : Nat × Nat} {d : Nat} {x0 : Int32} {S0 : rx_S} {zr : Int32} {zS : rx_S} (h : f_X10_isWord x0 S0 = some (zr, zS)) : EM G d mX10_isWord [.int x0] S0 (rx_pi zr zS) := by
  unfold f_X10_isWord at h
  show EV G d mX10_isWord 0 [some (.int x0)] [] S0 (rx_pi zr zS)
  refine ev_iload_n (i := 0) 1 dX10_isWord_0 rfl rfl rfl ?_
  refine ev_if_lt 14 4 dX10_isWord_1 rfl rfl (fun c2 => ?_) (fun c2 => ?_)
  · replace h := rx_if_t c2 h
    refine ev_iconst (v := 0) 15 dX10_isWord_14 (by decide) rfl ?_
    exact ev_zreturn dX10_isWord_15 rfl (by decide) (rx_ret_i h)
  · replace h := rx_if_f c2 h
    refine ev_iload_n (i := 0) 5 dX10_isWord_4 rfl rfl rfl ?_
    refine ev_bipush (v := 8) 7 dX10_isWord_5 (by decide) rfl ?_
    refine ev_icmp_ge 14 10 dX10_isWord_7 rfl rfl (fun c3 => ?_) (fun c3 => ?_)
    · replace h := rx_if_t c3 h
      refine ev_iconst (v := 0) 15 dX10_isWord_14 (by decide) rfl ?_
      exact ev_zreturn dX10_isWord_15 rfl (by decide) (rx_ret_i h)
    · replace h := rx_if_f c3 h
      refine ev_iconst (v := 1) 11 dX10_isWord_10 (by decide) rfl ?_
      refine ev_goto 15 dX10_isWord_11 rfl ?_
      exact ev_zreturn dX10_isWord_15 rfl (by decide) (rx_ret_i h)

def f_X10_isPlace (x0 : Int32) (S0 : rx_S) : Option (Int32 × rx_S) := if x0 < 0 then (some (0, S0)) else (if (5 : Int32) ≤ x0 then (some (0, S0)) else (some (1, S0)))
set_option maxHeartbeats 4000000 in
set_option maxRecDepth 20000 in
theorem em_X10_isPlace {G : Nat × Nat} {d : Nat} {x0 : Int32} {S0 : rx_S} {zr : Int32} {zS : rx_S} (h : f_X10_isPlace x0 S0 = some (zr, zS)) : EM G d mX10_isPlace [.int x0] S0 (rx_pi zr zS) := by
  unfold f_X10_isPlace at h
  show EV G d mX10_isPlace 0 [some (.int x0)] [] S0 (rx_pi zr zS)
  refine ev_iload_n (i := 0) 1 dX10_isPlace_0 rfl rfl rfl ?_
  refine ev_if_lt 13 4 dX10_isPlace_1 rfl rfl (fun c2 => ?_) (fun c2 => ?_)
  · replace h := rx_if_t c2 h
    refine ev_iconst (v := 0) 14 dX10_isPlace_13 (by decide) rfl ?_
    exact ev_zreturn dX10_isPlace_14 rfl (by decide) (rx_ret_i h)
  · replace h := rx_if_f c2 h
    refine ev_iload_n (i := 0) 5 dX10_isPlace_4 rfl rfl rfl ?_
    refine ev_iconst (v := 5) 6 dX10_isPlace_5 (by decide) rfl ?_
    refine ev_icmp_ge 13 9 dX10_isPlace_6 rfl rfl (fun c3 => ?_) (fun c3 => ?_)
    · replace h := rx_if_t c3 h
      refine ev_iconst (v := 0) 14 dX10_isPlace_13 (by decide) rfl ?_
      exact ev_zreturn dX10_isPlace_14 rfl (by decide) (rx_ret_i h)
    · replace h := rx_if_f c3 h
      refine ev_iconst (v := 1) 10 dX10_isPlace_9 (by decide) rfl ?_
      refine ev_goto 14 dX10_isPlace_10 rfl ?_
      exact ev_zreturn dX10_isPlace_14 rfl (by decide) (rx_ret_i h)

def f_X10_bends (N : Nat) (x1 : Int32) (x2 : Int32) (x3 : Int32) (S0 : rx_S) : Option (Int32 × rx_S) := rx_bd (f_X8_hasThird 2 x1 S0) (fun x6 S5 => if x6 = 0 then (some ((-1), S5)) else (rx_bd (f_X10_isWord x2 S5) (fun x10 S9 => if x10 = 0 then (some ((-1), S9)) else (rx_bd (f_X10_isPlace x3 S9) (fun x14 S13 => if x14 = 0 then (some ((-1), S13)) else (rx_bd (f_X7_putWord 32 N x1 x2 x3 S13) (fun x18 S17 => some (x18, S17))))))))
set_option maxHeartbeats 4000000 in
set_option maxRecDepth 20000 in
theorem em_X10_bends {d N : Nat} {x1 : Int32} {x2 : Int32} {x3 : Int32} {S0 : rx_S} {zr : Int32} {zS : rx_S} (h : f_X10_bends N x1 x2 x3 S0 = some (zr, zS)) : EM gC (d + 4) mX10_bends [.ref 0, .int x1, .int x2, .int x3] S0 (rx_pi zr zS) := by
  unfold f_X10_bends at h
  show EV gC (d + 4) mX10_bends 0 [some (.ref 0), some (.int x1), some (.int x2), some (.int x3)] [] S0 (rx_pi zr zS)
  refine ev_aload_n (i := 0) 1 dX10_bends_0 rfl rfl rfl ?_
  refine ev_get (v := .ref 2) 4 dX10_bends_1 dk_0 fl_10_20 (by decide) rfl rfl rfl ?_
  refine ev_iload_n (i := 1) 5 dX10_bends_4 rfl rfl rfl ?_
  obtain ⟨x6, S5, g7, h⟩ := rx_bd_o h
  refine ev_cVi1 8 dX10_bends_5 (em_X8_hasThird_2 g7) mm_X8_hasThird mv_X8_hasThird lk_10_123 dk_2 (by decide) rfl (Nat.le_of_ble_eq_true rfl) (Nat.le_of_ble_eq_true rfl) rfl ?_
  refine ev_if_eq 25 11 dX10_bends_8 rfl rfl (fun c8 => ?_) (fun c8 => ?_)
  · replace h := rx_if_t c8 h
    refine ev_iconst (v := (-1)) 26 dX10_bends_25 (by decide) rfl ?_
    exact ev_ireturn dX10_bends_26 rfl (rx_ret_i h)
  · replace h := rx_if_f c8 h
    refine ev_iload_n (i := 2) 12 dX10_bends_11 rfl rfl rfl ?_
    obtain ⟨x10, S9, g11, h⟩ := rx_bd_o h
    refine ev_cSi1 15 dX10_bends_12 (em_X10_isWord g11) mm_X10_isWord ms_X10_isWord lk_10_185 (Nat.le_of_ble_eq_true rfl) (Nat.le_of_ble_eq_true rfl) rfl ?_
    refine ev_if_eq 25 18 dX10_bends_15 rfl rfl (fun c12 => ?_) (fun c12 => ?_)
    · replace h := rx_if_t c12 h
      refine ev_iconst (v := (-1)) 26 dX10_bends_25 (by decide) rfl ?_
      exact ev_ireturn dX10_bends_26 rfl (rx_ret_i h)
    · replace h := rx_if_f c12 h
      refine ev_iload_n (i := 3) 19 dX10_bends_18 rfl rfl rfl ?_
      obtain ⟨x14, S13, g15, h⟩ := rx_bd_o h
      refine ev_cSi1 22 dX10_bends_19 (em_X10_isPlace g15) mm_X10_isPlace ms_X10_isPlace lk_10_188 (Nat.le_of_ble_eq_true rfl) (Nat.le_of_ble_eq_true rfl) rfl ?_
      refine ev_if_ne 27 25 dX10_bends_22 rfl rfl (fun c16 => ?_) (fun c16 => ?_)
      · replace h := rx_if_f c16 h
        refine ev_aload_n (i := 0) 28 dX10_bends_27 rfl rfl rfl ?_
        refine ev_get (v := .ref 80) 31 dX10_bends_28 dk_0 fl_10_47 (by decide) rfl rfl rfl ?_
        refine ev_aload_n (i := 0) 32 dX10_bends_31 rfl rfl rfl ?_
        refine ev_get (v := .ref 32) 35 dX10_bends_32 dk_0 fl_10_31 (by decide) rfl rfl rfl ?_
        refine ev_iload_n (i := 1) 36 dX10_bends_35 rfl rfl rfl ?_
        refine ev_iload_n (i := 2) 37 dX10_bends_36 rfl rfl rfl ?_
        refine ev_iload_n (i := 3) 38 dX10_bends_37 rfl rfl rfl ?_
        obtain ⟨x18, S17, g19, h⟩ := rx_bd_o h
        refine ev_cVi4 41 dX10_bends_38 (em_X7_putWord_32 g19) mm_X7_putWord mv_X7_putWord lk_10_191 dk_80 (by decide) rfl (Nat.le_of_ble_eq_true rfl) (Nat.le_of_ble_eq_true rfl) rfl ?_
        exact ev_ireturn dX10_bends_41 rfl (rx_ret_i h)
      · replace h := rx_if_t c16 h
        refine ev_iconst (v := (-1)) 26 dX10_bends_25 (by decide) rfl ?_
        exact ev_ireturn dX10_bends_26 rfl (rx_ret_i h)

def f_X10_heard (N : Nat) (x1 : Int32) (x2 : Int32) (S0 : rx_S) : Option (Int32 × rx_S) := rx_bd (f_X8_hasThird 2 x1 S0) (fun x5 S4 => if x5 = 0 then (some ((-1), S4)) else (rx_bd (f_X5_isRow N x2 S4) (fun x9 S8 => if x9 = 0 then (some ((-1), S8)) else (rx_bd (f_X7_putRow 32 N x1 x2 S8) (fun x13 S12 => some (x13, S12))))))
set_option maxHeartbeats 4000000 in
set_option maxRecDepth 20000 in
theorem em_X10_heard {d N : Nat} {x1 : Int32} {x2 : Int32} {S0 : rx_S} {zr : Int32} {zS : rx_S} (h : f_X10_heard N x1 x2 S0 = some (zr, zS)) : EM gC (d + 5) mX10_heard [.ref 0, .int x1, .int x2] S0 (rx_pi zr zS) := by
  unfold f_X10_heard at h
  show EV gC (d + 5) mX10_heard 0 [some (.ref 0), some (.int x1), some (.int x2)] [] S0 (rx_pi zr zS)
  refine ev_aload_n (i := 0) 1 dX10_heard_0 rfl rfl rfl ?_
  refine ev_get (v := .ref 2) 4 dX10_heard_1 dk_0 fl_10_20 (by decide) rfl rfl rfl ?_
  refine ev_iload_n (i := 1) 5 dX10_heard_4 rfl rfl rfl ?_
  obtain ⟨x5, S4, g6, h⟩ := rx_bd_o h
  refine ev_cVi1 8 dX10_heard_5 (em_X8_hasThird_2 g6) mm_X8_hasThird mv_X8_hasThird lk_10_123 dk_2 (by decide) rfl (Nat.le_of_ble_eq_true rfl) (Nat.le_of_ble_eq_true rfl) rfl ?_
  refine ev_if_eq 18 11 dX10_heard_8 rfl rfl (fun c7 => ?_) (fun c7 => ?_)
  · replace h := rx_if_t c7 h
    refine ev_iconst (v := (-1)) 19 dX10_heard_18 (by decide) rfl ?_
    exact ev_ireturn dX10_heard_19 rfl (rx_ret_i h)
  · replace h := rx_if_f c7 h
    refine ev_iload_n (i := 2) 12 dX10_heard_11 rfl rfl rfl ?_
    obtain ⟨x9, S8, g10, h⟩ := rx_bd_o h
    refine ev_cSi1 15 dX10_heard_12 (em_X5_isRow g10) mm_X5_isRow ms_X5_isRow lk_10_195 (Nat.le_of_ble_eq_true rfl) (Nat.le_of_ble_eq_true rfl) rfl ?_
    refine ev_if_ne 20 18 dX10_heard_15 rfl rfl (fun c11 => ?_) (fun c11 => ?_)
    · replace h := rx_if_f c11 h
      refine ev_aload_n (i := 0) 21 dX10_heard_20 rfl rfl rfl ?_
      refine ev_get (v := .ref 80) 24 dX10_heard_21 dk_0 fl_10_47 (by decide) rfl rfl rfl ?_
      refine ev_aload_n (i := 0) 25 dX10_heard_24 rfl rfl rfl ?_
      refine ev_get (v := .ref 32) 28 dX10_heard_25 dk_0 fl_10_31 (by decide) rfl rfl rfl ?_
      refine ev_iload_n (i := 1) 29 dX10_heard_28 rfl rfl rfl ?_
      refine ev_iload_n (i := 2) 30 dX10_heard_29 rfl rfl rfl ?_
      obtain ⟨x13, S12, g14, h⟩ := rx_bd_o h
      refine ev_cVi3 33 dX10_heard_30 (em_X7_putRow_32 g14) mm_X7_putRow mv_X7_putRow lk_10_200 dk_80 (by decide) rfl (Nat.le_of_ble_eq_true rfl) (Nat.le_of_ble_eq_true rfl) rfl ?_
      exact ev_ireturn dX10_heard_33 rfl (rx_ret_i h)
    · replace h := rx_if_t c11 h
      refine ev_iconst (v := (-1)) 19 dX10_heard_18 (by decide) rfl ?_
      exact ev_ireturn dX10_heard_19 rfl (rx_ret_i h)

def f_X10_chain (N : Nat) (x1 : Int32) (x2 : Int32) (x3 : Int32) (S0 : rx_S) : Option (Int32 × rx_S) := rx_bd (f_X8_hasThird 2 x1 S0) (fun x6 S5 => if x6 = 0 then (some ((-1), S5)) else (rx_bd (f_X8_hasThird 2 x2 S5) (fun x10 S9 => if x10 = 0 then (some ((-1), S9)) else (rx_bd (f_X5_isRow N x3 S9) (fun x14 S13 => if x14 = 0 then (some ((-1), S13)) else (rx_bd (f_X7_putRow 32 N x1 x3 S13) (fun x18 S17 => rx_bd (f_X7_putRow 32 N x2 x18 S17) (fun x21 S20 => some (x21, S20)))))))))
set_option maxHeartbeats 4000000 in
set_option maxRecDepth 20000 in
theorem em_X10_chain {d N : Nat} {x1 : Int32} {x2 : Int32} {x3 : Int32} {S0 : rx_S} {zr : Int32} {zS : rx_S} (h : f_X10_chain N x1 x2 x3 S0 = some (zr, zS)) : EM gC (d + 5) mX10_chain [.ref 0, .int x1, .int x2, .int x3] S0 (rx_pi zr zS) := by
  unfold f_X10_chain at h
  show EV gC (d + 5) mX10_chain 0 [some (.ref 0), some (.int x1), some (.int x2), some (.int x3)] [] S0 (rx_pi zr zS)
  refine ev_aload_n (i := 0) 1 dX10_chain_0 rfl rfl rfl ?_
  refine ev_get (v := .ref 2) 4 dX10_chain_1 dk_0 fl_10_20 (by decide) rfl rfl rfl ?_
  refine ev_iload_n (i := 1) 5 dX10_chain_4 rfl rfl rfl ?_
  obtain ⟨x6, S5, g7, h⟩ := rx_bd_o h
  refine ev_cVi1 8 dX10_chain_5 (em_X8_hasThird_2 g7) mm_X8_hasThird mv_X8_hasThird lk_10_123 dk_2 (by decide) rfl (Nat.le_of_ble_eq_true rfl) (Nat.le_of_ble_eq_true rfl) rfl ?_
  refine ev_if_eq 29 11 dX10_chain_8 rfl rfl (fun c8 => ?_) (fun c8 => ?_)
  · replace h := rx_if_t c8 h
    refine ev_iconst (v := (-1)) 30 dX10_chain_29 (by decide) rfl ?_
    exact ev_ireturn dX10_chain_30 rfl (rx_ret_i h)
  · replace h := rx_if_f c8 h
    refine ev_aload_n (i := 0) 12 dX10_chain_11 rfl rfl rfl ?_
    refine ev_get (v := .ref 2) 15 dX10_chain_12 dk_0 fl_10_20 (by decide) rfl rfl rfl ?_
    refine ev_iload_n (i := 2) 16 dX10_chain_15 rfl rfl rfl ?_
    obtain ⟨x10, S9, g11, h⟩ := rx_bd_o h
    refine ev_cVi1 19 dX10_chain_16 (em_X8_hasThird_2 g11) mm_X8_hasThird mv_X8_hasThird lk_10_123 dk_2 (by decide) rfl (Nat.le_of_ble_eq_true rfl) (Nat.le_of_ble_eq_true rfl) rfl ?_
    refine ev_if_eq 29 22 dX10_chain_19 rfl rfl (fun c12 => ?_) (fun c12 => ?_)
    · replace h := rx_if_t c12 h
      refine ev_iconst (v := (-1)) 30 dX10_chain_29 (by decide) rfl ?_
      exact ev_ireturn dX10_chain_30 rfl (rx_ret_i h)
    · replace h := rx_if_f c12 h
      refine ev_iload_n (i := 3) 23 dX10_chain_22 rfl rfl rfl ?_
      obtain ⟨x14, S13, g15, h⟩ := rx_bd_o h
      refine ev_cSi1 26 dX10_chain_23 (em_X5_isRow g15) mm_X5_isRow ms_X5_isRow lk_10_195 (Nat.le_of_ble_eq_true rfl) (Nat.le_of_ble_eq_true rfl) rfl ?_
      refine ev_if_ne 31 29 dX10_chain_26 rfl rfl (fun c16 => ?_) (fun c16 => ?_)
      · replace h := rx_if_f c16 h
        refine ev_aload_n (i := 0) 32 dX10_chain_31 rfl rfl rfl ?_
        refine ev_get (v := .ref 80) 35 dX10_chain_32 dk_0 fl_10_47 (by decide) rfl rfl rfl ?_
        refine ev_aload_n (i := 0) 36 dX10_chain_35 rfl rfl rfl ?_
        refine ev_get (v := .ref 32) 39 dX10_chain_36 dk_0 fl_10_31 (by decide) rfl rfl rfl ?_
        refine ev_iload_n (i := 2) 40 dX10_chain_39 rfl rfl rfl ?_
        refine ev_aload_n (i := 0) 41 dX10_chain_40 rfl rfl rfl ?_
        refine ev_get (v := .ref 80) 44 dX10_chain_41 dk_0 fl_10_47 (by decide) rfl rfl rfl ?_
        refine ev_aload_n (i := 0) 45 dX10_chain_44 rfl rfl rfl ?_
        refine ev_get (v := .ref 32) 48 dX10_chain_45 dk_0 fl_10_31 (by decide) rfl rfl rfl ?_
        refine ev_iload_n (i := 1) 49 dX10_chain_48 rfl rfl rfl ?_
        refine ev_iload_n (i := 3) 50 dX10_chain_49 rfl rfl rfl ?_
        obtain ⟨x18, S17, g19, h⟩ := rx_bd_o h
        refine ev_cVi3 53 dX10_chain_50 (em_X7_putRow_32 g19) mm_X7_putRow mv_X7_putRow lk_10_200 dk_80 (by decide) rfl (Nat.le_of_ble_eq_true rfl) (Nat.le_of_ble_eq_true rfl) rfl ?_
        obtain ⟨x21, S20, g22, h⟩ := rx_bd_o h
        refine ev_cVi3 56 dX10_chain_53 (em_X7_putRow_32 g22) mm_X7_putRow mv_X7_putRow lk_10_200 dk_80 (by decide) rfl (Nat.le_of_ble_eq_true rfl) (Nat.le_of_ble_eq_true rfl) rfl ?_
        exact ev_ireturn dX10_chain_56 rfl (rx_ret_i h)
      · replace h := rx_if_t c16 h
        refine ev_iconst (v := (-1)) 30 dX10_chain_29 (by decide) rfl ?_
        exact ev_ireturn dX10_chain_30 rfl (rx_ret_i h)

def f_X10_say (N : Nat) (x1 : Int32) (x2 : Int32) (S0 : rx_S) : Option (Int32 × rx_S) := rx_bd (f_X8_hasThird 2 x1 S0) (fun x5 S4 => if x5 = 0 then (some ((-1), S4)) else (rx_bd (f_X5_isRow N x2 S4) (fun x9 S8 => if x9 = 0 then (some ((-1), S8)) else (rx_bd (f_X6_rowPutAs N x1 x2 S8) (fun x13 S12 => some (x13, S12))))))
set_option maxHeartbeats 4000000 in
set_option maxRecDepth 20000 in
theorem em_X10_say {d N : Nat} {x1 : Int32} {x2 : Int32} {S0 : rx_S} {zr : Int32} {zS : rx_S} (h : f_X10_say N x1 x2 S0 = some (zr, zS)) : EM gC (d + 5) mX10_say [.ref 0, .int x1, .int x2] S0 (rx_pi zr zS) := by
  unfold f_X10_say at h
  show EV gC (d + 5) mX10_say 0 [some (.ref 0), some (.int x1), some (.int x2)] [] S0 (rx_pi zr zS)
  refine ev_aload_n (i := 0) 1 dX10_say_0 rfl rfl rfl ?_
  refine ev_get (v := .ref 2) 4 dX10_say_1 dk_0 fl_10_20 (by decide) rfl rfl rfl ?_
  refine ev_iload_n (i := 1) 5 dX10_say_4 rfl rfl rfl ?_
  obtain ⟨x5, S4, g6, h⟩ := rx_bd_o h
  refine ev_cVi1 8 dX10_say_5 (em_X8_hasThird_2 g6) mm_X8_hasThird mv_X8_hasThird lk_10_123 dk_2 (by decide) rfl (Nat.le_of_ble_eq_true rfl) (Nat.le_of_ble_eq_true rfl) rfl ?_
  refine ev_if_eq 18 11 dX10_say_8 rfl rfl (fun c7 => ?_) (fun c7 => ?_)
  · replace h := rx_if_t c7 h
    refine ev_iconst (v := (-1)) 19 dX10_say_18 (by decide) rfl ?_
    exact ev_ireturn dX10_say_19 rfl (rx_ret_i h)
  · replace h := rx_if_f c7 h
    refine ev_iload_n (i := 2) 12 dX10_say_11 rfl rfl rfl ?_
    obtain ⟨x9, S8, g10, h⟩ := rx_bd_o h
    refine ev_cSi1 15 dX10_say_12 (em_X5_isRow g10) mm_X5_isRow ms_X5_isRow lk_10_195 (Nat.le_of_ble_eq_true rfl) (Nat.le_of_ble_eq_true rfl) rfl ?_
    refine ev_if_ne 20 18 dX10_say_15 rfl rfl (fun c11 => ?_) (fun c11 => ?_)
    · replace h := rx_if_f c11 h
      refine ev_aload_n (i := 0) 21 dX10_say_20 rfl rfl rfl ?_
      refine ev_get (v := .ref 81) 24 dX10_say_21 dk_0 fl_10_56 (by decide) rfl rfl rfl ?_
      refine ev_aload_n (i := 0) 25 dX10_say_24 rfl rfl rfl ?_
      refine ev_get (v := .ref 32) 28 dX10_say_25 dk_0 fl_10_31 (by decide) rfl rfl rfl ?_
      refine ev_iload_n (i := 1) 29 dX10_say_28 rfl rfl rfl ?_
      refine ev_iload_n (i := 2) 30 dX10_say_29 rfl rfl rfl ?_
      obtain ⟨x13, S12, g14, h⟩ := rx_bd_o h
      refine ev_cVi3 33 dX10_say_30 (em_X6_rowPutAs g14) mm_X6_rowPutAs mv_X6_rowPutAs lk_10_204 dk_81 (by decide) rfl (Nat.le_of_ble_eq_true rfl) (Nat.le_of_ble_eq_true rfl) rfl ?_
      exact ev_ireturn dX10_say_33 rfl (rx_ret_i h)
    · replace h := rx_if_t c11 h
      refine ev_iconst (v := (-1)) 19 dX10_say_18 (by decide) rfl ?_
      exact ev_ireturn dX10_say_19 rfl (rx_ret_i h)

def f_X10_loses (N : Nat) (x1 : Int32) (x2 : Int32) (x3 : Int32) (S0 : rx_S) : Option (Int32 × rx_S) := rx_bd (f_X8_hasThird 2 x1 S0) (fun x6 S5 => if x6 = 0 then (some ((-1), S5)) else (rx_bd (f_X8_hasThird 2 x2 S5) (fun x10 S9 => if x10 = 0 then (some ((-1), S9)) else (rx_bd (f_X5_isRow N x3 S9) (fun x14 S13 => if x14 = 0 then (some ((-1), S13)) else (rx_bd (f_X6_lostByTwo N x1 x2 x3 S13) (fun x18 S17 => some (x18, S17))))))))
set_option maxHeartbeats 4000000 in
set_option maxRecDepth 20000 in
theorem em_X10_loses {d N : Nat} {x1 : Int32} {x2 : Int32} {x3 : Int32} {S0 : rx_S} {zr : Int32} {zS : rx_S} (h : f_X10_loses N x1 x2 x3 S0 = some (zr, zS)) : EM gC (d + 6) mX10_loses [.ref 0, .int x1, .int x2, .int x3] S0 (rx_pi zr zS) := by
  unfold f_X10_loses at h
  show EV gC (d + 6) mX10_loses 0 [some (.ref 0), some (.int x1), some (.int x2), some (.int x3)] [] S0 (rx_pi zr zS)
  refine ev_aload_n (i := 0) 1 dX10_loses_0 rfl rfl rfl ?_
  refine ev_get (v := .ref 2) 4 dX10_loses_1 dk_0 fl_10_20 (by decide) rfl rfl rfl ?_
  refine ev_iload_n (i := 1) 5 dX10_loses_4 rfl rfl rfl ?_
  obtain ⟨x6, S5, g7, h⟩ := rx_bd_o h
  refine ev_cVi1 8 dX10_loses_5 (em_X8_hasThird_2 g7) mm_X8_hasThird mv_X8_hasThird lk_10_123 dk_2 (by decide) rfl (Nat.le_of_ble_eq_true rfl) (Nat.le_of_ble_eq_true rfl) rfl ?_
  refine ev_if_eq 29 11 dX10_loses_8 rfl rfl (fun c8 => ?_) (fun c8 => ?_)
  · replace h := rx_if_t c8 h
    refine ev_iconst (v := (-1)) 30 dX10_loses_29 (by decide) rfl ?_
    exact ev_ireturn dX10_loses_30 rfl (rx_ret_i h)
  · replace h := rx_if_f c8 h
    refine ev_aload_n (i := 0) 12 dX10_loses_11 rfl rfl rfl ?_
    refine ev_get (v := .ref 2) 15 dX10_loses_12 dk_0 fl_10_20 (by decide) rfl rfl rfl ?_
    refine ev_iload_n (i := 2) 16 dX10_loses_15 rfl rfl rfl ?_
    obtain ⟨x10, S9, g11, h⟩ := rx_bd_o h
    refine ev_cVi1 19 dX10_loses_16 (em_X8_hasThird_2 g11) mm_X8_hasThird mv_X8_hasThird lk_10_123 dk_2 (by decide) rfl (Nat.le_of_ble_eq_true rfl) (Nat.le_of_ble_eq_true rfl) rfl ?_
    refine ev_if_eq 29 22 dX10_loses_19 rfl rfl (fun c12 => ?_) (fun c12 => ?_)
    · replace h := rx_if_t c12 h
      refine ev_iconst (v := (-1)) 30 dX10_loses_29 (by decide) rfl ?_
      exact ev_ireturn dX10_loses_30 rfl (rx_ret_i h)
    · replace h := rx_if_f c12 h
      refine ev_iload_n (i := 3) 23 dX10_loses_22 rfl rfl rfl ?_
      obtain ⟨x14, S13, g15, h⟩ := rx_bd_o h
      refine ev_cSi1 26 dX10_loses_23 (em_X5_isRow g15) mm_X5_isRow ms_X5_isRow lk_10_195 (Nat.le_of_ble_eq_true rfl) (Nat.le_of_ble_eq_true rfl) rfl ?_
      refine ev_if_ne 31 29 dX10_loses_26 rfl rfl (fun c16 => ?_) (fun c16 => ?_)
      · replace h := rx_if_f c16 h
        refine ev_aload_n (i := 0) 32 dX10_loses_31 rfl rfl rfl ?_
        refine ev_get (v := .ref 81) 35 dX10_loses_32 dk_0 fl_10_56 (by decide) rfl rfl rfl ?_
        refine ev_aload_n (i := 0) 36 dX10_loses_35 rfl rfl rfl ?_
        refine ev_get (v := .ref 32) 39 dX10_loses_36 dk_0 fl_10_31 (by decide) rfl rfl rfl ?_
        refine ev_iload_n (i := 1) 40 dX10_loses_39 rfl rfl rfl ?_
        refine ev_iload_n (i := 2) 41 dX10_loses_40 rfl rfl rfl ?_
        refine ev_iload_n (i := 3) 42 dX10_loses_41 rfl rfl rfl ?_
        obtain ⟨x18, S17, g19, h⟩ := rx_bd_o h
        refine ev_cVi4 45 dX10_loses_42 (em_X6_lostByTwo g19) mm_X6_lostByTwo mv_X6_lostByTwo lk_10_207 dk_81 (by decide) rfl (Nat.le_of_ble_eq_true rfl) (Nat.le_of_ble_eq_true rfl) rfl ?_
        exact ev_ireturn dX10_loses_45 rfl (rx_ret_i h)
      · replace h := rx_if_t c16 h
        refine ev_iconst (v := (-1)) 30 dX10_loses_29 (by decide) rfl ?_
        exact ev_ireturn dX10_loses_30 rfl (rx_ret_i h)

def f_X10_least (N : Nat) (x1 : Int32) (S0 : rx_S) : Option (Int32 × rx_S) := rx_bd (f_X5_isRow N x1 S0) (fun x4 S3 => if x4 = 0 then (some ((-1), S3)) else (rx_bd (f_X6_bestPair N x1 S3) (fun x8 S7 => some (x8, S7))))
set_option maxHeartbeats 4000000 in
set_option maxRecDepth 20000 in
theorem em_X10_least {d N : Nat} {x1 : Int32} {S0 : rx_S} {zr : Int32} {zS : rx_S} (h : f_X10_least N x1 S0 = some (zr, zS)) : EM gC (d + 7) mX10_least [.ref 0, .int x1] S0 (rx_pi zr zS) := by
  unfold f_X10_least at h
  show EV gC (d + 7) mX10_least 0 [some (.ref 0), some (.int x1)] [] S0 (rx_pi zr zS)
  refine ev_iload_n (i := 1) 1 dX10_least_0 rfl rfl rfl ?_
  obtain ⟨x4, S3, g5, h⟩ := rx_bd_o h
  refine ev_cSi1 4 dX10_least_1 (em_X5_isRow g5) mm_X5_isRow ms_X5_isRow lk_10_195 (Nat.le_of_ble_eq_true rfl) (Nat.le_of_ble_eq_true rfl) rfl ?_
  refine ev_if_eq 22 7 dX10_least_4 rfl rfl (fun c6 => ?_) (fun c6 => ?_)
  · replace h := rx_if_t c6 h
    refine ev_iconst (v := (-1)) 23 dX10_least_22 (by decide) rfl ?_
    exact ev_ireturn dX10_least_23 rfl (rx_ret_i h)
  · replace h := rx_if_f c6 h
    refine ev_aload_n (i := 0) 8 dX10_least_7 rfl rfl rfl ?_
    refine ev_get (v := .ref 81) 11 dX10_least_8 dk_0 fl_10_56 (by decide) rfl rfl rfl ?_
    refine ev_aload_n (i := 0) 12 dX10_least_11 rfl rfl rfl ?_
    refine ev_get (v := .ref 32) 15 dX10_least_12 dk_0 fl_10_31 (by decide) rfl rfl rfl ?_
    refine ev_iload_n (i := 1) 16 dX10_least_15 rfl rfl rfl ?_
    obtain ⟨x8, S7, g9, h⟩ := rx_bd_o h
    refine ev_cVi2 19 dX10_least_16 (em_X6_bestPair g9) mm_X6_bestPair mv_X6_bestPair lk_10_210 dk_81 (by decide) rfl (Nat.le_of_ble_eq_true rfl) (Nat.le_of_ble_eq_true rfl) rfl ?_
    refine ev_goto 23 dX10_least_19 rfl ?_
    exact ev_ireturn dX10_least_23 rfl (rx_ret_i h)

def f_X10_truest (N : Nat) (x1 : Int32) (S0 : rx_S) : Option (Int32 × rx_S) := rx_bd (f_X5_isRow N x1 S0) (fun x4 S3 => if x4 = 0 then (some ((-1), S3)) else (rx_bd (f_X6_bestThird N x1 S3) (fun x8 S7 => some (x8, S7))))
set_option maxHeartbeats 4000000 in
set_option maxRecDepth 20000 in
theorem em_X10_truest {d N : Nat} {x1 : Int32} {S0 : rx_S} {zr : Int32} {zS : rx_S} (h : f_X10_truest N x1 S0 = some (zr, zS)) : EM gC (d + 6) mX10_truest [.ref 0, .int x1] S0 (rx_pi zr zS) := by
  unfold f_X10_truest at h
  show EV gC (d + 6) mX10_truest 0 [some (.ref 0), some (.int x1)] [] S0 (rx_pi zr zS)
  refine ev_iload_n (i := 1) 1 dX10_truest_0 rfl rfl rfl ?_
  obtain ⟨x4, S3, g5, h⟩ := rx_bd_o h
  refine ev_cSi1 4 dX10_truest_1 (em_X5_isRow g5) mm_X5_isRow ms_X5_isRow lk_10_195 (Nat.le_of_ble_eq_true rfl) (Nat.le_of_ble_eq_true rfl) rfl ?_
  refine ev_if_eq 22 7 dX10_truest_4 rfl rfl (fun c6 => ?_) (fun c6 => ?_)
  · replace h := rx_if_t c6 h
    refine ev_iconst (v := (-1)) 23 dX10_truest_22 (by decide) rfl ?_
    exact ev_ireturn dX10_truest_23 rfl (rx_ret_i h)
  · replace h := rx_if_f c6 h
    refine ev_aload_n (i := 0) 8 dX10_truest_7 rfl rfl rfl ?_
    refine ev_get (v := .ref 81) 11 dX10_truest_8 dk_0 fl_10_56 (by decide) rfl rfl rfl ?_
    refine ev_aload_n (i := 0) 12 dX10_truest_11 rfl rfl rfl ?_
    refine ev_get (v := .ref 32) 15 dX10_truest_12 dk_0 fl_10_31 (by decide) rfl rfl rfl ?_
    refine ev_iload_n (i := 1) 16 dX10_truest_15 rfl rfl rfl ?_
    obtain ⟨x8, S7, g9, h⟩ := rx_bd_o h
    refine ev_cVi2 19 dX10_truest_16 (em_X6_bestThird g9) mm_X6_bestThird mv_X6_bestThird lk_10_213 dk_81 (by decide) rfl (Nat.le_of_ble_eq_true rfl) (Nat.le_of_ble_eq_true rfl) rfl ?_
    refine ev_goto 23 dX10_truest_19 rfl ?_
    exact ev_ireturn dX10_truest_23 rfl (rx_ret_i h)

def f_X10_crooked_L25 (N : Nat) : Nat → Int32 → Int32 → Int32 → Int32 → rx_S → Option (Int32 × rx_S)
  | 0, _, _, _, _, _ => none
  | n + 1, x12, x13, x14, x15, S16 => if (8 : Int32) ≤ x15 then (some (x14, S16)) else (rx_bd (f_X7_putWord 32 N x12 x15 x13 S16) (fun x19 S18 => if x19 = x15 then (rx_let (x15 + 1) (fun x22 => f_X10_crooked_L25 N n x12 x13 x14 x22 S18)) else (rx_let (x14 + 1) (fun x23 => rx_let (x15 + 1) (fun x24 => f_X10_crooked_L25 N n x12 x13 x23 x24 S18)))))
def f_X10_crooked (N : Nat) (x1 : Int32) (x2 : Int32) (S0 : rx_S) : Option (Int32 × rx_S) := rx_bd (f_X8_hasThird 2 x1 S0) (fun x5 S4 => if x5 = 0 then (some ((-1), S4)) else (rx_bd (f_X10_isPlace x2 S4) (fun x9 S8 => if x9 = 0 then (some ((-1), S8)) else (f_X10_crooked_L25 N N x1 x2 0 0 S8))))
set_option maxHeartbeats 4000000 in
set_option maxRecDepth 20000 in
theorem em_X10_crooked_L25 {d N : Nat} {zr : Int32} {zS : rx_S} : ∀ (n : Nat) (x12 : Int32) (x13 : Int32) (x14 : Int32) (x15 : Int32) (S16 : rx_S), f_X10_crooked_L25 N n x12 x13 x14 x15 S16 = some (zr, zS) → EV gC (d + 4) mX10_crooked 25 [some (.ref 0), some (.int x12), some (.int x13), some (.int x14), some (.int x15)] [] S16 (rx_pi zr zS) := by
  intro n
  induction n with
  | zero => intro x12 x13 x14 x15 S16 h; cases h
  | succ n ih =>
    intro x12 x13 x14 x15 S16 h
    rw [f_X10_crooked_L25] at h
    refine ev_iload 27 dX10_crooked_25 rfl rfl ?_
    refine ev_bipush (v := 8) 29 dX10_crooked_27 (by decide) rfl ?_
    refine ev_icmp_ge 61 32 dX10_crooked_29 rfl rfl (fun c17 => ?_) (fun c17 => ?_)
    · replace h := rx_if_t c17 h
      refine ev_iload_n (i := 3) 62 dX10_crooked_61 rfl rfl rfl ?_
      exact ev_ireturn dX10_crooked_62 rfl (rx_ret_i h)
    · replace h := rx_if_f c17 h
      refine ev_aload_n (i := 0) 33 dX10_crooked_32 rfl rfl rfl ?_
      refine ev_get (v := .ref 80) 36 dX10_crooked_33 dk_0 fl_10_47 (by decide) rfl rfl rfl ?_
      refine ev_aload_n (i := 0) 37 dX10_crooked_36 rfl rfl rfl ?_
      refine ev_get (v := .ref 32) 40 dX10_crooked_37 dk_0 fl_10_31 (by decide) rfl rfl rfl ?_
      refine ev_iload_n (i := 1) 41 dX10_crooked_40 rfl rfl rfl ?_
      refine ev_iload 43 dX10_crooked_41 rfl rfl ?_
      refine ev_iload_n (i := 2) 44 dX10_crooked_43 rfl rfl rfl ?_
      obtain ⟨x19, S18, g20, h⟩ := rx_bd_o h
      refine ev_cVi4 47 dX10_crooked_44 (em_X7_putWord_32 g20) mm_X7_putWord mv_X7_putWord lk_10_191 dk_80 (by decide) rfl (Nat.le_of_ble_eq_true rfl) (Nat.le_of_ble_eq_true rfl) rfl ?_
      refine ev_iload 49 dX10_crooked_47 rfl rfl ?_
      refine ev_icmp_eq 55 52 dX10_crooked_49 rfl rfl (fun c21 => ?_) (fun c21 => ?_)
      · replace h := rx_if_t c21 h
        obtain ⟨x22, ex22, h⟩ := rx_let_o h
        refine ev_iinc (v := x22) (ls' := [some (.ref 0), some (.int x12), some (.int x13), some (.int x14), some (.int x22)]) 58 dX10_crooked_55 rfl (by rw [ex22]; rfl) (Nat.le_of_ble_eq_true rfl) rfl rfl ?_
        refine ev_goto 25 dX10_crooked_58 rfl ?_
        exact (ih _ _ _ _ _ h).fewer (rx_le_s (rx_le_s (rx_le_s (rx_le_s (rx_le_s rx_le_0)))))
      · replace h := rx_if_f c21 h
        obtain ⟨x23, ex23, h⟩ := rx_let_o h
        refine ev_iinc (v := x23) (ls' := [some (.ref 0), some (.int x12), some (.int x13), some (.int x23), some (.int x15)]) 55 dX10_crooked_52 rfl (by rw [ex23]; rfl) (Nat.le_of_ble_eq_true rfl) rfl rfl ?_
        obtain ⟨x24, ex24, h⟩ := rx_let_o h
        refine ev_iinc (v := x24) (ls' := [some (.ref 0), some (.int x12), some (.int x13), some (.int x23), some (.int x24)]) 58 dX10_crooked_55 rfl (by rw [ex24]; rfl) (Nat.le_of_ble_eq_true rfl) rfl rfl ?_
        refine ev_goto 25 dX10_crooked_58 rfl ?_
        exact (ih _ _ _ _ _ h).fewer (rx_le_s (rx_le_s (rx_le_s (rx_le_s (rx_le_s rx_le_0)))))

set_option maxHeartbeats 4000000 in
set_option maxRecDepth 20000 in
theorem em_X10_crooked {d N : Nat} {x1 : Int32} {x2 : Int32} {S0 : rx_S} {zr : Int32} {zS : rx_S} (h : f_X10_crooked N x1 x2 S0 = some (zr, zS)) : EM gC (d + 4) mX10_crooked [.ref 0, .int x1, .int x2] S0 (rx_pi zr zS) := by
  unfold f_X10_crooked at h
  show EV gC (d + 4) mX10_crooked 0 [some (.ref 0), some (.int x1), some (.int x2), none, none] [] S0 (rx_pi zr zS)
  refine ev_aload_n (i := 0) 1 dX10_crooked_0 rfl rfl rfl ?_
  refine ev_get (v := .ref 2) 4 dX10_crooked_1 dk_0 fl_10_20 (by decide) rfl rfl rfl ?_
  refine ev_iload_n (i := 1) 5 dX10_crooked_4 rfl rfl rfl ?_
  obtain ⟨x5, S4, g6, h⟩ := rx_bd_o h
  refine ev_cVi1 8 dX10_crooked_5 (em_X8_hasThird_2 g6) mm_X8_hasThird mv_X8_hasThird lk_10_123 dk_2 (by decide) rfl (Nat.le_of_ble_eq_true rfl) (Nat.le_of_ble_eq_true rfl) rfl ?_
  refine ev_if_eq 18 11 dX10_crooked_8 rfl rfl (fun c7 => ?_) (fun c7 => ?_)
  · replace h := rx_if_t c7 h
    refine ev_iconst (v := (-1)) 19 dX10_crooked_18 (by decide) rfl ?_
    exact ev_ireturn dX10_crooked_19 rfl (rx_ret_i h)
  · replace h := rx_if_f c7 h
    refine ev_iload_n (i := 2) 12 dX10_crooked_11 rfl rfl rfl ?_
    obtain ⟨x9, S8, g10, h⟩ := rx_bd_o h
    refine ev_cSi1 15 dX10_crooked_12 (em_X10_isPlace g10) mm_X10_isPlace ms_X10_isPlace lk_10_188 (Nat.le_of_ble_eq_true rfl) (Nat.le_of_ble_eq_true rfl) rfl ?_
    refine ev_if_ne 20 18 dX10_crooked_15 rfl rfl (fun c11 => ?_) (fun c11 => ?_)
    · replace h := rx_if_f c11 h
      refine ev_iconst (v := 0) 21 dX10_crooked_20 (by decide) rfl ?_
      refine ev_istore_n (ls' := [some (.ref 0), some (.int x1), some (.int x2), some (.int 0), none]) 22 dX10_crooked_21 rfl (Nat.le_of_ble_eq_true rfl) rfl rfl ?_
      refine ev_iconst (v := 0) 23 dX10_crooked_22 (by decide) rfl ?_
      refine ev_istore (ls' := [some (.ref 0), some (.int x1), some (.int x2), some (.int 0), some (.int 0)]) 25 dX10_crooked_23 (Nat.le_of_ble_eq_true rfl) rfl rfl ?_
      exact (em_X10_crooked_L25 _ _ _ _ _ _ h).fewer (rx_le_s (rx_le_s (rx_le_s (rx_le_s (rx_le_s rx_le_0)))))
    · replace h := rx_if_t c11 h
      refine ev_iconst (v := (-1)) 19 dX10_crooked_18 (by decide) rfl ?_
      exact ev_ireturn dX10_crooked_19 rfl (rx_ret_i h)

def f_X10_altered (N : Nat) (x1 : Int32) (x2 : Int32) (S0 : rx_S) : Option (Int32 × rx_S) := rx_bd (f_X5_isRow N x1 S0) (fun x5 S4 => if x5 = 0 then (some ((-1), S4)) else (rx_bd (f_X5_isRow N x2 S4) (fun x9 S8 => if x9 = 0 then (some ((-1), S8)) else (rx_bd (f_X5_changes N x1 x2 S8) (fun x13 S12 => some (x13, S12))))))
set_option maxHeartbeats 4000000 in
set_option maxRecDepth 20000 in
theorem em_X10_altered {d N : Nat} {x1 : Int32} {x2 : Int32} {S0 : rx_S} {zr : Int32} {zS : rx_S} (h : f_X10_altered N x1 x2 S0 = some (zr, zS)) : EM gC (d + 3) mX10_altered [.ref 0, .int x1, .int x2] S0 (rx_pi zr zS) := by
  unfold f_X10_altered at h
  show EV gC (d + 3) mX10_altered 0 [some (.ref 0), some (.int x1), some (.int x2)] [] S0 (rx_pi zr zS)
  refine ev_iload_n (i := 1) 1 dX10_altered_0 rfl rfl rfl ?_
  obtain ⟨x5, S4, g6, h⟩ := rx_bd_o h
  refine ev_cSi1 4 dX10_altered_1 (em_X5_isRow g6) mm_X5_isRow ms_X5_isRow lk_10_195 (Nat.le_of_ble_eq_true rfl) (Nat.le_of_ble_eq_true rfl) rfl ?_
  refine ev_if_eq 14 7 dX10_altered_4 rfl rfl (fun c7 => ?_) (fun c7 => ?_)
  · replace h := rx_if_t c7 h
    refine ev_iconst (v := (-1)) 15 dX10_altered_14 (by decide) rfl ?_
    exact ev_ireturn dX10_altered_15 rfl (rx_ret_i h)
  · replace h := rx_if_f c7 h
    refine ev_iload_n (i := 2) 8 dX10_altered_7 rfl rfl rfl ?_
    obtain ⟨x9, S8, g10, h⟩ := rx_bd_o h
    refine ev_cSi1 11 dX10_altered_8 (em_X5_isRow g10) mm_X5_isRow ms_X5_isRow lk_10_195 (Nat.le_of_ble_eq_true rfl) (Nat.le_of_ble_eq_true rfl) rfl ?_
    refine ev_if_ne 16 14 dX10_altered_11 rfl rfl (fun c11 => ?_) (fun c11 => ?_)
    · replace h := rx_if_f c11 h
      refine ev_aload_n (i := 0) 17 dX10_altered_16 rfl rfl rfl ?_
      refine ev_get (v := .ref 81) 20 dX10_altered_17 dk_0 fl_10_56 (by decide) rfl rfl rfl ?_
      refine ev_get (v := .ref 82) 23 dX10_altered_20 dk_81 fl_10_216 (by decide) rfl rfl rfl ?_
      refine ev_iload_n (i := 1) 24 dX10_altered_23 rfl rfl rfl ?_
      refine ev_iload_n (i := 2) 25 dX10_altered_24 rfl rfl rfl ?_
      obtain ⟨x13, S12, g14, h⟩ := rx_bd_o h
      refine ev_cVi2 28 dX10_altered_25 (em_X5_changes g14) mm_X5_changes mv_X5_changes lk_10_220 dk_82 (by decide) rfl (Nat.le_of_ble_eq_true rfl) (Nat.le_of_ble_eq_true rfl) rfl ?_
      exact ev_ireturn dX10_altered_28 rfl (rx_ret_i h)
    · replace h := rx_if_t c11 h
      refine ev_iconst (v := (-1)) 15 dX10_altered_14 (by decide) rfl ?_
      exact ev_ireturn dX10_altered_15 rfl (rx_ret_i h)

def f_X10_takes (N : Nat) (x1 : Int32) (x2 : Int32) (S0 : rx_S) : Option (Int32 × rx_S) := rx_bd (f_X8_hasSpouse 2 x1 S0) (fun x5 S4 => if x5 = 0 then (some ((-1), S4)) else (rx_bd (f_X5_isRow N x2 S4) (fun x9 S8 => if x9 = 0 then (some ((-1), S8)) else (rx_bd (f_X7_moodBehind 32 N x1 x2 S8) (fun x13 S12 => some (x13, S12))))))
set_option maxHeartbeats 4000000 in
set_option maxRecDepth 20000 in
theorem em_X10_takes {d N : Nat} {x1 : Int32} {x2 : Int32} {S0 : rx_S} {zr : Int32} {zS : rx_S} (h : f_X10_takes N x1 x2 S0 = some (zr, zS)) : EM gC (d + 3) mX10_takes [.ref 0, .int x1, .int x2] S0 (rx_pi zr zS) := by
  unfold f_X10_takes at h
  show EV gC (d + 3) mX10_takes 0 [some (.ref 0), some (.int x1), some (.int x2)] [] S0 (rx_pi zr zS)
  refine ev_aload_n (i := 0) 1 dX10_takes_0 rfl rfl rfl ?_
  refine ev_get (v := .ref 2) 4 dX10_takes_1 dk_0 fl_10_20 (by decide) rfl rfl rfl ?_
  refine ev_iload_n (i := 1) 5 dX10_takes_4 rfl rfl rfl ?_
  obtain ⟨x5, S4, g6, h⟩ := rx_bd_o h
  refine ev_cVi1 8 dX10_takes_5 (em_X8_hasSpouse_2 g6) mm_X8_hasSpouse mv_X8_hasSpouse lk_10_106 dk_2 (by decide) rfl (Nat.le_of_ble_eq_true rfl) (Nat.le_of_ble_eq_true rfl) rfl ?_
  refine ev_if_eq 18 11 dX10_takes_8 rfl rfl (fun c7 => ?_) (fun c7 => ?_)
  · replace h := rx_if_t c7 h
    refine ev_iconst (v := (-1)) 19 dX10_takes_18 (by decide) rfl ?_
    exact ev_ireturn dX10_takes_19 rfl (rx_ret_i h)
  · replace h := rx_if_f c7 h
    refine ev_iload_n (i := 2) 12 dX10_takes_11 rfl rfl rfl ?_
    obtain ⟨x9, S8, g10, h⟩ := rx_bd_o h
    refine ev_cSi1 15 dX10_takes_12 (em_X5_isRow g10) mm_X5_isRow ms_X5_isRow lk_10_195 (Nat.le_of_ble_eq_true rfl) (Nat.le_of_ble_eq_true rfl) rfl ?_
    refine ev_if_ne 20 18 dX10_takes_15 rfl rfl (fun c11 => ?_) (fun c11 => ?_)
    · replace h := rx_if_f c11 h
      refine ev_aload_n (i := 0) 21 dX10_takes_20 rfl rfl rfl ?_
      refine ev_get (v := .ref 80) 24 dX10_takes_21 dk_0 fl_10_47 (by decide) rfl rfl rfl ?_
      refine ev_aload_n (i := 0) 25 dX10_takes_24 rfl rfl rfl ?_
      refine ev_get (v := .ref 32) 28 dX10_takes_25 dk_0 fl_10_31 (by decide) rfl rfl rfl ?_
      refine ev_iload_n (i := 1) 29 dX10_takes_28 rfl rfl rfl ?_
      refine ev_iload_n (i := 2) 30 dX10_takes_29 rfl rfl rfl ?_
      obtain ⟨x13, S12, g14, h⟩ := rx_bd_o h
      refine ev_cVi3 33 dX10_takes_30 (em_X7_moodBehind_32 g14) mm_X7_moodBehind mv_X7_moodBehind lk_10_223 dk_80 (by decide) rfl (Nat.le_of_ble_eq_true rfl) (Nat.le_of_ble_eq_true rfl) rfl ?_
      exact ev_ireturn dX10_takes_33 rfl (rx_ret_i h)
    · replace h := rx_if_t c11 h
      refine ev_iconst (v := (-1)) 19 dX10_takes_18 (by decide) rfl ?_
      exact ev_ireturn dX10_takes_19 rfl (rx_ret_i h)

def f_X10_hires (N : Nat) (x1 : Int32) (S0 : rx_S) : Option (Int32 × rx_S) := rx_let (fun (x3 : Int32) (S4 : rx_S) => rx_bd (f_X6_bestHire N x3 S4) (fun x6 S5 => some (x6, S5))) (fun J18_1 => if x1 = (-1) then (J18_1 x1 S0) else (rx_bd (f_X8_hasCouple 2 x1 S0) (fun x10 S9 => if x10 = 0 then (some ((-1), S9)) else (J18_1 x1 S9))))
set_option maxHeartbeats 4000000 in
set_option maxRecDepth 20000 in
theorem em_X10_hires {d N : Nat} {x1 : Int32} {S0 : rx_S} {zr : Int32} {zS : rx_S} (h : f_X10_hires N x1 S0 = some (zr, zS)) : EM gC (d + 7) mX10_hires [.ref 0, .int x1] S0 (rx_pi zr zS) := by
  unfold f_X10_hires at h
  show EV gC (d + 7) mX10_hires 0 [some (.ref 0), some (.int x1)] [] S0 (rx_pi zr zS)
  refine ev_iload_n (i := 1) 1 dX10_hires_0 rfl rfl rfl ?_
  refine ev_iconst (v := (-1)) 2 dX10_hires_1 (by decide) rfl ?_
  obtain ⟨J18_1, eJ18_1, h⟩ := rx_let_o h
  have hJ18_1 : ∀ (x3 : Int32) (S4 : rx_S), J18_1 x3 S4 = some (zr, zS) → EV gC (d + 7) mX10_hires 18 [some (.ref 0), some (.int x3)] [] S4 (rx_pi zr zS) := by
    intro x3 S4 h
    subst eJ18_1
    refine ev_aload_n (i := 0) 19 dX10_hires_18 rfl rfl rfl ?_
    refine ev_get (v := .ref 81) 22 dX10_hires_19 dk_0 fl_10_56 (by decide) rfl rfl rfl ?_
    refine ev_aload_n (i := 0) 23 dX10_hires_22 rfl rfl rfl ?_
    refine ev_get (v := .ref 32) 26 dX10_hires_23 dk_0 fl_10_31 (by decide) rfl rfl rfl ?_
    refine ev_iload_n (i := 1) 27 dX10_hires_26 rfl rfl rfl ?_
    obtain ⟨x6, S5, g7, h⟩ := rx_bd_o h
    refine ev_cVi2 30 dX10_hires_27 (em_X6_bestHire g7) mm_X6_bestHire mv_X6_bestHire lk_10_226 dk_81 (by decide) rfl (Nat.le_of_ble_eq_true rfl) (Nat.le_of_ble_eq_true rfl) rfl ?_
    exact ev_ireturn dX10_hires_30 rfl (rx_ret_i h)
  refine ev_icmp_eq 18 5 dX10_hires_2 rfl rfl (fun c8 => ?_) (fun c8 => ?_)
  · replace h := rx_if_t c8 h
    exact (hJ18_1 _ _ h).fewer (rx_le_s (rx_le_s rx_le_0))
  · replace h := rx_if_f c8 h
    refine ev_aload_n (i := 0) 6 dX10_hires_5 rfl rfl rfl ?_
    refine ev_get (v := .ref 2) 9 dX10_hires_6 dk_0 fl_10_20 (by decide) rfl rfl rfl ?_
    refine ev_iload_n (i := 1) 10 dX10_hires_9 rfl rfl rfl ?_
    obtain ⟨x10, S9, g11, h⟩ := rx_bd_o h
    refine ev_cVi1 13 dX10_hires_10 (em_X8_hasCouple_2 g11) mm_X8_hasCouple mv_X8_hasCouple lk_10_117 dk_2 (by decide) rfl (Nat.le_of_ble_eq_true rfl) (Nat.le_of_ble_eq_true rfl) rfl ?_
    refine ev_if_ne 18 16 dX10_hires_13 rfl rfl (fun c12 => ?_) (fun c12 => ?_)
    · replace h := rx_if_f c12 h
      exact (hJ18_1 _ _ h).fewer (rx_le_s (rx_le_s rx_le_0))
    · replace h := rx_if_t c12 h
      refine ev_iconst (v := (-1)) 17 dX10_hires_16 (by decide) rfl ?_
      exact ev_ireturn dX10_hires_17 rfl (rx_ret_i h)

def f_X10_then (N : Nat) (x1 : Int32) (x2 : Int32) (S0 : rx_S) : Option (Int32 × rx_S) := rx_bd (f_X8_hasSpouse 2 x1 S0) (fun x5 S4 => if x5 = 0 then (some ((-1), S4)) else (if x2 < 0 then (some ((-1), S4)) else (if x2 ≤ 60 then (rx_bd (f_X0_behind N x2 S4) (fun x11 S10 => rx_gd ((4 : Int32) + x1) 48 (some ((S10.1 89 (Int32.toNatClampNeg ((4 : Int32) + x1))), S10)))) else (some ((-1), S4)))))
set_option maxHeartbeats 4000000 in
set_option maxRecDepth 20000 in
theorem em_X10_then {d N : Nat} {x1 : Int32} {x2 : Int32} {S0 : rx_S} {zr : Int32} {zS : rx_S} (h : f_X10_then N x1 x2 S0 = some (zr, zS)) : EM gC (d + 7) mX10_then [.ref 0, .int x1, .int x2] S0 (rx_pi zr zS) := by
  unfold f_X10_then at h
  show EV gC (d + 7) mX10_then 0 [some (.ref 0), some (.int x1), some (.int x2)] [] S0 (rx_pi zr zS)
  refine ev_aload_n (i := 0) 1 dX10_then_0 rfl rfl rfl ?_
  refine ev_get (v := .ref 2) 4 dX10_then_1 dk_0 fl_10_20 (by decide) rfl rfl rfl ?_
  refine ev_iload_n (i := 1) 5 dX10_then_4 rfl rfl rfl ?_
  obtain ⟨x5, S4, g6, h⟩ := rx_bd_o h
  refine ev_cVi1 8 dX10_then_5 (em_X8_hasSpouse_2 g6) mm_X8_hasSpouse mv_X8_hasSpouse lk_10_106 dk_2 (by decide) rfl (Nat.le_of_ble_eq_true rfl) (Nat.le_of_ble_eq_true rfl) rfl ?_
  refine ev_if_eq 21 11 dX10_then_8 rfl rfl (fun c7 => ?_) (fun c7 => ?_)
  · replace h := rx_if_t c7 h
    refine ev_iconst (v := (-1)) 22 dX10_then_21 (by decide) rfl ?_
    exact ev_ireturn dX10_then_22 rfl (rx_ret_i h)
  · replace h := rx_if_f c7 h
    refine ev_iload_n (i := 2) 12 dX10_then_11 rfl rfl rfl ?_
    refine ev_if_lt 21 15 dX10_then_12 rfl rfl (fun c8 => ?_) (fun c8 => ?_)
    · replace h := rx_if_t c8 h
      refine ev_iconst (v := (-1)) 22 dX10_then_21 (by decide) rfl ?_
      exact ev_ireturn dX10_then_22 rfl (rx_ret_i h)
    · replace h := rx_if_f c8 h
      refine ev_iload_n (i := 2) 16 dX10_then_15 rfl rfl rfl ?_
      refine ev_bipush (v := 60) 18 dX10_then_16 (by decide) rfl ?_
      refine ev_icmp_le 23 21 dX10_then_18 rfl rfl (fun c9 => ?_) (fun c9 => ?_)
      · replace h := rx_if_t c9 h
        refine ev_aload_n (i := 0) 24 dX10_then_23 rfl rfl rfl ?_
        refine ev_get (v := .ref 88) 27 dX10_then_24 dk_0 fl_10_63 (by decide) rfl rfl rfl ?_
        refine ev_aload_n (i := 0) 28 dX10_then_27 rfl rfl rfl ?_
        refine ev_get (v := .ref 32) 31 dX10_then_28 dk_0 fl_10_31 (by decide) rfl rfl rfl ?_
        refine ev_iload_n (i := 2) 32 dX10_then_31 rfl rfl rfl ?_
        obtain ⟨x11, S10, g12, h⟩ := rx_bd_o h
        refine ev_cVr2 35 dX10_then_32 (em_X0_behind g12) mm_X0_behind mv_X0_behind lk_10_229 dk_88 (by decide) rfl (Nat.le_of_ble_eq_true rfl) (Nat.le_of_ble_eq_true rfl) rfl ?_
        refine ev_iconst (v := 4) 36 dX10_then_35 (by decide) rfl ?_
        refine ev_iload_n (i := 1) 37 dX10_then_36 rfl rfl rfl ?_
        refine ev_iadd 38 dX10_then_37 rfl ?_
        obtain ⟨g13, h⟩ := rx_gd_o h
        refine ex_iald _ 39 dX10_then_38 dk_89 g13 rfl rfl ?_
        exact ev_ireturn dX10_then_39 rfl (rx_ret_i h)
      · replace h := rx_if_f c9 h
        refine ev_iconst (v := (-1)) 22 dX10_then_21 (by decide) rfl ?_
        exact ev_ireturn dX10_then_22 rfl (rx_ret_i h)

def f_X10_paid (N : Nat) (x1 : Int32) (x2 : Int32) (x3 : Int32) (S0 : rx_S) : Option (Int32 × rx_S) := rx_bd (f_X8_hasThird 2 x1 S0) (fun x6 S5 => if x6 = 0 then (some ((-100000), S5)) else (if x2 < 0 then (some ((-100000), S5)) else (if x2 ≤ 60 then (if x3 = 0 then (rx_bd (f_X0_behind N x2 S5) (fun x13 S12 => rx_gd ((40 : Int32) + x1) 48 (some ((S12.1 89 (Int32.toNatClampNeg ((40 : Int32) + x1))), S12)))) else (if x3 = 1 then (rx_bd (f_X0_behind N x2 S5) (fun x18 S17 => rx_gd ((28 : Int32) + x1) 48 (some ((S17.1 89 (Int32.toNatClampNeg ((28 : Int32) + x1))), S17)))) else (if x3 = 2 then (rx_bd (f_X0_behind N x2 S5) (fun x23 S22 => rx_gd ((32 : Int32) + x1) 48 (some ((S22.1 89 (Int32.toNatClampNeg ((32 : Int32) + x1))), S22)))) else (some ((-100000), S5))))) else (some ((-100000), S5)))))
set_option maxHeartbeats 4000000 in
set_option maxRecDepth 20000 in
theorem em_X10_paid {d N : Nat} {x1 : Int32} {x2 : Int32} {x3 : Int32} {S0 : rx_S} {zr : Int32} {zS : rx_S} (h : f_X10_paid N x1 x2 x3 S0 = some (zr, zS)) : EM gC (d + 7) mX10_paid [.ref 0, .int x1, .int x2, .int x3] S0 (rx_pi zr zS) := by
  unfold f_X10_paid at h
  show EV gC (d + 7) mX10_paid 0 [some (.ref 0), some (.int x1), some (.int x2), some (.int x3)] [] S0 (rx_pi zr zS)
  refine ev_aload_n (i := 0) 1 dX10_paid_0 rfl rfl rfl ?_
  refine ev_get (v := .ref 2) 4 dX10_paid_1 dk_0 fl_10_20 (by decide) rfl rfl rfl ?_
  refine ev_iload_n (i := 1) 5 dX10_paid_4 rfl rfl rfl ?_
  obtain ⟨x6, S5, g7, h⟩ := rx_bd_o h
  refine ev_cVi1 8 dX10_paid_5 (em_X8_hasThird_2 g7) mm_X8_hasThird mv_X8_hasThird lk_10_123 dk_2 (by decide) rfl (Nat.le_of_ble_eq_true rfl) (Nat.le_of_ble_eq_true rfl) rfl ?_
  refine ev_if_eq 21 11 dX10_paid_8 rfl rfl (fun c8 => ?_) (fun c8 => ?_)
  · replace h := rx_if_t c8 h
    refine ev_ldc (v := (-100000)) 23 dX10_paid_21 rfl ct_10_126 rfl ?_
    exact ev_ireturn dX10_paid_23 rfl (rx_ret_i h)
  · replace h := rx_if_f c8 h
    refine ev_iload_n (i := 2) 12 dX10_paid_11 rfl rfl rfl ?_
    refine ev_if_lt 21 15 dX10_paid_12 rfl rfl (fun c9 => ?_) (fun c9 => ?_)
    · replace h := rx_if_t c9 h
      refine ev_ldc (v := (-100000)) 23 dX10_paid_21 rfl ct_10_126 rfl ?_
      exact ev_ireturn dX10_paid_23 rfl (rx_ret_i h)
    · replace h := rx_if_f c9 h
      refine ev_iload_n (i := 2) 16 dX10_paid_15 rfl rfl rfl ?_
      refine ev_bipush (v := 60) 18 dX10_paid_16 (by decide) rfl ?_
      refine ev_icmp_le 24 21 dX10_paid_18 rfl rfl (fun c10 => ?_) (fun c10 => ?_)
      · replace h := rx_if_t c10 h
        refine ev_iload_n (i := 3) 25 dX10_paid_24 rfl rfl rfl ?_
        by_cases c11 : x3 = 0
        · replace h := rx_if_t c11 h
          refine ev_tableIn 52 dX10_paid_25 (by rw [c11]; decide) (by rw [c11]; decide) (off := 27) (by rw [c11]; rfl) rfl ?_
          refine ev_aload_n (i := 0) 53 dX10_paid_52 rfl rfl rfl ?_
          refine ev_get (v := .ref 88) 56 dX10_paid_53 dk_0 fl_10_63 (by decide) rfl rfl rfl ?_
          refine ev_aload_n (i := 0) 57 dX10_paid_56 rfl rfl rfl ?_
          refine ev_get (v := .ref 32) 60 dX10_paid_57 dk_0 fl_10_31 (by decide) rfl rfl rfl ?_
          refine ev_iload_n (i := 2) 61 dX10_paid_60 rfl rfl rfl ?_
          obtain ⟨x13, S12, g14, h⟩ := rx_bd_o h
          refine ev_cVr2 64 dX10_paid_61 (em_X0_behind g14) mm_X0_behind mv_X0_behind lk_10_229 dk_88 (by decide) rfl (Nat.le_of_ble_eq_true rfl) (Nat.le_of_ble_eq_true rfl) rfl ?_
          refine ev_bipush (v := 40) 66 dX10_paid_64 (by decide) rfl ?_
          refine ev_iload_n (i := 1) 67 dX10_paid_66 rfl rfl rfl ?_
          refine ev_iadd 68 dX10_paid_67 rfl ?_
          obtain ⟨g15, h⟩ := rx_gd_o h
          refine ex_iald _ 69 dX10_paid_68 dk_89 g15 rfl rfl ?_
          exact ev_ireturn dX10_paid_69 rfl (rx_ret_i h)
        · replace h := rx_if_f c11 h
          by_cases c16 : x3 = 1
          · replace h := rx_if_t c16 h
            refine ev_tableIn 70 dX10_paid_25 (by rw [c16]; decide) (by rw [c16]; decide) (off := 45) (by rw [c16]; rfl) rfl ?_
            refine ev_aload_n (i := 0) 71 dX10_paid_70 rfl rfl rfl ?_
            refine ev_get (v := .ref 88) 74 dX10_paid_71 dk_0 fl_10_63 (by decide) rfl rfl rfl ?_
            refine ev_aload_n (i := 0) 75 dX10_paid_74 rfl rfl rfl ?_
            refine ev_get (v := .ref 32) 78 dX10_paid_75 dk_0 fl_10_31 (by decide) rfl rfl rfl ?_
            refine ev_iload_n (i := 2) 79 dX10_paid_78 rfl rfl rfl ?_
            obtain ⟨x18, S17, g19, h⟩ := rx_bd_o h
            refine ev_cVr2 82 dX10_paid_79 (em_X0_behind g19) mm_X0_behind mv_X0_behind lk_10_229 dk_88 (by decide) rfl (Nat.le_of_ble_eq_true rfl) (Nat.le_of_ble_eq_true rfl) rfl ?_
            refine ev_bipush (v := 28) 84 dX10_paid_82 (by decide) rfl ?_
            refine ev_iload_n (i := 1) 85 dX10_paid_84 rfl rfl rfl ?_
            refine ev_iadd 86 dX10_paid_85 rfl ?_
            obtain ⟨g20, h⟩ := rx_gd_o h
            refine ex_iald _ 87 dX10_paid_86 dk_89 g20 rfl rfl ?_
            exact ev_ireturn dX10_paid_87 rfl (rx_ret_i h)
          · replace h := rx_if_f c16 h
            by_cases c21 : x3 = 2
            · replace h := rx_if_t c21 h
              refine ev_tableIn 88 dX10_paid_25 (by rw [c21]; decide) (by rw [c21]; decide) (off := 63) (by rw [c21]; rfl) rfl ?_
              refine ev_aload_n (i := 0) 89 dX10_paid_88 rfl rfl rfl ?_
              refine ev_get (v := .ref 88) 92 dX10_paid_89 dk_0 fl_10_63 (by decide) rfl rfl rfl ?_
              refine ev_aload_n (i := 0) 93 dX10_paid_92 rfl rfl rfl ?_
              refine ev_get (v := .ref 32) 96 dX10_paid_93 dk_0 fl_10_31 (by decide) rfl rfl rfl ?_
              refine ev_iload_n (i := 2) 97 dX10_paid_96 rfl rfl rfl ?_
              obtain ⟨x23, S22, g24, h⟩ := rx_bd_o h
              refine ev_cVr2 100 dX10_paid_97 (em_X0_behind g24) mm_X0_behind mv_X0_behind lk_10_229 dk_88 (by decide) rfl (Nat.le_of_ble_eq_true rfl) (Nat.le_of_ble_eq_true rfl) rfl ?_
              refine ev_bipush (v := 32) 102 dX10_paid_100 (by decide) rfl ?_
              refine ev_iload_n (i := 1) 103 dX10_paid_102 rfl rfl rfl ?_
              refine ev_iadd 104 dX10_paid_103 rfl ?_
              obtain ⟨g25, h⟩ := rx_gd_o h
              refine ex_iald _ 105 dX10_paid_104 dk_89 g25 rfl rfl ?_
              exact ev_ireturn dX10_paid_105 rfl (rx_ret_i h)
            · replace h := rx_if_f c21 h
              refine ev_tableOut 106 dX10_paid_25 (by have q0 := rx_ne c11 (z := 0) (by decide); have q1 := rx_ne c16 (z := 1) (by decide); have q2 := rx_ne c21 (z := 2) (by decide); omega) rfl ?_
              refine ev_ldc (v := (-100000)) 108 dX10_paid_106 rfl ct_10_126 rfl ?_
              exact ev_ireturn dX10_paid_108 rfl (rx_ret_i h)
      · replace h := rx_if_f c10 h
        refine ev_ldc (v := (-100000)) 23 dX10_paid_21 rfl ct_10_126 rfl ?_
        exact ev_ireturn dX10_paid_23 rfl (rx_ret_i h)

def f_X10_parts (N : Nat) (x1 : Int32) (S0 : rx_S) : Option (Int32 × rx_S) := rx_bd (f_X8_hasCouple 2 x1 S0) (fun x4 S3 => if x4 = 0 then (some ((-1), S3)) else (rx_bd (f_X0_weeksToPart N x1 200 (S3.1 2 10) S3) (fun x8 S7 => some (x8, S7))))
set_option maxHeartbeats 4000000 in
set_option maxRecDepth 20000 in
theorem em_X10_parts {d N : Nat} {x1 : Int32} {S0 : rx_S} {zr : Int32} {zS : rx_S} (h : f_X10_parts N x1 S0 = some (zr, zS)) : EM gC (d + 7) mX10_parts [.ref 0, .int x1] S0 (rx_pi zr zS) := by
  unfold f_X10_parts at h
  show EV gC (d + 7) mX10_parts 0 [some (.ref 0), some (.int x1)] [] S0 (rx_pi zr zS)
  refine ev_aload_n (i := 0) 1 dX10_parts_0 rfl rfl rfl ?_
  refine ev_get (v := .ref 2) 4 dX10_parts_1 dk_0 fl_10_20 (by decide) rfl rfl rfl ?_
  refine ev_iload_n (i := 1) 5 dX10_parts_4 rfl rfl rfl ?_
  obtain ⟨x4, S3, g5, h⟩ := rx_bd_o h
  refine ev_cVi1 8 dX10_parts_5 (em_X8_hasCouple_2 g5) mm_X8_hasCouple mv_X8_hasCouple lk_10_117 dk_2 (by decide) rfl (Nat.le_of_ble_eq_true rfl) (Nat.le_of_ble_eq_true rfl) rfl ?_
  refine ev_if_ne 13 11 dX10_parts_8 rfl rfl (fun c6 => ?_) (fun c6 => ?_)
  · replace h := rx_if_f c6 h
    refine ev_aload_n (i := 0) 14 dX10_parts_13 rfl rfl rfl ?_
    refine ev_get (v := .ref 88) 17 dX10_parts_14 dk_0 fl_10_63 (by decide) rfl rfl rfl ?_
    refine ev_aload_n (i := 0) 18 dX10_parts_17 rfl rfl rfl ?_
    refine ev_get (v := .ref 32) 21 dX10_parts_18 dk_0 fl_10_31 (by decide) rfl rfl rfl ?_
    refine ev_iload_n (i := 1) 22 dX10_parts_21 rfl rfl rfl ?_
    refine ev_sipush (v := 200) 25 dX10_parts_22 (by decide) rfl ?_
    refine ev_aload_n (i := 0) 26 dX10_parts_25 rfl rfl rfl ?_
    refine ev_get (v := .ref 2) 29 dX10_parts_26 dk_0 fl_10_20 (by decide) rfl rfl rfl ?_
    refine ev_get (v := .int (S3.1 2 10)) 32 dX10_parts_29 dk_2 fl_10_167 (by decide) rfl rfl rfl ?_
    obtain ⟨x8, S7, g9, h⟩ := rx_bd_o h
    refine ev_cVi4 35 dX10_parts_32 (em_X0_weeksToPart g9) mm_X0_weeksToPart mv_X0_weeksToPart lk_10_233 dk_88 (by decide) rfl (Nat.le_of_ble_eq_true rfl) (Nat.le_of_ble_eq_true rfl) rfl ?_
    exact ev_ireturn dX10_parts_35 rfl (rx_ret_i h)
  · replace h := rx_if_t c6 h
    refine ev_iconst (v := (-1)) 12 dX10_parts_11 (by decide) rfl ?_
    exact ev_ireturn dX10_parts_12 rfl (rx_ret_i h)

def f_X10_oaths_L20 (N : Nat) (K52 : Int32 → rx_S → Option (Int32 × rx_S)) : Nat → Int32 → Int32 → Int32 → rx_S → Option (Int32 × rx_S)
  | 0, _, _, _, _ => none
  | n + 1, x12, x13, x14, S15 => if ((1 : Int32) <<< ((S15.1 2 8) &&& 31)) ≤ x14 then (K52 x13 S15) else (rx_bd (f_X0_tryOaths N x12 x14 S15) (fun x20 S19 => rx_let (x14 + 1) (fun x22 => f_X10_oaths_L20 N K52 n x12 x13 x22 S19)))
def f_X10_oaths (N : Nat) (x1 : Int32) (x2 : Int32) (S0 : rx_S) : Option (Int32 × rx_S) := if x1 < 1 then (some ((-1), S0)) else (if (24 : Int32) < x1 then (some ((-1), S0)) else (if ((-1) : Int32) ≤ x2 then (rx_let (fun (x7 : Int32) (S8 : rx_S) => rx_bd (f_X0_restingOaths N x7 S8) (fun x10 S9 => some (x10, S9))) (fun J52_1 => f_X10_oaths_L20 N J52_1 N x1 x2 0 S0)) else (some ((-1), S0))))
set_option maxHeartbeats 4000000 in
set_option maxRecDepth 20000 in
theorem em_X10_oaths_L20 {d N : Nat} {K52 : Int32 → rx_S → Option (Int32 × rx_S)} {zr : Int32} {zS : rx_S} (hK52 : ∀ (x16 : Int32) (S17 : rx_S), K52 x16 S17 = some (zr, zS) → EV gC (d + 7) mX10_oaths 52 [some (.ref 0), none, some (.int x16), none] [] S17 (rx_pi zr zS)) : ∀ (n : Nat) (x12 : Int32) (x13 : Int32) (x14 : Int32) (S15 : rx_S), f_X10_oaths_L20 N K52 n x12 x13 x14 S15 = some (zr, zS) → EV gC (d + 7) mX10_oaths 20 [some (.ref 0), some (.int x12), some (.int x13), some (.int x14)] [] S15 (rx_pi zr zS) := by
  intro n
  induction n with
  | zero => intro x12 x13 x14 S15 h; cases h
  | succ n ih =>
    intro x12 x13 x14 S15 h
    rw [f_X10_oaths_L20] at h
    refine ev_iload_n (i := 3) 21 dX10_oaths_20 rfl rfl rfl ?_
    refine ev_iconst (v := 1) 22 dX10_oaths_21 (by decide) rfl ?_
    refine ev_aload_n (i := 0) 23 dX10_oaths_22 rfl rfl rfl ?_
    refine ev_get (v := .ref 2) 26 dX10_oaths_23 dk_0 fl_10_20 (by decide) rfl rfl rfl ?_
    refine ev_get (v := .int (S15.1 2 8)) 29 dX10_oaths_26 dk_2 fl_10_144 (by decide) rfl rfl rfl ?_
    refine ev_ishl 30 dX10_oaths_29 rfl ?_
    refine ev_icmp_ge 52 33 dX10_oaths_30 rfl rfl (fun c18 => ?_) (fun c18 => ?_)
    · replace h := rx_if_t c18 h
      exact (hK52 _ _ h).fewer (rx_le_s (rx_le_n (rx_le_s (rx_le_n rx_le_0))))
    · replace h := rx_if_f c18 h
      refine ev_aload_n (i := 0) 34 dX10_oaths_33 rfl rfl rfl ?_
      refine ev_get (v := .ref 88) 37 dX10_oaths_34 dk_0 fl_10_63 (by decide) rfl rfl rfl ?_
      refine ev_aload_n (i := 0) 38 dX10_oaths_37 rfl rfl rfl ?_
      refine ev_get (v := .ref 32) 41 dX10_oaths_38 dk_0 fl_10_31 (by decide) rfl rfl rfl ?_
      refine ev_iload_n (i := 1) 42 dX10_oaths_41 rfl rfl rfl ?_
      refine ev_iload_n (i := 3) 43 dX10_oaths_42 rfl rfl rfl ?_
      obtain ⟨x20, S19, g21, h⟩ := rx_bd_o h
      refine ev_cVv3 46 dX10_oaths_43 (em_X0_tryOaths g21) mm_X0_tryOaths mv_X0_tryOaths lk_10_236 dk_88 (by decide) rfl (Nat.le_of_ble_eq_true rfl) (Nat.le_of_ble_eq_true rfl) rfl ?_
      obtain ⟨x22, ex22, h⟩ := rx_let_o h
      refine ev_iinc (v := x22) (ls' := [some (.ref 0), some (.int x12), some (.int x13), some (.int x22)]) 49 dX10_oaths_46 rfl (by rw [ex22]; rfl) (Nat.le_of_ble_eq_true rfl) rfl rfl ?_
      refine ev_goto 20 dX10_oaths_49 rfl ?_
      exact (ih _ _ _ _ h).fewer (rx_le_s (rx_le_s (rx_le_s (rx_le_s rx_le_0))))

set_option maxHeartbeats 4000000 in
set_option maxRecDepth 20000 in
theorem em_X10_oaths {d N : Nat} {x1 : Int32} {x2 : Int32} {S0 : rx_S} {zr : Int32} {zS : rx_S} (h : f_X10_oaths N x1 x2 S0 = some (zr, zS)) : EM gC (d + 7) mX10_oaths [.ref 0, .int x1, .int x2] S0 (rx_pi zr zS) := by
  unfold f_X10_oaths at h
  show EV gC (d + 7) mX10_oaths 0 [some (.ref 0), some (.int x1), some (.int x2), none] [] S0 (rx_pi zr zS)
  refine ev_iload_n (i := 1) 1 dX10_oaths_0 rfl rfl rfl ?_
  refine ev_iconst (v := 1) 2 dX10_oaths_1 (by decide) rfl ?_
  refine ev_icmp_lt 16 5 dX10_oaths_2 rfl rfl (fun c4 => ?_) (fun c4 => ?_)
  · replace h := rx_if_t c4 h
    refine ev_iconst (v := (-1)) 17 dX10_oaths_16 (by decide) rfl ?_
    exact ev_ireturn dX10_oaths_17 rfl (rx_ret_i h)
  · replace h := rx_if_f c4 h
    refine ev_iload_n (i := 1) 6 dX10_oaths_5 rfl rfl rfl ?_
    refine ev_bipush (v := 24) 8 dX10_oaths_6 (by decide) rfl ?_
    refine ev_icmp_gt 16 11 dX10_oaths_8 rfl rfl (fun c5 => ?_) (fun c5 => ?_)
    · replace h := rx_if_t c5 h
      refine ev_iconst (v := (-1)) 17 dX10_oaths_16 (by decide) rfl ?_
      exact ev_ireturn dX10_oaths_17 rfl (rx_ret_i h)
    · replace h := rx_if_f c5 h
      refine ev_iload_n (i := 2) 12 dX10_oaths_11 rfl rfl rfl ?_
      refine ev_iconst (v := (-1)) 13 dX10_oaths_12 (by decide) rfl ?_
      refine ev_icmp_ge 18 16 dX10_oaths_13 rfl rfl (fun c6 => ?_) (fun c6 => ?_)
      · replace h := rx_if_t c6 h
        refine ev_iconst (v := 0) 19 dX10_oaths_18 (by decide) rfl ?_
        refine ev_istore_n (ls' := [some (.ref 0), some (.int x1), some (.int x2), some (.int 0)]) 20 dX10_oaths_19 rfl (Nat.le_of_ble_eq_true rfl) rfl rfl ?_
        obtain ⟨J52_1, eJ52_1, h⟩ := rx_let_o h
        have hJ52_1 : ∀ (x7 : Int32) (S8 : rx_S), J52_1 x7 S8 = some (zr, zS) → EV gC (d + 7) mX10_oaths 52 [some (.ref 0), none, some (.int x7), none] [] S8 (rx_pi zr zS) := by
          intro x7 S8 h
          subst eJ52_1
          refine ev_aload_n (i := 0) 53 dX10_oaths_52 rfl rfl rfl ?_
          refine ev_get (v := .ref 88) 56 dX10_oaths_53 dk_0 fl_10_63 (by decide) rfl rfl rfl ?_
          refine ev_iload_n (i := 2) 57 dX10_oaths_56 rfl rfl rfl ?_
          obtain ⟨x10, S9, g11, h⟩ := rx_bd_o h
          refine ev_cVi1 60 dX10_oaths_57 (em_X0_restingOaths g11) mm_X0_restingOaths mv_X0_restingOaths lk_10_240 dk_88 (by decide) rfl (Nat.le_of_ble_eq_true rfl) (Nat.le_of_ble_eq_true rfl) rfl ?_
          exact ev_ireturn dX10_oaths_60 rfl (rx_ret_i h)
        exact (em_X10_oaths_L20 hJ52_1 _ _ _ _ _ h).fewer (rx_le_s (rx_le_s (rx_le_s (rx_le_s rx_le_0))))
      · replace h := rx_if_f c6 h
        refine ev_iconst (v := (-1)) 17 dX10_oaths_16 (by decide) rfl ?_
        exact ev_ireturn dX10_oaths_17 rfl (rx_ret_i h)

