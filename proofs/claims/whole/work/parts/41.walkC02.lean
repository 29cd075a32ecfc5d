def f_X7_askToBend (k : Nat) (N : Nat) (x2 : Int32) (S0 : rx_S) : Option (Unit × rx_S) := rx_bd (f_X7_askAboutThird k N x2 S0) (fun x5 S4 => rx_gd x2 4 (rx_bd (f_X2_let 3 7 (S4.1 11 (Int32.toNatClampNeg x2)) S4) (fun x9 S8 => some ((), S8))))
set_option maxHeartbeats 4000000 in
set_option maxRecDepth 20000 in
theorem em_X7_askToBend_32 {d N : Nat} {x2 : Int32} {S0 : rx_S} {zr : Unit} {zS : rx_S} (h : f_X7_askToBend 32 N x2 S0 = some (zr, zS)) : EM gC (d + 2) mX7_askToBend [.ref 80, .ref 32, .int x2] S0 (rx_pv zS) := by
  unfold f_X7_askToBend at h
  show EV gC (d + 2) mX7_askToBend 0 [some (.ref 80), some (.ref 32), some (.int x2)] [] S0 (rx_pv zS)
  refine ev_aload_n (i := 0) 1 dX7_askToBend_0 rfl rfl rfl ?_
  refine ev_aload_n (i := 1) 2 dX7_askToBend_1 rfl rfl rfl ?_
  refine ev_iload_n (i := 2) 3 dX7_askToBend_2 rfl rfl rfl ?_
  obtain ⟨x5, S4, g6, h⟩ := rx_bd_o h
  refine ev_cVv2 6 dX7_askToBend_3 (em_X7_askAboutThird_32 g6) mm_X7_askAboutThird mv_X7_askAboutThird lk_7_49 dk_80 (by decide) rfl (Nat.le_of_ble_eq_true rfl) (Nat.le_of_ble_eq_true rfl) rfl ?_
  refine ev_aload_n (i := 0) 7 dX7_askToBend_6 rfl rfl rfl ?_
  refine ev_get (v := .ref 3) 10 dX7_askToBend_7 dk_80 fl_7_21 (by decide) rfl rfl rfl ?_
  refine ev_bipush (v := 7) 12 dX7_askToBend_10 (by decide) rfl ?_
  refine ev_aload_n (i := 0) 13 dX7_askToBend_12 rfl rfl rfl ?_
  refine ev_get (v := .ref 2) 16 dX7_askToBend_13 dk_80 fl_7_9 (by decide) rfl rfl rfl ?_
  refine ev_get (v := .ref 11) 19 dX7_askToBend_16 dk_2 fl_7_53 (by decide) rfl rfl rfl ?_
  refine ev_iload_n (i := 2) 20 dX7_askToBend_19 rfl rfl rfl ?_
  obtain ⟨g7, h⟩ := rx_gd_o h
  refine ex_iald _ 21 dX7_askToBend_20 dk_11 g7 rfl rfl ?_
  obtain ⟨x9, S8, g10, h⟩ := rx_bd_o h
  refine ev_cVv2 24 dX7_askToBend_21 (em_X2_let_3 g10) mm_X2_let mv_X2_let lk_7_28 dk_3 (by decide) rfl (Nat.le_of_ble_eq_true rfl) (Nat.le_of_ble_eq_true rfl) rfl ?_
  exact ev_return dX7_askToBend_24 rfl (rx_ret_v h)

set_option maxHeartbeats 4000000 in
set_option maxRecDepth 20000 in
theorem em_X7_askToBend_89 {d N : Nat} {x2 : Int32} {S0 : rx_S} {zr : Unit} {zS : rx_S} (h : f_X7_askToBend 89 N x2 S0 = some (zr, zS)) : EM gC (d + 2) mX7_askToBend [.ref 80, .ref 89, .int x2] S0 (rx_pv zS) := by
  unfold f_X7_askToBend at h
  show EV gC (d + 2) mX7_askToBend 0 [some (.ref 80), some (.ref 89), some (.int x2)] [] S0 (rx_pv zS)
  refine ev_aload_n (i := 0) 1 dX7_askToBend_0 rfl rfl rfl ?_
  refine ev_aload_n (i := 1) 2 dX7_askToBend_1 rfl rfl rfl ?_
  refine ev_iload_n (i := 2) 3 dX7_askToBend_2 rfl rfl rfl ?_
  obtain ⟨x5, S4, g6, h⟩ := rx_bd_o h
  refine ev_cVv2 6 dX7_askToBend_3 (em_X7_askAboutThird_89 g6) mm_X7_askAboutThird mv_X7_askAboutThird lk_7_49 dk_80 (by decide) rfl (Nat.le_of_ble_eq_true rfl) (Nat.le_of_ble_eq_true rfl) rfl ?_
  refine ev_aload_n (i := 0) 7 dX7_askToBend_6 rfl rfl rfl ?_
  refine ev_get (v := .ref 3) 10 dX7_askToBend_7 dk_80 fl_7_21 (by decide) rfl rfl rfl ?_
  refine ev_bipush (v := 7) 12 dX7_askToBend_10 (by decide) rfl ?_
  refine ev_aload_n (i := 0) 13 dX7_askToBend_12 rfl rfl rfl ?_
  refine ev_get (v := .ref 2) 16 dX7_askToBend_13 dk_80 fl_7_9 (by decide) rfl rfl rfl ?_
  refine ev_get (v := .ref 11) 19 dX7_askToBend_16 dk_2 fl_7_53 (by decide) rfl rfl rfl ?_
  refine ev_iload_n (i := 2) 20 dX7_askToBend_19 rfl rfl rfl ?_
  obtain ⟨g7, h⟩ := rx_gd_o h
  refine ex_iald _ 21 dX7_askToBend_20 dk_11 g7 rfl rfl ?_
  obtain ⟨x9, S8, g10, h⟩ := rx_bd_o h
  refine ev_cVv2 24 dX7_askToBend_21 (em_X2_let_3 g10) mm_X2_let mv_X2_let lk_7_28 dk_3 (by decide) rfl (Nat.le_of_ble_eq_true rfl) (Nat.le_of_ble_eq_true rfl) rfl ?_
  exact ev_return dX7_askToBend_24 rfl (rx_ret_v h)

def f_X5_size_L2 (N : Nat) : Nat → Int32 → Int32 → rx_S → Option (Int32 × rx_S)
  | 0, _, _, _ => none
  | n + 1, x2, x3, S4 => if (5 : Int32) < x3 then (some ((-1), S4)) else (rx_let ((1 : Int32) <<< (((3 : Int32) * x3) &&& 31)) (fun x6 => if x2 < x6 then (rx_let (x3 + 1) (fun x8 => f_X5_size_L2 N n x2 x8 S4)) else (if ((2 : Int32) * x6) ≤ x2 then (rx_let (x3 + 1) (fun x10 => f_X5_size_L2 N n x2 x10 S4)) else (some (x3, S4)))))
def f_X5_size (N : Nat) (x0 : Int32) (S0 : rx_S) : Option (Int32 × rx_S) := f_X5_size_L2 N N x0 0 S0
set_option maxHeartbeats 4000000 in
set_option maxRecDepth 20000 in
theorem em_X5_size_L2 {G : Nat × Nat} {d N : Nat} {zr : Int32} {zS : rx_S} : ∀ (n : Nat) (x2 : Int32) (x3 : Int32) (S4 : rx_S), f_X5_size_L2 N n x2 x3 S4 = some (zr, zS) → EV G d mX5_size 2 [some (.int x2), some (.int x3), none] [] S4 (rx_pi zr zS) := by
  intro n
  induction n with
  | zero => intro x2 x3 S4 h; cases h
  | succ n ih =>
    intro x2 x3 S4 h
    rw [f_X5_size_L2] at h
    refine ev_iload_n (i := 1) 3 dX5_size_2 rfl rfl rfl ?_
    refine ev_iconst (v := 5) 4 dX5_size_3 (by decide) rfl ?_
    refine ev_icmp_gt 33 7 dX5_size_4 rfl rfl (fun c5 => ?_) (fun c5 => ?_)
    · replace h := rx_if_t c5 h
      refine ev_iconst (v := (-1)) 34 dX5_size_33 (by decide) rfl ?_
      exact ev_ireturn dX5_size_34 rfl (rx_ret_i h)
    · replace h := rx_if_f c5 h
      refine ev_iconst (v := 1) 8 dX5_size_7 (by decide) rfl ?_
      refine ev_iconst (v := 3) 9 dX5_size_8 (by decide) rfl ?_
      refine ev_iload_n (i := 1) 10 dX5_size_9 rfl rfl rfl ?_
      refine ev_imul 11 dX5_size_10 rfl ?_
      refine ev_ishl 12 dX5_size_11 rfl ?_
      obtain ⟨x6, ex6, h⟩ := rx_let_o h
      refine ev_nm ex6 ?_
      refine ev_istore_n (ls' := [some (.int x2), some (.int x3), some (.int x6)]) 13 dX5_size_12 rfl (Nat.le_of_ble_eq_true rfl) rfl rfl ?_
      refine ev_iload_n (i := 0) 14 dX5_size_13 rfl rfl rfl ?_
      refine ev_iload_n (i := 2) 15 dX5_size_14 rfl rfl rfl ?_
      refine ev_icmp_lt 27 18 dX5_size_15 rfl rfl (fun c7 => ?_) (fun c7 => ?_)
      · replace h := rx_if_t c7 h
        obtain ⟨x8, ex8, h⟩ := rx_let_o h
        refine ev_iinc (v := x8) (ls' := [some (.int x2), some (.int x8), some (.int x6)]) 30 dX5_size_27 rfl (by rw [ex8]; rfl) (Nat.le_of_ble_eq_true rfl) rfl rfl ?_
        refine ev_goto 2 dX5_size_30 rfl ?_
        exact (ih _ _ _ h).fewer (rx_le_s (rx_le_s (rx_le_n rx_le_0)))
      · replace h := rx_if_f c7 h
        refine ev_iload_n (i := 0) 19 dX5_size_18 rfl rfl rfl ?_
        refine ev_iconst (v := 2) 20 dX5_size_19 (by decide) rfl ?_
        refine ev_iload_n (i := 2) 21 dX5_size_20 rfl rfl rfl ?_
        refine ev_imul 22 dX5_size_21 rfl ?_
        refine ev_icmp_ge 27 25 dX5_size_22 rfl rfl (fun c9 => ?_) (fun c9 => ?_)
        · replace h := rx_if_t c9 h
          obtain ⟨x10, ex10, h⟩ := rx_let_o h
          refine ev_iinc (v := x10) (ls' := [some (.int x2), some (.int x10), some (.int x6)]) 30 dX5_size_27 rfl (by rw [ex10]; rfl) (Nat.le_of_ble_eq_true rfl) rfl rfl ?_
          refine ev_goto 2 dX5_size_30 rfl ?_
          exact (ih _ _ _ h).fewer (rx_le_s (rx_le_s (rx_le_n rx_le_0)))
        · replace h := rx_if_f c9 h
          refine ev_iload_n (i := 1) 26 dX5_size_25 rfl rfl rfl ?_
          exact ev_ireturn dX5_size_26 rfl (rx_ret_i h)

set_option maxHeartbeats 4000000 in
set_option maxRecDepth 20000 in
theorem em_X5_size {G : Nat × Nat} {d N : Nat} {x0 : Int32} {S0 : rx_S} {zr : Int32} {zS : rx_S} (h : f_X5_size N x0 S0 = some (zr, zS)) : EM G d mX5_size [.int x0] S0 (rx_pi zr zS) := by
  unfold f_X5_size at h
  show EV G d mX5_size 0 [some (.int x0), none, none] [] S0 (rx_pi zr zS)
  refine ev_iconst (v := 0) 1 dX5_size_0 (by decide) rfl ?_
  refine ev_istore_n (ls' := [some (.int x0), some (.int 0), none]) 2 dX5_size_1 rfl (Nat.le_of_ble_eq_true rfl) rfl rfl ?_
  exact (em_X5_size_L2 _ _ _ _ h).fewer (rx_le_s (rx_le_s (rx_le_n rx_le_0)))

def f_X5_wordAt (x0 : Int32) (x1 : Int32) (x2 : Int32) (S0 : rx_S) : Option (Int32 × rx_S) := rx_let ((x1 - 1) - x2) (fun x4 => if x2 < 0 then (some (0, S0)) else (if x4 < 0 then (some (0, S0)) else (some (((rx_ushr x0 ((3 : Int32) * x4)) &&& 7), S0))))
set_option maxHeartbeats 4000000 in
set_option maxRecDepth 20000 in
theorem em_X5_wordAt {G : Nat × Nat} {d : Nat} {x0 : Int32} {x1 : Int32} {x2 : Int32} {S0 : rx_S} {zr : Int32} {zS : rx_S} (h : f_X5_wordAt x0 x1 x2 S0 = some (zr, zS)) : EM G d mX5_wordAt [.int x0, .int x1, .int x2] S0 (rx_pi zr zS) := by
  unfold f_X5_wordAt at h
  show EV G d mX5_wordAt 0 [some (.int x0), some (.int x1), some (.int x2), none] [] S0 (rx_pi zr zS)
  refine ev_iload_n (i := 1) 1 dX5_wordAt_0 rfl rfl rfl ?_
  refine ev_iconst (v := 1) 2 dX5_wordAt_1 (by decide) rfl ?_
  refine ev_isub 3 dX5_wordAt_2 rfl ?_
  refine ev_iload_n (i := 2) 4 dX5_wordAt_3 rfl rfl rfl ?_
  refine ev_isub 5 dX5_wordAt_4 rfl ?_
  obtain ⟨x4, ex4, h⟩ := rx_let_o h
  refine ev_nm ex4 ?_
  refine ev_istore_n (ls' := [some (.int x0), some (.int x1), some (.int x2), some (.int x4)]) 6 dX5_wordAt_5 rfl (Nat.le_of_ble_eq_true rfl) rfl rfl ?_
  refine ev_iload_n (i := 2) 7 dX5_wordAt_6 rfl rfl rfl ?_
  refine ev_if_lt 25 10 dX5_wordAt_7 rfl rfl (fun c5 => ?_) (fun c5 => ?_)
  · replace h := rx_if_t c5 h
    refine ev_iconst (v := 0) 26 dX5_wordAt_25 (by decide) rfl ?_
    exact ev_ireturn dX5_wordAt_26 rfl (rx_ret_i h)
  · replace h := rx_if_f c5 h
    refine ev_iload_n (i := 3) 11 dX5_wordAt_10 rfl rfl rfl ?_
    refine ev_if_lt 25 14 dX5_wordAt_11 rfl rfl (fun c6 => ?_) (fun c6 => ?_)
    · replace h := rx_if_t c6 h
      refine ev_iconst (v := 0) 26 dX5_wordAt_25 (by decide) rfl ?_
      exact ev_ireturn dX5_wordAt_26 rfl (rx_ret_i h)
    · replace h := rx_if_f c6 h
      refine ev_iload_n (i := 0) 15 dX5_wordAt_14 rfl rfl rfl ?_
      refine ev_iconst (v := 3) 16 dX5_wordAt_15 (by decide) rfl ?_
      refine ev_iload_n (i := 3) 17 dX5_wordAt_16 rfl rfl rfl ?_
      refine ev_imul 18 dX5_wordAt_17 rfl ?_
      refine ev_ushr 19 dX5_wordAt_18 rfl ?_
      refine ev_bipush (v := 7) 21 dX5_wordAt_19 (by decide) rfl ?_
      refine ev_iand 22 dX5_wordAt_21 rfl ?_
      refine ev_goto 26 dX5_wordAt_22 rfl ?_
      exact ev_ireturn dX5_wordAt_26 rfl (rx_ret_i h)

def f_X7_bentWord (N : Nat) (x1 : Int32) (x2 : Int32) (S0 : rx_S) : Option (Int32 × rx_S) := rx_bd (f_X2_let 3 0 x1 S0) (fun x5 S4 => rx_bd (f_X2_let 3 1 x2 S4) (fun x8 S7 => rx_bd (f_X2_answer 3 N 2 S7) (fun x11 S10 => rx_bd (f_X7_restOf x11 9 S10) (fun x14 S13 => some (x14, S13)))))
set_option maxHeartbeats 4000000 in
set_option maxRecDepth 20000 in
theorem em_X7_bentWord {d N : Nat} {x1 : Int32} {x2 : Int32} {S0 : rx_S} {zr : Int32} {zS : rx_S} (h : f_X7_bentWord N x1 x2 S0 = some (zr, zS)) : EM gC (d + 1) mX7_bentWord [.ref 80, .int x1, .int x2] S0 (rx_pi zr zS) := by
  unfold f_X7_bentWord at h
  show EV gC (d + 1) mX7_bentWord 0 [some (.ref 80), some (.int x1), some (.int x2)] [] S0 (rx_pi zr zS)
  refine ev_aload_n (i := 0) 1 dX7_bentWord_0 rfl rfl rfl ?_
  refine ev_get (v := .ref 3) 4 dX7_bentWord_1 dk_80 fl_7_21 (by decide) rfl rfl rfl ?_
  refine ev_iconst (v := 0) 5 dX7_bentWord_4 (by decide) rfl ?_
  refine ev_iload_n (i := 1) 6 dX7_bentWord_5 rfl rfl rfl ?_
  obtain ⟨x5, S4, g6, h⟩ := rx_bd_o h
  refine ev_cVv2 9 dX7_bentWord_6 (em_X2_let_3 g6) mm_X2_let mv_X2_let lk_7_28 dk_3 (by decide) rfl (Nat.le_of_ble_eq_true rfl) (Nat.le_of_ble_eq_true rfl) rfl ?_
  refine ev_aload_n (i := 0) 10 dX7_bentWord_9 rfl rfl rfl ?_
  refine ev_get (v := .ref 3) 13 dX7_bentWord_10 dk_80 fl_7_21 (by decide) rfl rfl rfl ?_
  refine ev_iconst (v := 1) 14 dX7_bentWord_13 (by decide) rfl ?_
  refine ev_iload_n (i := 2) 15 dX7_bentWord_14 rfl rfl rfl ?_
  obtain ⟨x8, S7, g9, h⟩ := rx_bd_o h
  refine ev_cVv2 18 dX7_bentWord_15 (em_X2_let_3 g9) mm_X2_let mv_X2_let lk_7_28 dk_3 (by decide) rfl (Nat.le_of_ble_eq_true rfl) (Nat.le_of_ble_eq_true rfl) rfl ?_
  refine ev_aload_n (i := 0) 19 dX7_bentWord_18 rfl rfl rfl ?_
  refine ev_get (v := .ref 3) 22 dX7_bentWord_19 dk_80 fl_7_21 (by decide) rfl rfl rfl ?_
  refine ev_iconst (v := 2) 23 dX7_bentWord_22 (by decide) rfl ?_
  obtain ⟨x11, S10, g12, h⟩ := rx_bd_o h
  refine ev_cVi1 26 dX7_bentWord_23 (em_X2_answer_3 g12) mm_X2_answer mv_X2_answer lk_7_32 dk_3 (by decide) rfl (Nat.le_of_ble_eq_true rfl) (Nat.le_of_ble_eq_true rfl) rfl ?_
  refine ev_bipush (v := 9) 28 dX7_bentWord_26 (by decide) rfl ?_
  obtain ⟨x14, S13, g15, h⟩ := rx_bd_o h
  refine ev_cSi2 31 dX7_bentWord_28 (em_X7_restOf g15) mm_X7_restOf ms_X7_restOf lk_7_40 (Nat.le_of_ble_eq_true rfl) (Nat.le_of_ble_eq_true rfl) rfl ?_
  exact ev_ireturn dX7_bentWord_31 rfl (rx_ret_i h)

def f_X7_mix (x0 : Int32) (x1 : Int32) (S0 : rx_S) : Option (Int32 × rx_S) := rx_let (((x0 ^^^ x1) * 1103515245) + 12345) (fun x3 => some ((x3 ^^^ (rx_ushr x3 15)), S0))
set_option maxHeartbeats 4000000 in
set_option maxRecDepth 20000 in
theorem em_X7_mix {G : Nat × Nat} {d : Nat} {x0 : Int32} {x1 : Int32} {S0 : rx_S} {zr : Int32} {zS : rx_S} (h : f_X7_mix x0 x1 S0 = some (zr, zS)) : EM G d mX7_mix [.int x0, .int x1] S0 (rx_pi zr zS) := by
  unfold f_X7_mix at h
  show EV G d mX7_mix 0 [some (.int x0), some (.int x1), none] [] S0 (rx_pi zr zS)
  refine ev_iload_n (i := 0) 1 dX7_mix_0 rfl rfl rfl ?_
  refine ev_iload_n (i := 1) 2 dX7_mix_1 rfl rfl rfl ?_
  refine ev_ixor 3 dX7_mix_2 rfl ?_
  refine ev_ldc (v := 1103515245) 5 dX7_mix_3 rfl ct_7_83 rfl ?_
  refine ev_imul 6 dX7_mix_5 rfl ?_
  refine ev_sipush (v := 12345) 9 dX7_mix_6 (by decide) rfl ?_
  refine ev_iadd 10 dX7_mix_9 rfl ?_
  obtain ⟨x3, ex3, h⟩ := rx_let_o h
  refine ev_nm ex3 ?_
  refine ev_istore_n (ls' := [some (.int x0), some (.int x1), some (.int x3)]) 11 dX7_mix_10 rfl (Nat.le_of_ble_eq_true rfl) rfl rfl ?_
  refine ev_iload_n (i := 2) 12 dX7_mix_11 rfl rfl rfl ?_
  refine ev_iload_n (i := 2) 13 dX7_mix_12 rfl rfl rfl ?_
  refine ev_bipush (v := 15) 15 dX7_mix_13 (by decide) rfl ?_
  refine ev_ushr 16 dX7_mix_15 rfl ?_
  refine ev_ixor 17 dX7_mix_16 rfl ?_
  exact ev_ireturn dX7_mix_17 rfl (rx_ret_i h)

def f_X7_lotOfHundred (x0 : Int32) (x1 : Int32) (S0 : rx_S) : Option (Int32 × rx_S) := rx_bd (f_X7_mix x0 91 S0) (fun x4 S3 => rx_bd (f_X7_mix x4 x1 S3) (fun x7 S6 => some ((rx_rem (rx_ushr x7 1) 100), S6)))
set_option maxHeartbeats 4000000 in
set_option maxRecDepth 20000 in
theorem em_X7_lotOfHundred {G : Nat × Nat} {d : Nat} {x0 : Int32} {x1 : Int32} {S0 : rx_S} {zr : Int32} {zS : rx_S} (h : f_X7_lotOfHundred x0 x1 S0 = some (zr, zS)) : EM G (d + 1) mX7_lotOfHundred [.int x0, .int x1] S0 (rx_pi zr zS) := by
  unfold f_X7_lotOfHundred at h
  show EV G (d + 1) mX7_lotOfHundred 0 [some (.int x0), some (.int x1), none] [] S0 (rx_pi zr zS)
  refine ev_iload_n (i := 0) 1 dX7_lotOfHundred_0 rfl rfl rfl ?_
  refine ev_bipush (v := 91) 3 dX7_lotOfHundred_1 (by decide) rfl ?_
  obtain ⟨x4, S3, g5, h⟩ := rx_bd_o h
  refine ev_cSi2 6 dX7_lotOfHundred_3 (em_X7_mix g5) mm_X7_mix ms_X7_mix lk_7_80 (Nat.le_of_ble_eq_true rfl) (Nat.le_of_ble_eq_true rfl) rfl ?_
  refine ev_iload_n (i := 1) 7 dX7_lotOfHundred_6 rfl rfl rfl ?_
  obtain ⟨x7, S6, g8, h⟩ := rx_bd_o h
  refine ev_cSi2 10 dX7_lotOfHundred_7 (em_X7_mix g8) mm_X7_mix ms_X7_mix lk_7_80 (Nat.le_of_ble_eq_true rfl) (Nat.le_of_ble_eq_true rfl) rfl ?_
  refine ev_istore_n (ls' := [some (.int x0), some (.int x1), some (.int x7)]) 11 dX7_lotOfHundred_10 rfl (Nat.le_of_ble_eq_true rfl) rfl rfl ?_
  refine ev_iload_n (i := 2) 12 dX7_lotOfHundred_11 rfl rfl rfl ?_
  refine ev_iconst (v := 1) 13 dX7_lotOfHundred_12 (by decide) rfl ?_
  refine ev_ushr 14 dX7_lotOfHundred_13 rfl ?_
  refine ev_bipush (v := 100) 16 dX7_lotOfHundred_14 (by decide) rfl ?_
  refine ev_rem 17 dX7_lotOfHundred_16 (by decide) rfl ?_
  exact ev_ireturn dX7_lotOfHundred_17 rfl (rx_ret_i h)

def f_X7_carriedRow_L43 (k : Nat) (N : Nat) : Nat → Int32 → Int32 → Int32 → Int32 → Int32 → Int32 → Int32 → Int32 → rx_S → Option (Int32 × rx_S)
  | 0, _, _, _, _, _, _, _, _, _ => none
  | n + 1, x22, x23, x24, x25, x26, x27, x28, x29, S30 => if x27 ≤ x29 then (some (x28, S30)) else (rx_bd (f_X5_wordAt x22 x27 x29 S30) (fun x33 S32 => rx_let (fun (x35 : Int32) (x36 : Int32) (x37 : Int32) (x38 : Int32) (x39 : Int32) (x40 : Int32) (x41 : Int32) (x42 : Int32) (x43 : Int32) (S44 : rx_S) => rx_let (fun (x45 : Int32) (x46 : Int32) (x47 : Int32) (x48 : Int32) (x49 : Int32) (x50 : Int32) (x51 : Int32) (x52 : Int32) (x53 : Int32) (x54 : Int32) (S55 : rx_S) => if x53 = 8 then (rx_let (x52 + 1) (fun x57 => f_X7_carriedRow_L43 k N n x45 x46 x47 x48 x49 x50 x51 x57 S55)) else (if x54 = 0 then (rx_bd (f_X5_with x51 x53 S55) (fun x61 S60 => rx_let (x52 + 1) (fun x63 => f_X7_carriedRow_L43 k N n x45 x46 x47 x48 x49 x50 x61 x63 S60))) else (rx_let (x52 + 1) (fun x59 => f_X7_carriedRow_L43 k N n x45 x46 x47 x48 x49 x50 x51 x59 S55)))) (fun J105_3 => rx_let (fun (x64 : Int32) (x65 : Int32) (x66 : Int32) (x67 : Int32) (x68 : Int32) (x69 : Int32) (x70 : Int32) (x71 : Int32) (x72 : Int32) (S73 : rx_S) => J105_3 x64 x65 x66 x67 x68 x69 x70 x71 x72 0 S73) (fun J104_4 => if x36 ≤ 0 then (J104_4 x35 x36 x37 x38 x39 x40 x41 x42 x43 S44) else (rx_bd (f_X7_lotOfHundred x37 (x38 + x42) S44) (fun x76 S75 => if x36 ≤ x76 then (J104_4 x35 x36 x37 x38 x39 x40 x41 x42 x43 S75) else (J105_3 x35 x36 x37 x38 x39 x40 x41 x42 x43 1 S75)))))) (fun J78_2 => if x26 = 0 then (rx_bd (f_X7_bentWord N x33 x29 S32) (fun x81 S80 => J78_2 x22 x23 x24 x25 x26 x27 x28 x29 x81 S80)) else (J78_2 x22 x23 x24 x25 x26 x27 x28 x29 x33 S32))))
def f_X7_carriedRow (k : Nat) (N : Nat) (x2 : Int32) (x3 : Int32) (x4 : Int32) (x5 : Int32) (x6 : Int32) (S0 : rx_S) : Option (Int32 × rx_S) := rx_gd ((36 : Int32) + x2) 48 (rx_let (fun (x9 : Int32) (x10 : Int32) (x11 : Int32) (x12 : Int32) (x13 : Int32) (x14 : Int32) (S15 : rx_S) => rx_bd (f_X7_askToBend k N x9 S15) (fun x17 S16 => rx_bd (f_X5_size N x10 S16) (fun x20 S19 => f_X7_carriedRow_L43 k N N x10 x11 x12 x13 x14 x20 1 0 S19))) (fun J23_1 => rx_let (fun (x83 : Int32) (x84 : Int32) (x85 : Int32) (x86 : Int32) (x87 : Int32) (S88 : rx_S) => J23_1 x83 x84 x85 x86 x87 0 S88) (fun J22_5 => if (S0.1 k (Int32.toNatClampNeg ((36 : Int32) + x2))) = 0 then (J22_5 x2 x3 x4 x5 x6 S0) else (rx_bd (f_X7_isDaring k N x2 S0) (fun x91 S90 => if x91 = 0 then (J23_1 x2 x3 x4 x5 x6 1 S90) else (J22_5 x2 x3 x4 x5 x6 S90))))))
set_option maxHeartbeats 4000000 in
set_option maxRecDepth 20000 in
theorem em_X7_carriedRow_L43_32 {d N : Nat} {zr : Int32} {zS : rx_S} : ∀ (n : Nat) (x22 : Int32) (x23 : Int32) (x24 : Int32) (x25 : Int32) (x26 : Int32) (x27 : Int32) (x28 : Int32) (x29 : Int32) (S30 : rx_S), f_X7_carriedRow_L43 32 N n x22 x23 x24 x25 x26 x27 x28 x29 S30 = some (zr, zS) → EV gC (d + 3) mX7_carriedRow 43 [some (.ref 80), some (.ref 32), none, some (.int x22), some (.int x23), some (.int x24), some (.int x25), some (.int x26), some (.int x27), some (.int x28), some (.int x29), none, none, none] [] S30 (rx_pi zr zS) := by
  intro n
  induction n with
  | zero => intro x22 x23 x24 x25 x26 x27 x28 x29 S30 h; cases h
  | succ n ih =>
    intro x22 x23 x24 x25 x26 x27 x28 x29 S30 h
    rw [f_X7_carriedRow_L43] at h
    refine ev_iload 45 dX7_carriedRow_43 rfl rfl ?_
    refine ev_iload 47 dX7_carriedRow_45 rfl rfl ?_
    refine ev_icmp_ge 134 50 dX7_carriedRow_47 rfl rfl (fun c31 => ?_) (fun c31 => ?_)
    · replace h := rx_if_t c31 h
      refine ev_iload 136 dX7_carriedRow_134 rfl rfl ?_
      exact ev_ireturn dX7_carriedRow_136 rfl (rx_ret_i h)
    · replace h := rx_if_f c31 h
      refine ev_iload_n (i := 3) 51 dX7_carriedRow_50 rfl rfl rfl ?_
      refine ev_iload 53 dX7_carriedRow_51 rfl rfl ?_
      refine ev_iload 55 dX7_carriedRow_53 rfl rfl ?_
      obtain ⟨x33, S32, g34, h⟩ := rx_bd_o h
      refine ev_cSi3 58 dX7_carriedRow_55 (em_X5_wordAt g34) mm_X5_wordAt ms_X5_wordAt lk_7_74 (Nat.le_of_ble_eq_true rfl) (Nat.le_of_ble_eq_true rfl) rfl ?_
      refine ev_istore (ls' := [some (.ref 80), some (.ref 32), none, some (.int x22), some (.int x23), some (.int x24), some (.int x25), some (.int x26), some (.int x27), some (.int x28), some (.int x29), some (.int x33), none, none]) 60 dX7_carriedRow_58 (Nat.le_of_ble_eq_true rfl) rfl rfl ?_
      refine ev_iload 62 dX7_carriedRow_60 rfl rfl ?_
      obtain ⟨J78_2, eJ78_2, h⟩ := rx_let_o h
      have hJ78_2 : ∀ (x35 : Int32) (x36 : Int32) (x37 : Int32) (x38 : Int32) (x39 : Int32) (x40 : Int32) (x41 : Int32) (x42 : Int32) (x43 : Int32) (S44 : rx_S), J78_2 x35 x36 x37 x38 x39 x40 x41 x42 x43 S44 = some (zr, zS) → EV gC (d + 3) mX7_carriedRow 78 [some (.ref 80), some (.ref 32), none, some (.int x35), some (.int x36), some (.int x37), some (.int x38), some (.int x39), some (.int x40), some (.int x41), some (.int x42), none, none, none] [.int x43] S44 (rx_pi zr zS) := by
        intro x35 x36 x37 x38 x39 x40 x41 x42 x43 S44 h
        subst eJ78_2
        refine ev_istore (ls' := [some (.ref 80), some (.ref 32), none, some (.int x35), some (.int x36), some (.int x37), some (.int x38), some (.int x39), some (.int x40), some (.int x41), some (.int x42), none, some (.int x43), none]) 80 dX7_carriedRow_78 (Nat.le_of_ble_eq_true rfl) rfl rfl ?_
        refine ev_iload 82 dX7_carriedRow_80 rfl rfl ?_
        obtain ⟨J105_3, eJ105_3, h⟩ := rx_let_o h
        have hJ105_3 : ∀ (x45 : Int32) (x46 : Int32) (x47 : Int32) (x48 : Int32) (x49 : Int32) (x50 : Int32) (x51 : Int32) (x52 : Int32) (x53 : Int32) (x54 : Int32) (S55 : rx_S), J105_3 x45 x46 x47 x48 x49 x50 x51 x52 x53 x54 S55 = some (zr, zS) → EV gC (d + 3) mX7_carriedRow 105 [some (.ref 80), some (.ref 32), none, some (.int x45), some (.int x46), some (.int x47), some (.int x48), some (.int x49), some (.int x50), some (.int x51), some (.int x52), none, some (.int x53), none] [.int x54] S55 (rx_pi zr zS) := by
          intro x45 x46 x47 x48 x49 x50 x51 x52 x53 x54 S55 h
          subst eJ105_3
          refine ev_istore (ls' := [some (.ref 80), some (.ref 32), none, some (.int x45), some (.int x46), some (.int x47), some (.int x48), some (.int x49), some (.int x50), some (.int x51), some (.int x52), none, some (.int x53), some (.int x54)]) 107 dX7_carriedRow_105 (Nat.le_of_ble_eq_true rfl) rfl rfl ?_
          refine ev_iload 109 dX7_carriedRow_107 rfl rfl ?_
          refine ev_bipush (v := 8) 111 dX7_carriedRow_109 (by decide) rfl ?_
          refine ev_icmp_eq 128 114 dX7_carriedRow_111 rfl rfl (fun c56 => ?_) (fun c56 => ?_)
          · replace h := rx_if_t c56 h
            obtain ⟨x57, ex57, h⟩ := rx_let_o h
            refine ev_iinc (v := x57) (ls' := [some (.ref 80), some (.ref 32), none, some (.int x45), some (.int x46), some (.int x47), some (.int x48), some (.int x49), some (.int x50), some (.int x51), some (.int x57), none, some (.int x53), some (.int x54)]) 131 dX7_carriedRow_128 rfl (by rw [ex57]; rfl) (Nat.le_of_ble_eq_true rfl) rfl rfl ?_
            refine ev_goto 43 dX7_carriedRow_131 rfl ?_
            exact (ih _ _ _ _ _ _ _ _ _ h).fewer (rx_le_s (rx_le_s (rx_le_n (rx_le_s (rx_le_s (rx_le_s (rx_le_s (rx_le_s (rx_le_s (rx_le_s (rx_le_s (rx_le_n (rx_le_n (rx_le_n rx_le_0))))))))))))))
          · replace h := rx_if_f c56 h
            refine ev_iload 116 dX7_carriedRow_114 rfl rfl ?_
            refine ev_if_ne 128 119 dX7_carriedRow_116 rfl rfl (fun c58 => ?_) (fun c58 => ?_)
            · replace h := rx_if_f c58 h
              obtain ⟨x59, ex59, h⟩ := rx_let_o h
              refine ev_iinc (v := x59) (ls' := [some (.ref 80), some (.ref 32), none, some (.int x45), some (.int x46), some (.int x47), some (.int x48), some (.int x49), some (.int x50), some (.int x51), some (.int x59), none, some (.int x53), some (.int x54)]) 131 dX7_carriedRow_128 rfl (by rw [ex59]; rfl) (Nat.le_of_ble_eq_true rfl) rfl rfl ?_
              refine ev_goto 43 dX7_carriedRow_131 rfl ?_
              exact (ih _ _ _ _ _ _ _ _ _ h).fewer (rx_le_s (rx_le_s (rx_le_n (rx_le_s (rx_le_s (rx_le_s (rx_le_s (rx_le_s (rx_le_s (rx_le_s (rx_le_s (rx_le_n (rx_le_n (rx_le_n rx_le_0))))))))))))))
            · replace h := rx_if_t c58 h
              refine ev_iload 121 dX7_carriedRow_119 rfl rfl ?_
              refine ev_iload 123 dX7_carriedRow_121 rfl rfl ?_
              obtain ⟨x61, S60, g62, h⟩ := rx_bd_o h
              refine ev_cSi2 126 dX7_carriedRow_123 (em_X5_with g62) mm_X5_with ms_X5_with lk_7_44 (Nat.le_of_ble_eq_true rfl) (Nat.le_of_ble_eq_true rfl) rfl ?_
              refine ev_istore (ls' := [some (.ref 80), some (.ref 32), none, some (.int x45), some (.int x46), some (.int x47), some (.int x48), some (.int x49), some (.int x50), some (.int x61), some (.int x52), none, some (.int x53), some (.int x54)]) 128 dX7_carriedRow_126 (Nat.le_of_ble_eq_true rfl) rfl rfl ?_
              obtain ⟨x63, ex63, h⟩ := rx_let_o h
              refine ev_iinc (v := x63) (ls' := [some (.ref 80), some (.ref 32), none, some (.int x45), some (.int x46), some (.int x47), some (.int x48), some (.int x49), some (.int x50), some (.int x61), some (.int x63), none, some (.int x53), some (.int x54)]) 131 dX7_carriedRow_128 rfl (by rw [ex63]; rfl) (Nat.le_of_ble_eq_true rfl) rfl rfl ?_
              refine ev_goto 43 dX7_carriedRow_131 rfl ?_
              exact (ih _ _ _ _ _ _ _ _ _ h).fewer (rx_le_s (rx_le_s (rx_le_n (rx_le_s (rx_le_s (rx_le_s (rx_le_s (rx_le_s (rx_le_s (rx_le_s (rx_le_s (rx_le_n (rx_le_n (rx_le_n rx_le_0))))))))))))))
        obtain ⟨J104_4, eJ104_4, h⟩ := rx_let_o h
        have hJ104_4 : ∀ (x64 : Int32) (x65 : Int32) (x66 : Int32) (x67 : Int32) (x68 : Int32) (x69 : Int32) (x70 : Int32) (x71 : Int32) (x72 : Int32) (S73 : rx_S), J104_4 x64 x65 x66 x67 x68 x69 x70 x71 x72 S73 = some (zr, zS) → EV gC (d + 3) mX7_carriedRow 104 [some (.ref 80), some (.ref 32), none, some (.int x64), some (.int x65), some (.int x66), some (.int x67), some (.int x68), some (.int x69), some (.int x70), some (.int x71), none, some (.int x72), none] [] S73 (rx_pi zr zS) := by
          intro x64 x65 x66 x67 x68 x69 x70 x71 x72 S73 h
          subst eJ104_4
          refine ev_iconst (v := 0) 105 dX7_carriedRow_104 (by decide) rfl ?_
          exact (hJ105_3 _ _ _ _ _ _ _ _ _ _ _ h).fewer (rx_le_s (rx_le_s (rx_le_n (rx_le_s (rx_le_s (rx_le_s (rx_le_s (rx_le_s (rx_le_s (rx_le_s (rx_le_s (rx_le_n (rx_le_s (rx_le_n rx_le_0))))))))))))))
        refine ev_if_le 104 85 dX7_carriedRow_82 rfl rfl (fun c74 => ?_) (fun c74 => ?_)
        · replace h := rx_if_t c74 h
          exact (hJ104_4 _ _ _ _ _ _ _ _ _ _ h).fewer (rx_le_s (rx_le_s (rx_le_n (rx_le_s (rx_le_s (rx_le_s (rx_le_s (rx_le_s (rx_le_s (rx_le_s (rx_le_s (rx_le_n (rx_le_s (rx_le_n rx_le_0))))))))))))))
        · replace h := rx_if_f c74 h
          refine ev_iload 87 dX7_carriedRow_85 rfl rfl ?_
          refine ev_iload 89 dX7_carriedRow_87 rfl rfl ?_
          refine ev_iload 91 dX7_carriedRow_89 rfl rfl ?_
          refine ev_iadd 92 dX7_carriedRow_91 rfl ?_
          obtain ⟨x76, S75, g77, h⟩ := rx_bd_o h
          refine ev_cSi2 95 dX7_carriedRow_92 (em_X7_lotOfHundred g77) mm_X7_lotOfHundred ms_X7_lotOfHundred lk_7_77 (Nat.le_of_ble_eq_true rfl) (Nat.le_of_ble_eq_true rfl) rfl ?_
          refine ev_iload 97 dX7_carriedRow_95 rfl rfl ?_
          refine ev_icmp_ge 104 100 dX7_carriedRow_97 rfl rfl (fun c78 => ?_) (fun c78 => ?_)
          · replace h := rx_if_t c78 h
            exact (hJ104_4 _ _ _ _ _ _ _ _ _ _ h).fewer (rx_le_s (rx_le_s (rx_le_n (rx_le_s (rx_le_s (rx_le_s (rx_le_s (rx_le_s (rx_le_s (rx_le_s (rx_le_s (rx_le_n (rx_le_s (rx_le_n rx_le_0))))))))))))))
          · replace h := rx_if_f c78 h
            refine ev_iconst (v := 1) 101 dX7_carriedRow_100 (by decide) rfl ?_
            refine ev_goto 105 dX7_carriedRow_101 rfl ?_
            exact (hJ105_3 _ _ _ _ _ _ _ _ _ _ _ h).fewer (rx_le_s (rx_le_s (rx_le_n (rx_le_s (rx_le_s (rx_le_s (rx_le_s (rx_le_s (rx_le_s (rx_le_s (rx_le_s (rx_le_n (rx_le_s (rx_le_n rx_le_0))))))))))))))
      refine ev_if_eq 70 65 dX7_carriedRow_62 rfl rfl (fun c79 => ?_) (fun c79 => ?_)
      · replace h := rx_if_t c79 h
        refine ev_aload_n (i := 0) 71 dX7_carriedRow_70 rfl rfl rfl ?_
        refine ev_iload 73 dX7_carriedRow_71 rfl rfl ?_
        refine ev_iload 75 dX7_carriedRow_73 rfl rfl ?_
        obtain ⟨x81, S80, g82, h⟩ := rx_bd_o h
        refine ev_cVi2 78 dX7_carriedRow_75 (em_X7_bentWord g82) mm_X7_bentWord mv_X7_bentWord lk_7_64 dk_80 (by decide) rfl (Nat.le_of_ble_eq_true rfl) (Nat.le_of_ble_eq_true rfl) rfl ?_
        exact (hJ78_2 _ _ _ _ _ _ _ _ _ _ h).fewer (rx_le_s (rx_le_s (rx_le_n (rx_le_s (rx_le_s (rx_le_s (rx_le_s (rx_le_s (rx_le_s (rx_le_s (rx_le_s (rx_le_n (rx_le_n (rx_le_n rx_le_0))))))))))))))
      · replace h := rx_if_f c79 h
        refine ev_iload 67 dX7_carriedRow_65 rfl rfl ?_
        refine ev_goto 78 dX7_carriedRow_67 rfl ?_
        exact (hJ78_2 _ _ _ _ _ _ _ _ _ _ h).fewer (rx_le_s (rx_le_s (rx_le_n (rx_le_s (rx_le_s (rx_le_s (rx_le_s (rx_le_s (rx_le_s (rx_le_s (rx_le_s (rx_le_n (rx_le_n (rx_le_n rx_le_0))))))))))))))

set_option maxHeartbeats 4000000 in
set_option maxRecDepth 20000 in
theorem em_X7_carriedRow_32 {d N : Nat} {x2 : Int32} {x3 : Int32} {x4 : Int32} {x5 : Int32} {x6 : Int32} {S0 : rx_S} {zr : Int32} {zS : rx_S} (h : f_X7_carriedRow 32 N x2 x3 x4 x5 x6 S0 = some (zr, zS)) : EM gC (d + 3) mX7_carriedRow [.ref 80, .ref 32, .int x2, .int x3, .int x4, .int x5, .int x6] S0 (rx_pi zr zS) := by
  unfold f_X7_carriedRow at h
  show EV gC (d + 3) mX7_carriedRow 0 [some (.ref 80), some (.ref 32), some (.int x2), some (.int x3), some (.int x4), some (.int x5), some (.int x6), none, none, none, none, none, none, none] [] S0 (rx_pi zr zS)
  refine ev_aload_n (i := 1) 1 dX7_carriedRow_0 rfl rfl rfl ?_
  refine ev_bipush (v := 36) 3 dX7_carriedRow_1 (by decide) rfl ?_
  refine ev_iload_n (i := 2) 4 dX7_carriedRow_3 rfl rfl rfl ?_
  refine ev_iadd 5 dX7_carriedRow_4 rfl ?_
  obtain ⟨g8, h⟩ := rx_gd_o h
  refine ex_iald _ 6 dX7_carriedRow_5 dk_32 g8 rfl rfl ?_
  obtain ⟨J23_1, eJ23_1, h⟩ := rx_let_o h
  have hJ23_1 : ∀ (x9 : Int32) (x10 : Int32) (x11 : Int32) (x12 : Int32) (x13 : Int32) (x14 : Int32) (S15 : rx_S), J23_1 x9 x10 x11 x12 x13 x14 S15 = some (zr, zS) → EV gC (d + 3) mX7_carriedRow 23 [some (.ref 80), some (.ref 32), some (.int x9), some (.int x10), some (.int x11), some (.int x12), some (.int x13), none, none, none, none, none, none, none] [.int x14] S15 (rx_pi zr zS) := by
    intro x9 x10 x11 x12 x13 x14 S15 h
    subst eJ23_1
    refine ev_istore (ls' := [some (.ref 80), some (.ref 32), some (.int x9), some (.int x10), some (.int x11), some (.int x12), some (.int x13), some (.int x14), none, none, none, none, none, none]) 25 dX7_carriedRow_23 (Nat.le_of_ble_eq_true rfl) rfl rfl ?_
    refine ev_aload_n (i := 0) 26 dX7_carriedRow_25 rfl rfl rfl ?_
    refine ev_aload_n (i := 1) 27 dX7_carriedRow_26 rfl rfl rfl ?_
    refine ev_iload_n (i := 2) 28 dX7_carriedRow_27 rfl rfl rfl ?_
    obtain ⟨x17, S16, g18, h⟩ := rx_bd_o h
    refine ev_cVv2 31 dX7_carriedRow_28 (em_X7_askToBend_32 g18) mm_X7_askToBend mv_X7_askToBend lk_7_61 dk_80 (by decide) rfl (Nat.le_of_ble_eq_true rfl) (Nat.le_of_ble_eq_true rfl) rfl ?_
    refine ev_iload_n (i := 3) 32 dX7_carriedRow_31 rfl rfl rfl ?_
    obtain ⟨x20, S19, g21, h⟩ := rx_bd_o h
    refine ev_cSi1 35 dX7_carriedRow_32 (em_X5_size g21) mm_X5_size ms_X5_size lk_7_71 (Nat.le_of_ble_eq_true rfl) (Nat.le_of_ble_eq_true rfl) rfl ?_
    refine ev_istore (ls' := [some (.ref 80), some (.ref 32), some (.int x9), some (.int x10), some (.int x11), some (.int x12), some (.int x13), some (.int x14), some (.int x20), none, none, none, none, none]) 37 dX7_carriedRow_35 (Nat.le_of_ble_eq_true rfl) rfl rfl ?_
    refine ev_iconst (v := 1) 38 dX7_carriedRow_37 (by decide) rfl ?_
    refine ev_istore (ls' := [some (.ref 80), some (.ref 32), some (.int x9), some (.int x10), some (.int x11), some (.int x12), some (.int x13), some (.int x14), some (.int x20), some (.int 1), none, none, none, none]) 40 dX7_carriedRow_38 (Nat.le_of_ble_eq_true rfl) rfl rfl ?_
    refine ev_iconst (v := 0) 41 dX7_carriedRow_40 (by decide) rfl ?_
    refine ev_istore (ls' := [some (.ref 80), some (.ref 32), some (.int x9), some (.int x10), some (.int x11), some (.int x12), some (.int x13), some (.int x14), some (.int x20), some (.int 1), some (.int 0), none, none, none]) 43 dX7_carriedRow_41 (Nat.le_of_ble_eq_true rfl) rfl rfl ?_
    exact (em_X7_carriedRow_L43_32 _ _ _ _ _ _ _ _ _ _ h).fewer (rx_le_s (rx_le_s (rx_le_n (rx_le_s (rx_le_s (rx_le_s (rx_le_s (rx_le_s (rx_le_s (rx_le_s (rx_le_s (rx_le_n (rx_le_n (rx_le_n rx_le_0))))))))))))))
  obtain ⟨J22_5, eJ22_5, h⟩ := rx_let_o h
  have hJ22_5 : ∀ (x83 : Int32) (x84 : Int32) (x85 : Int32) (x86 : Int32) (x87 : Int32) (S88 : rx_S), J22_5 x83 x84 x85 x86 x87 S88 = some (zr, zS) → EV gC (d + 3) mX7_carriedRow 22 [some (.ref 80), some (.ref 32), some (.int x83), some (.int x84), some (.int x85), some (.int x86), some (.int x87), none, none, none, none, none, none, none] [] S88 (rx_pi zr zS) := by
    intro x83 x84 x85 x86 x87 S88 h
    subst eJ22_5
    refine ev_iconst (v := 0) 23 dX7_carriedRow_22 (by decide) rfl ?_
    exact (hJ23_1 _ _ _ _ _ _ _ h).fewer (rx_le_s (rx_le_s (rx_le_s (rx_le_s (rx_le_s (rx_le_s (rx_le_s (rx_le_n (rx_le_n (rx_le_n (rx_le_n (rx_le_n (rx_le_n (rx_le_n rx_le_0))))))))))))))
  refine ev_if_eq 22 9 dX7_carriedRow_6 rfl rfl (fun c89 => ?_) (fun c89 => ?_)
  · replace h := rx_if_t c89 h
    exact (hJ22_5 _ _ _ _ _ _ h).fewer (rx_le_s (rx_le_s (rx_le_s (rx_le_s (rx_le_s (rx_le_s (rx_le_s (rx_le_n (rx_le_n (rx_le_n (rx_le_n (rx_le_n (rx_le_n (rx_le_n rx_le_0))))))))))))))
  · replace h := rx_if_f c89 h
    refine ev_aload_n (i := 0) 10 dX7_carriedRow_9 rfl rfl rfl ?_
    refine ev_aload_n (i := 1) 11 dX7_carriedRow_10 rfl rfl rfl ?_
    refine ev_iload_n (i := 2) 12 dX7_carriedRow_11 rfl rfl rfl ?_
    obtain ⟨x91, S90, g92, h⟩ := rx_bd_o h
    refine ev_cVi2 15 dX7_carriedRow_12 (em_X7_isDaring_32 g92) mm_X7_isDaring mv_X7_isDaring lk_7_57 dk_80 (by decide) rfl (Nat.le_of_ble_eq_true rfl) (Nat.le_of_ble_eq_true rfl) rfl ?_
    refine ev_if_ne 22 18 dX7_carriedRow_15 rfl rfl (fun c93 => ?_) (fun c93 => ?_)
    · replace h := rx_if_f c93 h
      exact (hJ22_5 _ _ _ _ _ _ h).fewer (rx_le_s (rx_le_s (rx_le_s (rx_le_s (rx_le_s (rx_le_s (rx_le_s (rx_le_n (rx_le_n (rx_le_n (rx_le_n (rx_le_n (rx_le_n (rx_le_n rx_le_0))))))))))))))
    · replace h := rx_if_t c93 h
      refine ev_iconst (v := 1) 19 dX7_carriedRow_18 (by decide) rfl ?_
      refine ev_goto 23 dX7_carriedRow_19 rfl ?_
      exact (hJ23_1 _ _ _ _ _ _ _ h).fewer (rx_le_s (rx_le_s (rx_le_s (rx_le_s (rx_le_s (rx_le_s (rx_le_s (rx_le_n (rx_le_n (rx_le_n (rx_le_n (rx_le_n (rx_le_n (rx_le_n rx_le_0))))))))))))))

set_option maxHeartbeats 4000000 in
set_option maxRecDepth 20000 in
theorem em_X7_carriedRow_L43_89 {d N : Nat} {zr : Int32} {zS : rx_S} : ∀ (n : Nat) (x22 : Int32) (x23 : Int32) (x24 : Int32) (x25 : Int32) (x26 : Int32) (x27 : Int32) (x28 : Int32) (x29 : Int32) (S30 : rx_S), f_X7_carriedRow_L43 89 N n x22 x23 x24 x25 x26 x27 x28 x29 S30 = some (zr, zS) → EV gC (d + 3) mX7_carriedRow 43 [some (.ref 80), some (.ref 89), none, some (.int x22), some (.int x23), some (.int x24), some (.int x25), some (.int x26), some (.int x27), some (.int x28), some (.int x29), none, none, none] [] S30 (rx_pi zr zS) := by
  intro n
  induction n with
  | zero => intro x22 x23 x24 x25 x26 x27 x28 x29 S30 h; cases h
  | succ n ih =>
    intro x22 x23 x24 x25 x26 x27 x28 x29 S30 h
    rw [f_X7_carriedRow_L43] at h
    refine ev_iload 45 dX7_carriedRow_43 rfl rfl ?_
    refine ev_iload 47 dX7_carriedRow_45 rfl rfl ?_
    refine ev_icmp_ge 134 50 dX7_carriedRow_47 rfl rfl (fun c31 => ?_) (fun c31 => ?_)
    · replace h := rx_if_t c31 h
      refine ev_iload 136 dX7_carriedRow_134 rfl rfl ?_
      exact ev_ireturn dX7_carriedRow_136 rfl (rx_ret_i h)
    · replace h := rx_if_f c31 h
      refine ev_iload_n (i := 3) 51 dX7_carriedRow_50 rfl rfl rfl ?_
      refine ev_iload 53 dX7_carriedRow_51 rfl rfl ?_
      refine ev_iload 55 dX7_carriedRow_53 rfl rfl ?_
      obtain ⟨x33, S32, g34, h⟩ := rx_bd_o h
      refine ev_cSi3 58 dX7_carriedRow_55 (em_X5_wordAt g34) mm_X5_wordAt ms_X5_wordAt lk_7_74 (Nat.le_of_ble_eq_true rfl) (Nat.le_of_ble_eq_true rfl) rfl ?_
      refine ev_istore (ls' := [some (.ref 80), some (.ref 89), none, some (.int x22), some (.int x23), some (.int x24), some (.int x25), some (.int x26), some (.int x27), some (.int x28), some (.int x29), some (.int x33), none, none]) 60 dX7_carriedRow_58 (Nat.le_of_ble_eq_true rfl) rfl rfl ?_
      refine ev_iload 62 dX7_carriedRow_60 rfl rfl ?_
      obtain ⟨J78_2, eJ78_2, h⟩ := rx_let_o h
      have hJ78_2 : ∀ (x35 : Int32) (x36 : Int32) (x37 : Int32) (x38 : Int32) (x39 : Int32) (x40 : Int32) (x41 : Int32) (x42 : Int32) (x43 : Int32) (S44 : rx_S), J78_2 x35 x36 x37 x38 x39 x40 x41 x42 x43 S44 = some (zr, zS) → EV gC (d + 3) mX7_carriedRow 78 [some (.ref 80), some (.ref 89), none, some (.int x35), some (.int x36), some (.int x37), some (.int x38), some (.int x39), some (.int x40), some (.int x41), some (.int x42), none, none, none] [.int x43] S44 (rx_pi zr zS) := by
        intro x35 x36 x37 x38 x39 x40 x41 x42 x43 S44 h
        subst eJ78_2
        refine ev_istore (ls' := [some (.ref 80), some (.ref 89), none, some (.int x35), some (.int x36), some (.int x37), some (.int x38), some (.int x39), some (.int x40), some (.int x41), some (.int x42), none, some (.int x43), none]) 80 dX7_carriedRow_78 (Nat.le_of_ble_eq_true rfl) rfl rfl ?_
        refine ev_iload 82 dX7_carriedRow_80 rfl rfl ?_
        obtain ⟨J105_3, eJ105_3, h⟩ := rx_let_o h
        have hJ105_3 : ∀ (x45 : Int32) (x46 : Int32) (x47 : Int32) (x48 : Int32) (x49 : Int32) (x50 : Int32) (x51 : Int32) (x52 : Int32) (x53 : Int32) (x54 : Int32) (S55 : rx_S), J105_3 x45 x46 x47 x48 x49 x50 x51 x52 x53 x54 S55 = some (zr, zS) → EV gC (d + 3) mX7_carriedRow 105 [some (.ref 80), some (.ref 89), none, some (.int x45), some (.int x46), some (.int x47), some (.int x48), some (.int x49), some (.int x50), some (.int x51), some (.int x52), none, some (.int x53), none] [.int x54] S55 (rx_pi zr zS) := by
          intro x45 x46 x47 x48 x49 x50 x51 x52 x53 x54 S55 h
          subst eJ105_3
          refine ev_istore (ls' := [some (.ref 80), some (.ref 89), none, some (.int x45), some (.int x46), some (.int x47), some (.int x48), some (.int x49), some (.int x50), some (.int x51), some (.int x52), none, some (.int x53), some (.int x54)]) 107 dX7_carriedRow_105 (Nat.le_of_ble_eq_true rfl) rfl rfl ?_
          refine ev_iload 109 dX7_carriedRow_107 rfl rfl ?_
          refine ev_bipush (v := 8) 111 dX7_carriedRow_109 (by decide) rfl ?_
          refine ev_icmp_eq 128 114 dX7_carriedRow_111 rfl rfl (fun c56 => ?_) (fun c56 => ?_)
          · replace h := rx_if_t c56 h
            obtain ⟨x57, ex57, h⟩ := rx_let_o h
            refine ev_iinc (v := x57) (ls' := [some (.ref 80), some (.ref 89), none, some (.int x45), some (.int x46), some (.int x47), some (.int x48), some (.int x49), some (.int x50), some (.int x51), some (.int x57), none, some (.int x53), some (.int x54)]) 131 dX7_carriedRow_128 rfl (by rw [ex57]; rfl) (Nat.le_of_ble_eq_true rfl) rfl rfl ?_
            refine ev_goto 43 dX7_carriedRow_131 rfl ?_
            exact (ih _ _ _ _ _ _ _ _ _ h).fewer (rx_le_s (rx_le_s (rx_le_n (rx_le_s (rx_le_s (rx_le_s (rx_le_s (rx_le_s (rx_le_s (rx_le_s (rx_le_s (rx_le_n (rx_le_n (rx_le_n rx_le_0))))))))))))))
          · replace h := rx_if_f c56 h
            refine ev_iload 116 dX7_carriedRow_114 rfl rfl ?_
            refine ev_if_ne 128 119 dX7_carriedRow_116 rfl rfl (fun c58 => ?_) (fun c58 => ?_)
            · replace h := rx_if_f c58 h
              obtain ⟨x59, ex59, h⟩ := rx_let_o h
              refine ev_iinc (v := x59) (ls' := [some (.ref 80), some (.ref 89), none, some (.int x45), some (.int x46), some (.int x47), some (.int x48), some (.int x49), some (.int x50), some (.int x51), some (.int x59), none, some (.int x53), some (.int x54)]) 131 dX7_carriedRow_128 rfl (by rw [ex59]; rfl) (Nat.le_of_ble_eq_true rfl) rfl rfl ?_
              refine ev_goto 43 dX7_carriedRow_131 rfl ?_
              exact (ih _ _ _ _ _ _ _ _ _ h).fewer (rx_le_s (rx_le_s (rx_le_n (rx_le_s (rx_le_s (rx_le_s (rx_le_s (rx_le_s (rx_le_s (rx_le_s (rx_le_s (rx_le_n (rx_le_n (rx_le_n rx_le_0))))))))))))))
            · replace h := rx_if_t c58 h
              refine ev_iload 121 dX7_carriedRow_119 rfl rfl ?_
              refine ev_iload 123 dX7_carriedRow_121 rfl rfl ?_
              obtain ⟨x61, S60, g62, h⟩ := rx_bd_o h
              refine ev_cSi2 126 dX7_carriedRow_123 (em_X5_with g62) mm_X5_with ms_X5_with lk_7_44 (Nat.le_of_ble_eq_true rfl) (Nat.le_of_ble_eq_true rfl) rfl ?_
              refine ev_istore (ls' := [some (.ref 80), some (.ref 89), none, some (.int x45), some (.int x46), some (.int x47), some (.int x48), some (.int x49), some (.int x50), some (.int x61), some (.int x52), none, some (.int x53), some (.int x54)]) 128 dX7_carriedRow_126 (Nat.le_of_ble_eq_true rfl) rfl rfl ?_
              obtain ⟨x63, ex63, h⟩ := rx_let_o h
              refine ev_iinc (v := x63) (ls' := [some (.ref 80), some (.ref 89), none, some (.int x45), some (.int x46), some (.int x47), some (.int x48), some (.int x49), some (.int x50), some (.int x61), some (.int x63), none, some (.int x53), some (.int x54)]) 131 dX7_carriedRow_128 rfl (by rw [ex63]; rfl) (Nat.le_of_ble_eq_true rfl) rfl rfl ?_
              refine ev_goto 43 dX7_carriedRow_131 rfl ?_
              exact (ih _ _ _ _ _ _ _ _ _ h).fewer (rx_le_s (rx_le_s (rx_le_n (rx_le_s (rx_le_s (rx_le_s (rx_le_s (rx_le_s (rx_le_s (rx_le_s (rx_le_s (rx_le_n (rx_le_n (rx_le_n rx_le_0))))))))))))))
        obtain ⟨J104_4, eJ104_4, h⟩ := rx_let_o h
        have hJ104_4 : ∀ (x64 : Int32) (x65 : Int32) (x66 : Int32) (x67 : Int32) (x68 : Int32) (x69 : Int32) (x70 : Int32) (x71 : Int32) (x72 : Int32) (S73 : rx_S), J104_4 x64 x65 x66 x67 x68 x69 x70 x71 x72 S73 = some (zr, zS) → EV gC (d + 3) mX7_carriedRow 104 [some (.ref 80), some (.ref 89), none, some (.int x64), some (.int x65), some (.int x66), some (.int x67), some (.int x68), some (.int x69), some (.int x70), some (.int x71), none, some (.int x72), none] [] S73 (rx_pi zr zS) := by
          intro x64 x65 x66 x67 x68 x69 x70 x71 x72 S73 h
          subst eJ104_4
          refine ev_iconst (v := 0) 105 dX7_carriedRow_104 (by decide) rfl ?_
          exact (hJ105_3 _ _ _ _ _ _ _ _ _ _ _ h).fewer (rx_le_s (rx_le_s (rx_le_n (rx_le_s (rx_le_s (rx_le_s (rx_le_s (rx_le_s (rx_le_s (rx_le_s (rx_le_s (rx_le_n (rx_le_s (rx_le_n rx_le_0))))))))))))))
        refine ev_if_le 104 85 dX7_carriedRow_82 rfl rfl (fun c74 => ?_) (fun c74 => ?_)
        · replace h := rx_if_t c74 h
          exact (hJ104_4 _ _ _ _ _ _ _ _ _ _ h).fewer (rx_le_s (rx_le_s (rx_le_n (rx_le_s (rx_le_s (rx_le_s (rx_le_s (rx_le_s (rx_le_s (rx_le_s (rx_le_s (rx_le_n (rx_le_s (rx_le_n rx_le_0))))))))))))))
        · replace h := rx_if_f c74 h
          refine ev_iload 87 dX7_carriedRow_85 rfl rfl ?_
          refine ev_iload 89 dX7_carriedRow_87 rfl rfl ?_
          refine ev_iload 91 dX7_carriedRow_89 rfl rfl ?_
          refine ev_iadd 92 dX7_carriedRow_91 rfl ?_
          obtain ⟨x76, S75, g77, h⟩ := rx_bd_o h
          refine ev_cSi2 95 dX7_carriedRow_92 (em_X7_lotOfHundred g77) mm_X7_lotOfHundred ms_X7_lotOfHundred lk_7_77 (Nat.le_of_ble_eq_true rfl) (Nat.le_of_ble_eq_true rfl) rfl ?_
          refine ev_iload 97 dX7_carriedRow_95 rfl rfl ?_
          refine ev_icmp_ge 104 100 dX7_carriedRow_97 rfl rfl (fun c78 => ?_) (fun c78 => ?_)
          · replace h := rx_if_t c78 h
            exact (hJ104_4 _ _ _ _ _ _ _ _ _ _ h).fewer (rx_le_s (rx_le_s (rx_le_n (rx_le_s (rx_le_s (rx_le_s (rx_le_s (rx_le_s (rx_le_s (rx_le_s (rx_le_s (rx_le_n (rx_le_s (rx_le_n rx_le_0))))))))))))))
          · replace h := rx_if_f c78 h
            refine ev_iconst (v := 1) 101 dX7_carriedRow_100 (by decide) rfl ?_
            refine ev_goto 105 dX7_carriedRow_101 rfl ?_
            exact (hJ105_3 _ _ _ _ _ _ _ _ _ _ _ h).fewer (rx_le_s (rx_le_s (rx_le_n (rx_le_s (rx_le_s (rx_le_s (rx_le_s (rx_le_s (rx_le_s (rx_le_s (rx_le_s (rx_le_n (rx_le_s (rx_le_n rx_le_0))))))))))))))
      refine ev_if_eq 70 65 dX7_carriedRow_62 rfl rfl (fun c79 => ?_) (fun c79 => ?_)
      · replace h := rx_if_t c79 h
        refine ev_aload_n (i := 0) 71 dX7_carriedRow_70 rfl rfl rfl ?_
        refine ev_iload 73 dX7_carriedRow_71 rfl rfl ?_
        refine ev_iload 75 dX7_carriedRow_73 rfl rfl ?_
        obtain ⟨x81, S80, g82, h⟩ := rx_bd_o h
        refine ev_cVi2 78 dX7_carriedRow_75 (em_X7_bentWord g82) mm_X7_bentWord mv_X7_bentWord lk_7_64 dk_80 (by decide) rfl (Nat.le_of_ble_eq_true rfl) (Nat.le_of_ble_eq_true rfl) rfl ?_
        exact (hJ78_2 _ _ _ _ _ _ _ _ _ _ h).fewer (rx_le_s (rx_le_s (rx_le_n (rx_le_s (rx_le_s (rx_le_s (rx_le_s (rx_le_s (rx_le_s (rx_le_s (rx_le_s (rx_le_n (rx_le_n (rx_le_n rx_le_0))))))))))))))
      · replace h := rx_if_f c79 h
        refine ev_iload 67 dX7_carriedRow_65 rfl rfl ?_
        refine ev_goto 78 dX7_carriedRow_67 rfl ?_
        exact (hJ78_2 _ _ _ _ _ _ _ _ _ _ h).fewer (rx_le_s (rx_le_s (rx_le_n (rx_le_s (rx_le_s (rx_le_s (rx_le_s (rx_le_s (rx_le_s (rx_le_s (rx_le_s (rx_le_n (rx_le_n (rx_le_n rx_le_0))))))))))))))

set_option maxHeartbeats 4000000 in
set_option maxRecDepth 20000 in
theorem em_X7_carriedRow_89 {d N : Nat} {x2 : Int32} {x3 : Int32} {x4 : Int32} {x5 : Int32} {x6 : Int32} {S0 : rx_S} {zr : Int32} {zS : rx_S} (h : f_X7_carriedRow 89 N x2 x3 x4 x5 x6 S0 = some (zr, zS)) : EM gC (d + 3) mX7_carriedRow [.ref 80, .ref 89, .int x2, .int x3, .int x4, .int x5, .int x6] S0 (rx_pi zr zS) := by
  unfold f_X7_carriedRow at h
  show EV gC (d + 3) mX7_carriedRow 0 [some (.ref 80), some (.ref 89), some (.int x2), some (.int x3), some (.int x4), some (.int x5), some (.int x6), none, none, none, none, none, none, none] [] S0 (rx_pi zr zS)
  refine ev_aload_n (i := 1) 1 dX7_carriedRow_0 rfl rfl rfl ?_
  refine ev_bipush (v := 36) 3 dX7_carriedRow_1 (by decide) rfl ?_
  refine ev_iload_n (i := 2) 4 dX7_carriedRow_3 rfl rfl rfl ?_
  refine ev_iadd 5 dX7_carriedRow_4 rfl ?_
  obtain ⟨g8, h⟩ := rx_gd_o h
  refine ex_iald _ 6 dX7_carriedRow_5 dk_89 g8 rfl rfl ?_
  obtain ⟨J23_1, eJ23_1, h⟩ := rx_let_o h
  have hJ23_1 : ∀ (x9 : Int32) (x10 : Int32) (x11 : Int32) (x12 : Int32) (x13 : Int32) (x14 : Int32) (S15 : rx_S), J23_1 x9 x10 x11 x12 x13 x14 S15 = some (zr, zS) → EV gC (d + 3) mX7_carriedRow 23 [some (.ref 80), some (.ref 89), some (.int x9), some (.int x10), some (.int x11), some (.int x12), some (.int x13), none, none, none, none, none, none, none] [.int x14] S15 (rx_pi zr zS) := by
    intro x9 x10 x11 x12 x13 x14 S15 h
    subst eJ23_1
    refine ev_istore (ls' := [some (.ref 80), some (.ref 89), some (.int x9), some (.int x10), some (.int x11), some (.int x12), some (.int x13), some (.int x14), none, none, none, none, none, none]) 25 dX7_carriedRow_23 (Nat.le_of_ble_eq_true rfl) rfl rfl ?_
    refine ev_aload_n (i := 0) 26 dX7_carriedRow_25 rfl rfl rfl ?_
    refine ev_aload_n (i := 1) 27 dX7_carriedRow_26 rfl rfl rfl ?_
    refine ev_iload_n (i := 2) 28 dX7_carriedRow_27 rfl rfl rfl ?_
    obtain ⟨x17, S16, g18, h⟩ := rx_bd_o h
    refine ev_cVv2 31 dX7_carriedRow_28 (em_X7_askToBend_89 g18) mm_X7_askToBend mv_X7_askToBend lk_7_61 dk_80 (by decide) rfl (Nat.le_of_ble_eq_true rfl) (Nat.le_of_ble_eq_true rfl) rfl ?_
    refine ev_iload_n (i := 3) 32 dX7_carriedRow_31 rfl rfl rfl ?_
    obtain ⟨x20, S19, g21, h⟩ := rx_bd_o h
    refine ev_cSi1 35 dX7_carriedRow_32 (em_X5_size g21) mm_X5_size ms_X5_size lk_7_71 (Nat.le_of_ble_eq_true rfl) (Nat.le_of_ble_eq_true rfl) rfl ?_
    refine ev_istore (ls' := [some (.ref 80), some (.ref 89), some (.int x9), some (.int x10), some (.int x11), some (.int x12), some (.int x13), some (.int x14), some (.int x20), none, none, none, none, none]) 37 dX7_carriedRow_35 (Nat.le_of_ble_eq_true rfl) rfl rfl ?_
    refine ev_iconst (v := 1) 38 dX7_carriedRow_37 (by decide) rfl ?_
    refine ev_istore (ls' := [some (.ref 80), some (.ref 89), some (.int x9), some (.int x10), some (.int x11), some (.int x12), some (.int x13), some (.int x14), some (.int x20), some (.int 1), none, none, none, none]) 40 dX7_carriedRow_38 (Nat.le_of_ble_eq_true rfl) rfl rfl ?_
    refine ev_iconst (v := 0) 41 dX7_carriedRow_40 (by decide) rfl ?_
    refine ev_istore (ls' := [some (.ref 80), some (.ref 89), some (.int x9), some (.int x10), some (.int x11), some (.int x12), some (.int x13), some (.int x14), some (.int x20), some (.int 1), some (.int 0), none, none, none]) 43 dX7_carriedRow_41 (Nat.le_of_ble_eq_true rfl) rfl rfl ?_
    exact (em_X7_carriedRow_L43_89 _ _ _ _ _ _ _ _ _ _ h).fewer (rx_le_s (rx_le_s (rx_le_n (rx_le_s (rx_le_s (rx_le_s (rx_le_s (rx_le_s (rx_le_s (rx_le_s (rx_le_s (rx_le_n (rx_le_n (rx_le_n rx_le_0))))))))))))))
  obtain ⟨J22_5, eJ22_5, h⟩ := rx_let_o h
  have hJ22_5 : ∀ (x83 : Int32) (x84 : Int32) (x85 : Int32) (x86 : Int32) (x87 : Int32) (S88 : rx_S), J22_5 x83 x84 x85 x86 x87 S88 = some (zr, zS) → EV gC (d + 3) mX7_carriedRow 22 [some (.ref 80), some (.ref 89), some (.int x83), some (.int x84), some (.int x85), some (.int x86), some (.int x87), none, none, none, none, none, none, none] [] S88 (rx_pi zr zS) := by
    intro x83 x84 x85 x86 x87 S88 h
    subst eJ22_5
    refine ev_iconst (v := 0) 23 dX7_carriedRow_22 (by decide) rfl ?_
    exact (hJ23_1 _ _ _ _ _ _ _ h).fewer (rx_le_s (rx_le_s (rx_le_s (rx_le_s (rx_le_s (rx_le_s (rx_le_s (rx_le_n (rx_le_n (rx_le_n (rx_le_n (rx_le_n (rx_le_n (rx_le_n rx_le_0))))))))))))))
  refine ev_if_eq 22 9 dX7_carriedRow_6 rfl rfl (fun c89 => ?_) (fun c89 => ?_)
  · replace h := rx_if_t c89 h
    exact (hJ22_5 _ _ _ _ _ _ h).fewer (rx_le_s (rx_le_s (rx_le_s (rx_le_s (rx_le_s (rx_le_s (rx_le_s (rx_le_n (rx_le_n (rx_le_n (rx_le_n (rx_le_n (rx_le_n (rx_le_n rx_le_0))))))))))))))
  · replace h := rx_if_f c89 h
    refine ev_aload_n (i := 0) 10 dX7_carriedRow_9 rfl rfl rfl ?_
    refine ev_aload_n (i := 1) 11 dX7_carriedRow_10 rfl rfl rfl ?_
    refine ev_iload_n (i := 2) 12 dX7_carriedRow_11 rfl rfl rfl ?_
    obtain ⟨x91, S90, g92, h⟩ := rx_bd_o h
    refine ev_cVi2 15 dX7_carriedRow_12 (em_X7_isDaring_89 g92) mm_X7_isDaring mv_X7_isDaring lk_7_57 dk_80 (by decide) rfl (Nat.le_of_ble_eq_true rfl) (Nat.le_of_ble_eq_true rfl) rfl ?_
    refine ev_if_ne 22 18 dX7_carriedRow_15 rfl rfl (fun c93 => ?_) (fun c93 => ?_)
    · replace h := rx_if_f c93 h
      exact (hJ22_5 _ _ _ _ _ _ h).fewer (rx_le_s (rx_le_s (rx_le_s (rx_le_s (rx_le_s (rx_le_s (rx_le_s (rx_le_n (rx_le_n (rx_le_n (rx_le_n (rx_le_n (rx_le_n (rx_le_n rx_le_0))))))))))))))
    · replace h := rx_if_t c93 h
      refine ev_iconst (v := 1) 19 dX7_carriedRow_18 (by decide) rfl ?_
      refine ev_goto 23 dX7_carriedRow_19 rfl ?_
      exact (hJ23_1 _ _ _ _ _ _ _ h).fewer (rx_le_s (rx_le_s (rx_le_s (rx_le_s (rx_le_s (rx_le_s (rx_le_s (rx_le_n (rx_le_n (rx_le_n (rx_le_n (rx_le_n (rx_le_n (rx_le_n rx_le_0))))))))))))))

def f_X7_newLove (k : Nat) (N : Nat) (x2 : Int32) (x3 : Int32) (x4 : Int32) (S0 : rx_S) : Option (Int32 × rx_S) := rx_bd (f_X7_askAboutThird k N x4 S0) (fun x7 S6 => rx_gd ((4 : Int32) + x3) 48 (rx_bd (f_X2_let 3 2 (S6.1 k (Int32.toNatClampNeg ((4 : Int32) + x3))) S6) (fun x11 S10 => rx_bd (f_X2_let 3 5 x2 S10) (fun x14 S13 => rx_bd (f_X2_answer 3 N 5 S13) (fun x17 S16 => rx_bd (f_X10_within x17 0 9 S16) (fun x20 S19 => some (x20, S19)))))))
set_option maxHeartbeats 4000000 in
set_option maxRecDepth 20000 in
theorem em_X7_newLove_32 {d N : Nat} {x2 : Int32} {x3 : Int32} {x4 : Int32} {S0 : rx_S} {zr : Int32} {zS : rx_S} (h : f_X7_newLove 32 N x2 x3 x4 S0 = some (zr, zS)) : EM gC (d + 2) mX7_newLove [.ref 80, .ref 32, .int x2, .int x3, .int x4] S0 (rx_pi zr zS) := by
  unfold f_X7_newLove at h
  show EV gC (d + 2) mX7_newLove 0 [some (.ref 80), some (.ref 32), some (.int x2), some (.int x3), some (.int x4)] [] S0 (rx_pi zr zS)
  refine ev_aload_n (i := 0) 1 dX7_newLove_0 rfl rfl rfl ?_
  refine ev_aload_n (i := 1) 2 dX7_newLove_1 rfl rfl rfl ?_
  refine ev_iload 4 dX7_newLove_2 rfl rfl ?_
  obtain ⟨x7, S6, g8, h⟩ := rx_bd_o h
  refine ev_cVv2 7 dX7_newLove_4 (em_X7_askAboutThird_32 g8) mm_X7_askAboutThird mv_X7_askAboutThird lk_7_49 dk_80 (by decide) rfl (Nat.le_of_ble_eq_true rfl) (Nat.le_of_ble_eq_true rfl) rfl ?_
  refine ev_aload_n (i := 0) 8 dX7_newLove_7 rfl rfl rfl ?_
  refine ev_get (v := .ref 3) 11 dX7_newLove_8 dk_80 fl_7_21 (by decide) rfl rfl rfl ?_
  refine ev_iconst (v := 2) 12 dX7_newLove_11 (by decide) rfl ?_
  refine ev_aload_n (i := 1) 13 dX7_newLove_12 rfl rfl rfl ?_
  refine ev_iconst (v := 4) 14 dX7_newLove_13 (by decide) rfl ?_
  refine ev_iload_n (i := 3) 15 dX7_newLove_14 rfl rfl rfl ?_
  refine ev_iadd 16 dX7_newLove_15 rfl ?_
  obtain ⟨g9, h⟩ := rx_gd_o h
  refine ex_iald _ 17 dX7_newLove_16 dk_32 g9 rfl rfl ?_
  obtain ⟨x11, S10, g12, h⟩ := rx_bd_o h
  refine ev_cVv2 20 dX7_newLove_17 (em_X2_let_3 g12) mm_X2_let mv_X2_let lk_7_28 dk_3 (by decide) rfl (Nat.le_of_ble_eq_true rfl) (Nat.le_of_ble_eq_true rfl) rfl ?_
  refine ev_aload_n (i := 0) 21 dX7_newLove_20 rfl rfl rfl ?_
  refine ev_get (v := .ref 3) 24 dX7_newLove_21 dk_80 fl_7_21 (by decide) rfl rfl rfl ?_
  refine ev_iconst (v := 5) 25 dX7_newLove_24 (by decide) rfl ?_
  refine ev_iload_n (i := 2) 26 dX7_newLove_25 rfl rfl rfl ?_
  obtain ⟨x14, S13, g15, h⟩ := rx_bd_o h
  refine ev_cVv2 29 dX7_newLove_26 (em_X2_let_3 g15) mm_X2_let mv_X2_let lk_7_28 dk_3 (by decide) rfl (Nat.le_of_ble_eq_true rfl) (Nat.le_of_ble_eq_true rfl) rfl ?_
  refine ev_aload_n (i := 0) 30 dX7_newLove_29 rfl rfl rfl ?_
  refine ev_get (v := .ref 3) 33 dX7_newLove_30 dk_80 fl_7_21 (by decide) rfl rfl rfl ?_
  refine ev_iconst (v := 5) 34 dX7_newLove_33 (by decide) rfl ?_
  obtain ⟨x17, S16, g18, h⟩ := rx_bd_o h
  refine ev_cVi1 37 dX7_newLove_34 (em_X2_answer_3 g18) mm_X2_answer mv_X2_answer lk_7_32 dk_3 (by decide) rfl (Nat.le_of_ble_eq_true rfl) (Nat.le_of_ble_eq_true rfl) rfl ?_
  refine ev_iconst (v := 0) 38 dX7_newLove_37 (by decide) rfl ?_
  refine ev_bipush (v := 9) 40 dX7_newLove_38 (by decide) rfl ?_
  obtain ⟨x20, S19, g21, h⟩ := rx_bd_o h
  refine ev_cSi3 43 dX7_newLove_40 (em_X10_within g21) mm_X10_within ms_X10_within lk_7_36 (Nat.le_of_ble_eq_true rfl) (Nat.le_of_ble_eq_true rfl) rfl ?_
  exact ev_ireturn dX7_newLove_43 rfl (rx_ret_i h)

set_option maxHeartbeats 4000000 in
set_option maxRecDepth 20000 in
theorem em_X7_newLove_89 {d N : Nat} {x2 : Int32} {x3 : Int32} {x4 : Int32} {S0 : rx_S} {zr : Int32} {zS : rx_S} (h : f_X7_newLove 89 N x2 x3 x4 S0 = some (zr, zS)) : EM gC (d + 2) mX7_newLove [.ref 80, .ref 89, .int x2, .int x3, .int x4] S0 (rx_pi zr zS) := by
  unfold f_X7_newLove at h
  show EV gC (d + 2) mX7_newLove 0 [some (.ref 80), some (.ref 89), some (.int x2), some (.int x3), some (.int x4)] [] S0 (rx_pi zr zS)
  refine ev_aload_n (i := 0) 1 dX7_newLove_0 rfl rfl rfl ?_
  refine ev_aload_n (i := 1) 2 dX7_newLove_1 rfl rfl rfl ?_
  refine ev_iload 4 dX7_newLove_2 rfl rfl ?_
  obtain ⟨x7, S6, g8, h⟩ := rx_bd_o h
  refine ev_cVv2 7 dX7_newLove_4 (em_X7_askAboutThird_89 g8) mm_X7_askAboutThird mv_X7_askAboutThird lk_7_49 dk_80 (by decide) rfl (Nat.le_of_ble_eq_true rfl) (Nat.le_of_ble_eq_true rfl) rfl ?_
  refine ev_aload_n (i := 0) 8 dX7_newLove_7 rfl rfl rfl ?_
  refine ev_get (v := .ref 3) 11 dX7_newLove_8 dk_80 fl_7_21 (by decide) rfl rfl rfl ?_
  refine ev_iconst (v := 2) 12 dX7_newLove_11 (by decide) rfl ?_
  refine ev_aload_n (i := 1) 13 dX7_newLove_12 rfl rfl rfl ?_
  refine ev_iconst (v := 4) 14 dX7_newLove_13 (by decide) rfl ?_
  refine ev_iload_n (i := 3) 15 dX7_newLove_14 rfl rfl rfl ?_
  refine ev_iadd 16 dX7_newLove_15 rfl ?_
  obtain ⟨g9, h⟩ := rx_gd_o h
  refine ex_iald _ 17 dX7_newLove_16 dk_89 g9 rfl rfl ?_
  obtain ⟨x11, S10, g12, h⟩ := rx_bd_o h
  refine ev_cVv2 20 dX7_newLove_17 (em_X2_let_3 g12) mm_X2_let mv_X2_let lk_7_28 dk_3 (by decide) rfl (Nat.le_of_ble_eq_true rfl) (Nat.le_of_ble_eq_true rfl) rfl ?_
  refine ev_aload_n (i := 0) 21 dX7_newLove_20 rfl rfl rfl ?_
  refine ev_get (v := .ref 3) 24 dX7_newLove_21 dk_80 fl_7_21 (by decide) rfl rfl rfl ?_
  refine ev_iconst (v := 5) 25 dX7_newLove_24 (by decide) rfl ?_
  refine ev_iload_n (i := 2) 26 dX7_newLove_25 rfl rfl rfl ?_
  obtain ⟨x14, S13, g15, h⟩ := rx_bd_o h
  refine ev_cVv2 29 dX7_newLove_26 (em_X2_let_3 g15) mm_X2_let mv_X2_let lk_7_28 dk_3 (by decide) rfl (Nat.le_of_ble_eq_true rfl) (Nat.le_of_ble_eq_true rfl) rfl ?_
  refine ev_aload_n (i := 0) 30 dX7_newLove_29 rfl rfl rfl ?_
  refine ev_get (v := .ref 3) 33 dX7_newLove_30 dk_80 fl_7_21 (by decide) rfl rfl rfl ?_
  refine ev_iconst (v := 5) 34 dX7_newLove_33 (by decide) rfl ?_
  obtain ⟨x17, S16, g18, h⟩ := rx_bd_o h
  refine ev_cVi1 37 dX7_newLove_34 (em_X2_answer_3 g18) mm_X2_answer mv_X2_answer lk_7_32 dk_3 (by decide) rfl (Nat.le_of_ble_eq_true rfl) (Nat.le_of_ble_eq_true rfl) rfl ?_
  refine ev_iconst (v := 0) 38 dX7_newLove_37 (by decide) rfl ?_
  refine ev_bipush (v := 9) 40 dX7_newLove_38 (by decide) rfl ?_
  obtain ⟨x20, S19, g21, h⟩ := rx_bd_o h
  refine ev_cSi3 43 dX7_newLove_40 (em_X10_within g21) mm_X10_within ms_X10_within lk_7_36 (Nat.le_of_ble_eq_true rfl) (Nat.le_of_ble_eq_true rfl) rfl ?_
  exact ev_ireturn dX7_newLove_43 rfl (rx_ret_i h)

def f_X7_moodBehind_L35 (k : Nat) (N : Nat) : Nat → Int32 → Int32 → Int32 → Int32 → rx_S → Option (Int32 × rx_S)
  | 0, _, _, _, _, _ => none
  | n + 1, x16, x17, x18, x19, S20 => if x17 ≤ x19 then (some (x18, S20)) else (rx_bd (f_X5_wordAt x16 x17 x19 S20) (fun x23 S22 => rx_bd (f_X2_let 3 0 x23 S22) (fun x26 S25 => rx_bd (f_X2_let 3 1 x19 S25) (fun x29 S28 => rx_bd (f_X2_let 3 2 x18 S28) (fun x32 S31 => rx_bd (f_X2_answer 3 N 4 S31) (fun x35 S34 => rx_bd (f_X10_within x35 (-9) 9 S34) (fun x38 S37 => rx_bd (f_X10_within (x18 + x38) 0 99 S37) (fun x41 S40 => rx_let (x19 + 1) (fun x43 => f_X7_moodBehind_L35 k N n x16 x17 x41 x43 S40)))))))))
def f_X7_moodBehind (k : Nat) (N : Nat) (x2 : Int32) (x3 : Int32) (S0 : rx_S) : Option (Int32 × rx_S) := rx_bd (f_X5_size N x3 S0) (fun x6 S5 => rx_gd ((4 : Int32) + x2) 48 (rx_let (S5.1 k (Int32.toNatClampNeg ((4 : Int32) + x2))) (fun x9 => rx_bd (f_X2_askIn 3 N (S5.1 k 0) S5) (fun x11 S10 => rx_bd (f_X2_let 3 5 x2 S10) (fun x14 S13 => f_X7_moodBehind_L35 k N N x3 x6 x9 0 S13)))))
set_option maxHeartbeats 4000000 in
set_option maxRecDepth 20000 in
theorem em_X7_moodBehind_L35_32 {d N : Nat} {zr : Int32} {zS : rx_S} : ∀ (n : Nat) (x16 : Int32) (x17 : Int32) (x18 : Int32) (x19 : Int32) (S20 : rx_S), f_X7_moodBehind_L35 32 N n x16 x17 x18 x19 S20 = some (zr, zS) → EV gC (d + 2) mX7_moodBehind 35 [some (.ref 80), some (.ref 32), none, some (.int x16), some (.int x17), some (.int x18), some (.int x19)] [] S20 (rx_pi zr zS) := by
  intro n
  induction n with
  | zero => intro x16 x17 x18 x19 S20 h; cases h
  | succ n ih =>
    intro x16 x17 x18 x19 S20 h
    rw [f_X7_moodBehind_L35] at h
    refine ev_iload 37 dX7_moodBehind_35 rfl rfl ?_
    refine ev_iload 39 dX7_moodBehind_37 rfl rfl ?_
    refine ev_icmp_ge 110 42 dX7_moodBehind_39 rfl rfl (fun c21 => ?_) (fun c21 => ?_)
    · replace h := rx_if_t c21 h
      refine ev_iload 112 dX7_moodBehind_110 rfl rfl ?_
      exact ev_ireturn dX7_moodBehind_112 rfl (rx_ret_i h)
    · replace h := rx_if_f c21 h
      refine ev_aload_n (i := 0) 43 dX7_moodBehind_42 rfl rfl rfl ?_
      refine ev_get (v := .ref 3) 46 dX7_moodBehind_43 dk_80 fl_7_21 (by decide) rfl rfl rfl ?_
      refine ev_iconst (v := 0) 47 dX7_moodBehind_46 (by decide) rfl ?_
      refine ev_iload_n (i := 3) 48 dX7_moodBehind_47 rfl rfl rfl ?_
      refine ev_iload 50 dX7_moodBehind_48 rfl rfl ?_
      refine ev_iload 52 dX7_moodBehind_50 rfl rfl ?_
      obtain ⟨x23, S22, g24, h⟩ := rx_bd_o h
      refine ev_cSi3 55 dX7_moodBehind_52 (em_X5_wordAt g24) mm_X5_wordAt ms_X5_wordAt lk_7_74 (Nat.le_of_ble_eq_true rfl) (Nat.le_of_ble_eq_true rfl) rfl ?_
      obtain ⟨x26, S25, g27, h⟩ := rx_bd_o h
      refine ev_cVv2 58 dX7_moodBehind_55 (em_X2_let_3 g27) mm_X2_let mv_X2_let lk_7_28 dk_3 (by decide) rfl (Nat.le_of_ble_eq_true rfl) (Nat.le_of_ble_eq_true rfl) rfl ?_
      refine ev_aload_n (i := 0) 59 dX7_moodBehind_58 rfl rfl rfl ?_
      refine ev_get (v := .ref 3) 62 dX7_moodBehind_59 dk_80 fl_7_21 (by decide) rfl rfl rfl ?_
      refine ev_iconst (v := 1) 63 dX7_moodBehind_62 (by decide) rfl ?_
      refine ev_iload 65 dX7_moodBehind_63 rfl rfl ?_
      obtain ⟨x29, S28, g30, h⟩ := rx_bd_o h
      refine ev_cVv2 68 dX7_moodBehind_65 (em_X2_let_3 g30) mm_X2_let mv_X2_let lk_7_28 dk_3 (by decide) rfl (Nat.le_of_ble_eq_true rfl) (Nat.le_of_ble_eq_true rfl) rfl ?_
      refine ev_aload_n (i := 0) 69 dX7_moodBehind_68 rfl rfl rfl ?_
      refine ev_get (v := .ref 3) 72 dX7_moodBehind_69 dk_80 fl_7_21 (by decide) rfl rfl rfl ?_
      refine ev_iconst (v := 2) 73 dX7_moodBehind_72 (by decide) rfl ?_
      refine ev_iload 75 dX7_moodBehind_73 rfl rfl ?_
      obtain ⟨x32, S31, g33, h⟩ := rx_bd_o h
      refine ev_cVv2 78 dX7_moodBehind_75 (em_X2_let_3 g33) mm_X2_let mv_X2_let lk_7_28 dk_3 (by decide) rfl (Nat.le_of_ble_eq_true rfl) (Nat.le_of_ble_eq_true rfl) rfl ?_
      refine ev_iload 80 dX7_moodBehind_78 rfl rfl ?_
      refine ev_aload_n (i := 0) 81 dX7_moodBehind_80 rfl rfl rfl ?_
      refine ev_get (v := .ref 3) 84 dX7_moodBehind_81 dk_80 fl_7_21 (by decide) rfl rfl rfl ?_
      refine ev_iconst (v := 4) 85 dX7_moodBehind_84 (by decide) rfl ?_
      obtain ⟨x35, S34, g36, h⟩ := rx_bd_o h
      refine ev_cVi1 88 dX7_moodBehind_85 (em_X2_answer_3 g36) mm_X2_answer mv_X2_answer lk_7_32 dk_3 (by decide) rfl (Nat.le_of_ble_eq_true rfl) (Nat.le_of_ble_eq_true rfl) rfl ?_
      refine ev_bipush (v := (-9)) 90 dX7_moodBehind_88 (by decide) rfl ?_
      refine ev_bipush (v := 9) 92 dX7_moodBehind_90 (by decide) rfl ?_
      obtain ⟨x38, S37, g39, h⟩ := rx_bd_o h
      refine ev_cSi3 95 dX7_moodBehind_92 (em_X10_within g39) mm_X10_within ms_X10_within lk_7_36 (Nat.le_of_ble_eq_true rfl) (Nat.le_of_ble_eq_true rfl) rfl ?_
      refine ev_iadd 96 dX7_moodBehind_95 rfl ?_
      refine ev_iconst (v := 0) 97 dX7_moodBehind_96 (by decide) rfl ?_
      refine ev_bipush (v := 99) 99 dX7_moodBehind_97 (by decide) rfl ?_
      obtain ⟨x41, S40, g42, h⟩ := rx_bd_o h
      refine ev_cSi3 102 dX7_moodBehind_99 (em_X10_within g42) mm_X10_within ms_X10_within lk_7_36 (Nat.le_of_ble_eq_true rfl) (Nat.le_of_ble_eq_true rfl) rfl ?_
      refine ev_istore (ls' := [some (.ref 80), some (.ref 32), none, some (.int x16), some (.int x17), some (.int x41), some (.int x19)]) 104 dX7_moodBehind_102 (Nat.le_of_ble_eq_true rfl) rfl rfl ?_
      obtain ⟨x43, ex43, h⟩ := rx_let_o h
      refine ev_iinc (v := x43) (ls' := [some (.ref 80), some (.ref 32), none, some (.int x16), some (.int x17), some (.int x41), some (.int x43)]) 107 dX7_moodBehind_104 rfl (by rw [ex43]; rfl) (Nat.le_of_ble_eq_true rfl) rfl rfl ?_
      refine ev_goto 35 dX7_moodBehind_107 rfl ?_
      exact (ih _ _ _ _ _ h).fewer (rx_le_s (rx_le_s (rx_le_n (rx_le_s (rx_le_s (rx_le_s (rx_le_s rx_le_0)))))))

set_option maxHeartbeats 4000000 in
set_option maxRecDepth 20000 in
theorem em_X7_moodBehind_32 {d N : Nat} {x2 : Int32} {x3 : Int32} {S0 : rx_S} {zr : Int32} {zS : rx_S} (h : f_X7_moodBehind 32 N x2 x3 S0 = some (zr, zS)) : EM gC (d + 2) mX7_moodBehind [.ref 80, .ref 32, .int x2, .int x3] S0 (rx_pi zr zS) := by
  unfold f_X7_moodBehind at h
  show EV gC (d + 2) mX7_moodBehind 0 [some (.ref 80), some (.ref 32), some (.int x2), some (.int x3), none, none, none] [] S0 (rx_pi zr zS)
  refine ev_iload_n (i := 3) 1 dX7_moodBehind_0 rfl rfl rfl ?_
  obtain ⟨x6, S5, g7, h⟩ := rx_bd_o h
  refine ev_cSi1 4 dX7_moodBehind_1 (em_X5_size g7) mm_X5_size ms_X5_size lk_7_71 (Nat.le_of_ble_eq_true rfl) (Nat.le_of_ble_eq_true rfl) rfl ?_
  refine ev_istore (ls' := [some (.ref 80), some (.ref 32), some (.int x2), some (.int x3), some (.int x6), none, none]) 6 dX7_moodBehind_4 (Nat.le_of_ble_eq_true rfl) rfl rfl ?_
  refine ev_aload_n (i := 1) 7 dX7_moodBehind_6 rfl rfl rfl ?_
  refine ev_iconst (v := 4) 8 dX7_moodBehind_7 (by decide) rfl ?_
  refine ev_iload_n (i := 2) 9 dX7_moodBehind_8 rfl rfl rfl ?_
  refine ev_iadd 10 dX7_moodBehind_9 rfl ?_
  obtain ⟨g8, h⟩ := rx_gd_o h
  refine ex_iald _ 11 dX7_moodBehind_10 dk_32 g8 rfl rfl ?_
  obtain ⟨x9, ex9, h⟩ := rx_let_o h
  refine ev_nm ex9 ?_
  refine ev_istore (ls' := [some (.ref 80), some (.ref 32), some (.int x2), some (.int x3), some (.int x6), some (.int x9), none]) 13 dX7_moodBehind_11 (Nat.le_of_ble_eq_true rfl) rfl rfl ?_
  refine ev_aload_n (i := 0) 14 dX7_moodBehind_13 rfl rfl rfl ?_
  refine ev_get (v := .ref 3) 17 dX7_moodBehind_14 dk_80 fl_7_21 (by decide) rfl rfl rfl ?_
  refine ev_aload_n (i := 1) 18 dX7_moodBehind_17 rfl rfl rfl ?_
  refine ev_iconst (v := 0) 19 dX7_moodBehind_18 (by decide) rfl ?_
  refine ex_iald 0 20 dX7_moodBehind_19 dk_32 (rx_vin (by decide)) (by decide) rfl ?_
  obtain ⟨x11, S10, g12, h⟩ := rx_bd_o h
  refine ev_cVv1 23 dX7_moodBehind_20 (em_X2_askIn_3 g12) mm_X2_askIn mv_X2_askIn lk_7_22 dk_3 (by decide) rfl (Nat.le_of_ble_eq_true rfl) (Nat.le_of_ble_eq_true rfl) rfl ?_
  refine ev_aload_n (i := 0) 24 dX7_moodBehind_23 rfl rfl rfl ?_
  refine ev_get (v := .ref 3) 27 dX7_moodBehind_24 dk_80 fl_7_21 (by decide) rfl rfl rfl ?_
  refine ev_iconst (v := 5) 28 dX7_moodBehind_27 (by decide) rfl ?_
  refine ev_iload_n (i := 2) 29 dX7_moodBehind_28 rfl rfl rfl ?_
  obtain ⟨x14, S13, g15, h⟩ := rx_bd_o h
  refine ev_cVv2 32 dX7_moodBehind_29 (em_X2_let_3 g15) mm_X2_let mv_X2_let lk_7_28 dk_3 (by decide) rfl (Nat.le_of_ble_eq_true rfl) (Nat.le_of_ble_eq_true rfl) rfl ?_
  refine ev_iconst (v := 0) 33 dX7_moodBehind_32 (by decide) rfl ?_
  refine ev_istore (ls' := [some (.ref 80), some (.ref 32), some (.int x2), some (.int x3), some (.int x6), some (.int x9), some (.int 0)]) 35 dX7_moodBehind_33 (Nat.le_of_ble_eq_true rfl) rfl rfl ?_
  exact (em_X7_moodBehind_L35_32 _ _ _ _ _ _ h).fewer (rx_le_s (rx_le_s (rx_le_n (rx_le_s (rx_le_s (rx_le_s (rx_le_s rx_le_0)))))))

set_option maxHeartbeats 4000000 in
set_option maxRecDepth 20000 in
theorem em_X7_moodBehind_L35_89 {d N : Nat} {zr : Int32} {zS : rx_S} : ∀ (n : Nat) (x16 : Int32) (x17 : Int32) (x18 : Int32) (x19 : Int32) (S20 : rx_S), f_X7_moodBehind_L35 89 N n x16 x17 x18 x19 S20 = some (zr, zS) → EV gC (d + 2) mX7_moodBehind 35 [some (.ref 80), some (.ref 89), none, some (.int x16), some (.int x17), some (.int x18), some (.int x19)] [] S20 (rx_pi zr zS) := by
  intro n
  induction n with
  | zero => intro x16 x17 x18 x19 S20 h; cases h
  | succ n ih =>
    intro x16 x17 x18 x19 S20 h
    rw [f_X7_moodBehind_L35] at h
    refine ev_iload 37 dX7_moodBehind_35 rfl rfl ?_
    refine ev_iload 39 dX7_moodBehind_37 rfl rfl ?_
    refine ev_icmp_ge 110 42 dX7_moodBehind_39 rfl rfl (fun c21 => ?_) (fun c21 => ?_)
    · replace h := rx_if_t c21 h
      refine ev_iload 112 dX7_moodBehind_110 rfl rfl ?_
      exact ev_ireturn dX7_moodBehind_112 rfl (rx_ret_i h)
    · replace h := rx_if_f c21 h
      refine ev_aload_n (i := 0) 43 dX7_moodBehind_42 rfl rfl rfl ?_
      refine ev_get (v := .ref 3) 46 dX7_moodBehind_43 dk_80 fl_7_21 (by decide) rfl rfl rfl ?_
      refine ev_iconst (v := 0) 47 dX7_moodBehind_46 (by decide) rfl ?_
      refine ev_iload_n (i := 3) 48 dX7_moodBehind_47 rfl rfl rfl ?_
      refine ev_iload 50 dX7_moodBehind_48 rfl rfl ?_
      refine ev_iload 52 dX7_moodBehind_50 rfl rfl ?_
      obtain ⟨x23, S22, g24, h⟩ := rx_bd_o h
      refine ev_cSi3 55 dX7_moodBehind_52 (em_X5_wordAt g24) mm_X5_wordAt ms_X5_wordAt lk_7_74 (Nat.le_of_ble_eq_true rfl) (Nat.le_of_ble_eq_true rfl) rfl ?_
      obtain ⟨x26, S25, g27, h⟩ := rx_bd_o h
      refine ev_cVv2 58 dX7_moodBehind_55 (em_X2_let_3 g27) mm_X2_let mv_X2_let lk_7_28 dk_3 (by decide) rfl (Nat.le_of_ble_eq_true rfl) (Nat.le_of_ble_eq_true rfl) rfl ?_
      refine ev_aload_n (i := 0) 59 dX7_moodBehind_58 rfl rfl rfl ?_
      refine ev_get (v := .ref 3) 62 dX7_moodBehind_59 dk_80 fl_7_21 (by decide) rfl rfl rfl ?_
      refine ev_iconst (v := 1) 63 dX7_moodBehind_62 (by decide) rfl ?_
      refine ev_iload 65 dX7_moodBehind_63 rfl rfl ?_
      obtain ⟨x29, S28, g30, h⟩ := rx_bd_o h
      refine ev_cVv2 68 dX7_moodBehind_65 (em_X2_let_3 g30) mm_X2_let mv_X2_let lk_7_28 dk_3 (by decide) rfl (Nat.le_of_ble_eq_true rfl) (Nat.le_of_ble_eq_true rfl) rfl ?_
      refine ev_aload_n (i := 0) 69 dX7_moodBehind_68 rfl rfl rfl ?_
      refine ev_get (v := .ref 3) 72 dX7_moodBehind_69 dk_80 fl_7_21 (by decide) rfl rfl rfl ?_
      refine ev_iconst (v := 2) 73 dX7_moodBehind_72 (by decide) rfl ?_
      refine ev_iload 75 dX7_moodBehind_73 rfl rfl ?_
      obtain ⟨x32, S31, g33, h⟩ := rx_bd_o h
      refine ev_cVv2 78 dX7_moodBehind_75 (em_X2_let_3 g33) mm_X2_let mv_X2_let lk_7_28 dk_3 (by decide) rfl (Nat.le_of_ble_eq_true rfl) (Nat.le_of_ble_eq_true rfl) rfl ?_
      refine ev_iload 80 dX7_moodBehind_78 rfl rfl ?_
      refine ev_aload_n (i := 0) 81 dX7_moodBehind_80 rfl rfl rfl ?_
      refine ev_get (v := .ref 3) 84 dX7_moodBehind_81 dk_80 fl_7_21 (by decide) rfl rfl rfl ?_
      refine ev_iconst (v := 4) 85 dX7_moodBehind_84 (by decide) rfl ?_
      obtain ⟨x35, S34, g36, h⟩ := rx_bd_o h
      refine ev_cVi1 88 dX7_moodBehind_85 (em_X2_answer_3 g36) mm_X2_answer mv_X2_answer lk_7_32 dk_3 (by decide) rfl (Nat.le_of_ble_eq_true rfl) (Nat.le_of_ble_eq_true rfl) rfl ?_
      refine ev_bipush (v := (-9)) 90 dX7_moodBehind_88 (by decide) rfl ?_
      refine ev_bipush (v := 9) 92 dX7_moodBehind_90 (by decide) rfl ?_
      obtain ⟨x38, S37, g39, h⟩ := rx_bd_o h
      refine ev_cSi3 95 dX7_moodBehind_92 (em_X10_within g39) mm_X10_within ms_X10_within lk_7_36 (Nat.le_of_ble_eq_true rfl) (Nat.le_of_ble_eq_true rfl) rfl ?_
      refine ev_iadd 96 dX7_moodBehind_95 rfl ?_
      refine ev_iconst (v := 0) 97 dX7_moodBehind_96 (by decide) rfl ?_
      refine ev_bipush (v := 99) 99 dX7_moodBehind_97 (by decide) rfl ?_
      obtain ⟨x41, S40, g42, h⟩ := rx_bd_o h
      refine ev_cSi3 102 dX7_moodBehind_99 (em_X10_within g42) mm_X10_within ms_X10_within lk_7_36 (Nat.le_of_ble_eq_true rfl) (Nat.le_of_ble_eq_true rfl) rfl ?_
      refine ev_istore (ls' := [some (.ref 80), some (.ref 89), none, some (.int x16), some (.int x17), some (.int x41), some (.int x19)]) 104 dX7_moodBehind_102 (Nat.le_of_ble_eq_true rfl) rfl rfl ?_
      obtain ⟨x43, ex43, h⟩ := rx_let_o h
      refine ev_iinc (v := x43) (ls' := [some (.ref 80), some (.ref 89), none, some (.int x16), some (.int x17), some (.int x41), some (.int x43)]) 107 dX7_moodBehind_104 rfl (by rw [ex43]; rfl) (Nat.le_of_ble_eq_true rfl) rfl rfl ?_
      refine ev_goto 35 dX7_moodBehind_107 rfl ?_
      exact (ih _ _ _ _ _ h).fewer (rx_le_s (rx_le_s (rx_le_n (rx_le_s (rx_le_s (rx_le_s (rx_le_s rx_le_0)))))))

set_option maxHeartbeats 4000000 in
set_option maxRecDepth 20000 in
theorem em_X7_moodBehind_89 {d N : Nat} {x2 : Int32} {x3 : Int32} {S0 : rx_S} {zr : Int32} {zS : rx_S} (h : f_X7_moodBehind 89 N x2 x3 S0 = some (zr, zS)) : EM gC (d + 2) mX7_moodBehind [.ref 80, .ref 89, .int x2, .int x3] S0 (rx_pi zr zS) := by
  unfold f_X7_moodBehind at h
  show EV gC (d + 2) mX7_moodBehind 0 [some (.ref 80), some (.ref 89), some (.int x2), some (.int x3), none, none, none] [] S0 (rx_pi zr zS)
  refine ev_iload_n (i := 3) 1 dX7_moodBehind_0 rfl rfl rfl ?_
  obtain ⟨x6, S5, g7, h⟩ := rx_bd_o h
  refine ev_cSi1 4 dX7_moodBehind_1 (em_X5_size g7) mm_X5_size ms_X5_size lk_7_71 (Nat.le_of_ble_eq_true rfl) (Nat.le_of_ble_eq_true rfl) rfl ?_
  refine ev_istore (ls' := [some (.ref 80), some (.ref 89), some (.int x2), some (.int x3), some (.int x6), none, none]) 6 dX7_moodBehind_4 (Nat.le_of_ble_eq_true rfl) rfl rfl ?_
  refine ev_aload_n (i := 1) 7 dX7_moodBehind_6 rfl rfl rfl ?_
  refine ev_iconst (v := 4) 8 dX7_moodBehind_7 (by decide) rfl ?_
  refine ev_iload_n (i := 2) 9 dX7_moodBehind_8 rfl rfl rfl ?_
  refine ev_iadd 10 dX7_moodBehind_9 rfl ?_
  obtain ⟨g8, h⟩ := rx_gd_o h
  refine ex_iald _ 11 dX7_moodBehind_10 dk_89 g8 rfl rfl ?_
  obtain ⟨x9, ex9, h⟩ := rx_let_o h
  refine ev_nm ex9 ?_
  refine ev_istore (ls' := [some (.ref 80), some (.ref 89), some (.int x2), some (.int x3), some (.int x6), some (.int x9), none]) 13 dX7_moodBehind_11 (Nat.le_of_ble_eq_true rfl) rfl rfl ?_
  refine ev_aload_n (i := 0) 14 dX7_moodBehind_13 rfl rfl rfl ?_
  refine ev_get (v := .ref 3) 17 dX7_moodBehind_14 dk_80 fl_7_21 (by decide) rfl rfl rfl ?_
  refine ev_aload_n (i := 1) 18 dX7_moodBehind_17 rfl rfl rfl ?_
  refine ev_iconst (v := 0) 19 dX7_moodBehind_18 (by decide) rfl ?_
  refine ex_iald 0 20 dX7_moodBehind_19 dk_89 (rx_vin (by decide)) (by decide) rfl ?_
  obtain ⟨x11, S10, g12, h⟩ := rx_bd_o h
  refine ev_cVv1 23 dX7_moodBehind_20 (em_X2_askIn_3 g12) mm_X2_askIn mv_X2_askIn lk_7_22 dk_3 (by decide) rfl (Nat.le_of_ble_eq_true rfl) (Nat.le_of_ble_eq_true rfl) rfl ?_
  refine ev_aload_n (i := 0) 24 dX7_moodBehind_23 rfl rfl rfl ?_
  refine ev_get (v := .ref 3) 27 dX7_moodBehind_24 dk_80 fl_7_21 (by decide) rfl rfl rfl ?_
  refine ev_iconst (v := 5) 28 dX7_moodBehind_27 (by decide) rfl ?_
  refine ev_iload_n (i := 2) 29 dX7_moodBehind_28 rfl rfl rfl ?_
  obtain ⟨x14, S13, g15, h⟩ := rx_bd_o h
  refine ev_cVv2 32 dX7_moodBehind_29 (em_X2_let_3 g15) mm_X2_let mv_X2_let lk_7_28 dk_3 (by decide) rfl (Nat.le_of_ble_eq_true rfl) (Nat.le_of_ble_eq_true rfl) rfl ?_
  refine ev_iconst (v := 0) 33 dX7_moodBehind_32 (by decide) rfl ?_
  refine ev_istore (ls' := [some (.ref 80), some (.ref 89), some (.int x2), some (.int x3), some (.int x6), some (.int x9), some (.int 0)]) 35 dX7_moodBehind_33 (Nat.le_of_ble_eq_true rfl) rfl rfl ?_
  exact (em_X7_moodBehind_L35_89 _ _ _ _ _ _ h).fewer (rx_le_s (rx_le_s (rx_le_n (rx_le_s (rx_le_s (rx_le_s (rx_le_s rx_le_0)))))))

