def f_X11_put_L3 (N : Nat) : Nat → Int32 → Int32 → rx_S → Option (Unit × rx_S)
  | 0, _, _, _ => none
  | n + 1, x3, x4, S5 => if x4 < 0 then (some ((), S5)) else (rx_gd (S5.1 94 2) 2000 (rx_let (rx_ui S5 95 (Int32.toNatClampNeg (S5.1 94 2)) (vp_nar .byte (rx_i2b (x3 >>> (x4 &&& 31))))) (fun S8 => rx_let (rx_ui S8 94 2 ((S8.1 94 2) + 1)) (fun S9 => rx_let (x4 + (-8)) (fun x10 => f_X11_put_L3 N n x3 x10 S9)))))
def f_X11_put (N : Nat) (x1 : Int32) (S0 : rx_S) : Option (Unit × rx_S) := f_X11_put_L3 N N x1 24 S0
set_option maxHeartbeats 4000000 in
set_option maxRecDepth 20000 in
theorem em_X11_put_L3 {d N : Nat} {zr : Unit} {zS : rx_S} : ∀ (n : Nat) (x3 : Int32) (x4 : Int32) (S5 : rx_S), f_X11_put_L3 N n x3 x4 S5 = some (zr, zS) → EV gM d mX11_put 3 [some (.ref 94), some (.int x3), some (.int x4)] [] S5 (rx_pv zS) := by
  intro n
  induction n with
  | zero => intro x3 x4 S5 h; cases h
  | succ n ih =>
    intro x3 x4 S5 h
    rw [f_X11_put_L3] at h
    refine ev_iload_n (i := 2) 4 dX11_put_3 rfl rfl rfl ?_
    refine ev_if_lt 36 7 dX11_put_4 rfl rfl (fun c6 => ?_) (fun c6 => ?_)
    · replace h := rx_if_t c6 h
      exact ev_return dX11_put_36 rfl (rx_ret_v h)
    · replace h := rx_if_f c6 h
      refine ev_aload_n (i := 0) 8 dX11_put_7 rfl rfl rfl ?_
      refine ev_get (v := .ref 95) 11 dX11_put_8 dk_94 fl_11_13 (by decide) rfl rfl rfl ?_
      refine ev_aload_n (i := 0) 12 dX11_put_11 rfl rfl rfl ?_
      refine ev_get (v := .int (S5.1 94 2)) 15 dX11_put_12 dk_94 fl_11_166 (by decide) rfl rfl rfl ?_
      refine ev_iload_n (i := 1) 16 dX11_put_15 rfl rfl rfl ?_
      refine ev_iload_n (i := 2) 17 dX11_put_16 rfl rfl rfl ?_
      refine ev_ishr 18 dX11_put_17 rfl ?_
      refine ev_tob 19 dX11_put_18 rfl ?_
      obtain ⟨g7, h⟩ := rx_gd_o h
      obtain ⟨S8, eS8, h⟩ := rx_let_o h
      refine ex_bast _ 20 dX11_put_19 dk_95 g7 rfl rfl eS8 ?_
      refine ev_aload_n (i := 0) 21 dX11_put_20 rfl rfl rfl ?_
      refine ev_dup 22 dX11_put_21 rfl rfl ?_
      refine ev_get (v := .int (S8.1 94 2)) 25 dX11_put_22 dk_94 fl_11_166 (by decide) rfl rfl rfl ?_
      refine ev_iconst (v := 1) 26 dX11_put_25 (by decide) rfl ?_
      refine ev_iadd 27 dX11_put_26 rfl ?_
      obtain ⟨S9, eS9, h⟩ := rx_let_o h
      refine ex_put 30 dX11_put_27 dk_94 fl_11_166 pp_11_2 (by decide) rfl rfl rfl rfl eS9 ?_
      obtain ⟨x10, ex10, h⟩ := rx_let_o h
      refine ev_iinc (v := x10) (ls' := [some (.ref 94), some (.int x3), some (.int x10)]) 33 dX11_put_30 rfl (by rw [ex10]; rfl) (Nat.le_of_ble_eq_true rfl) rfl rfl ?_
      refine ev_goto 3 dX11_put_33 rfl ?_
      exact (ih _ _ _ h).fewer (rx_le_s (rx_le_s (rx_le_s rx_le_0)))

set_option maxHeartbeats 4000000 in
set_option maxRecDepth 20000 in
theorem em_X11_put {d N : Nat} {x1 : Int32} {S0 : rx_S} {zr : Unit} {zS : rx_S} (h : f_X11_put N x1 S0 = some (zr, zS)) : EM gM d mX11_put [.ref 94, .int x1] S0 (rx_pv zS) := by
  unfold f_X11_put at h
  show EV gM d mX11_put 0 [some (.ref 94), some (.int x1), none] [] S0 (rx_pv zS)
  refine ev_bipush (v := 24) 2 dX11_put_0 (by decide) rfl ?_
  refine ev_istore_n (ls' := [some (.ref 94), some (.int x1), some (.int 24)]) 3 dX11_put_2 rfl (Nat.le_of_ble_eq_true rfl) rfl rfl ?_
  exact (em_X11_put_L3 _ _ _ _ h).fewer (rx_le_s (rx_le_s (rx_le_s rx_le_0)))

def f_X11_feed (N : Nat) (x1 : Int32) (x2 : Int32) (x3 : Int32) (x4 : Int32) (x5 : Int32) (S0 : rx_S) : Option (Int32 × rx_S) := if ((S0.1 94 2) + 20) ≤ 2000 then (rx_bd (f_X11_put N x1 S0) (fun x9 S8 => rx_bd (f_X11_put N x2 S8) (fun x12 S11 => rx_bd (f_X11_put N x3 S11) (fun x15 S14 => rx_bd (f_X11_put N x4 S14) (fun x18 S17 => rx_bd (f_X11_put N x5 S17) (fun x21 S20 => some ((S20.1 94 2), S20))))))) else (some ((-1), S0))
set_option maxHeartbeats 4000000 in
set_option maxRecDepth 20000 in
theorem em_X11_feed {d N : Nat} {x1 : Int32} {x2 : Int32} {x3 : Int32} {x4 : Int32} {x5 : Int32} {S0 : rx_S} {zr : Int32} {zS : rx_S} (h : f_X11_feed N x1 x2 x3 x4 x5 S0 = some (zr, zS)) : EM gM (d + 1) mX11_feed [.ref 94, .int x1, .int x2, .int x3, .int x4, .int x5] S0 (rx_pi zr zS) := by
  unfold f_X11_feed at h
  show EV gM (d + 1) mX11_feed 0 [some (.ref 94), some (.int x1), some (.int x2), some (.int x3), some (.int x4), some (.int x5)] [] S0 (rx_pi zr zS)
  refine ev_aload_n (i := 0) 1 dX11_feed_0 rfl rfl rfl ?_
  refine ev_get (v := .int (S0.1 94 2)) 4 dX11_feed_1 dk_94 fl_11_166 (by decide) rfl rfl rfl ?_
  refine ev_bipush (v := 20) 6 dX11_feed_4 (by decide) rfl ?_
  refine ev_iadd 7 dX11_feed_6 rfl ?_
  refine ev_sipush (v := 2000) 10 dX11_feed_7 (by decide) rfl ?_
  refine ev_icmp_le 15 13 dX11_feed_10 rfl rfl (fun c7 => ?_) (fun c7 => ?_)
  · replace h := rx_if_t c7 h
    refine ev_aload_n (i := 0) 16 dX11_feed_15 rfl rfl rfl ?_
    refine ev_iload_n (i := 1) 17 dX11_feed_16 rfl rfl rfl ?_
    obtain ⟨x9, S8, g10, h⟩ := rx_bd_o h
    refine ev_cVv1 20 dX11_feed_17 (em_X11_put g10) mm_X11_put mv_X11_put lk_11_169 dk_94 (by decide) rfl (Nat.le_of_ble_eq_true rfl) (Nat.le_of_ble_eq_true rfl) rfl ?_
    refine ev_aload_n (i := 0) 21 dX11_feed_20 rfl rfl rfl ?_
    refine ev_iload_n (i := 2) 22 dX11_feed_21 rfl rfl rfl ?_
    obtain ⟨x12, S11, g13, h⟩ := rx_bd_o h
    refine ev_cVv1 25 dX11_feed_22 (em_X11_put g13) mm_X11_put mv_X11_put lk_11_169 dk_94 (by decide) rfl (Nat.le_of_ble_eq_true rfl) (Nat.le_of_ble_eq_true rfl) rfl ?_
    refine ev_aload_n (i := 0) 26 dX11_feed_25 rfl rfl rfl ?_
    refine ev_iload_n (i := 3) 27 dX11_feed_26 rfl rfl rfl ?_
    obtain ⟨x15, S14, g16, h⟩ := rx_bd_o h
    refine ev_cVv1 30 dX11_feed_27 (em_X11_put g16) mm_X11_put mv_X11_put lk_11_169 dk_94 (by decide) rfl (Nat.le_of_ble_eq_true rfl) (Nat.le_of_ble_eq_true rfl) rfl ?_
    refine ev_aload_n (i := 0) 31 dX11_feed_30 rfl rfl rfl ?_
    refine ev_iload 33 dX11_feed_31 rfl rfl ?_
    obtain ⟨x18, S17, g19, h⟩ := rx_bd_o h
    refine ev_cVv1 36 dX11_feed_33 (em_X11_put g19) mm_X11_put mv_X11_put lk_11_169 dk_94 (by decide) rfl (Nat.le_of_ble_eq_true rfl) (Nat.le_of_ble_eq_true rfl) rfl ?_
    refine ev_aload_n (i := 0) 37 dX11_feed_36 rfl rfl rfl ?_
    refine ev_iload 39 dX11_feed_37 rfl rfl ?_
    obtain ⟨x21, S20, g22, h⟩ := rx_bd_o h
    refine ev_cVv1 42 dX11_feed_39 (em_X11_put g22) mm_X11_put mv_X11_put lk_11_169 dk_94 (by decide) rfl (Nat.le_of_ble_eq_true rfl) (Nat.le_of_ble_eq_true rfl) rfl ?_
    refine ev_aload_n (i := 0) 43 dX11_feed_42 rfl rfl rfl ?_
    refine ev_get (v := .int (S20.1 94 2)) 46 dX11_feed_43 dk_94 fl_11_166 (by decide) rfl rfl rfl ?_
    exact ev_ireturn dX11_feed_46 rfl (rx_ret_i h)
  · replace h := rx_if_f c7 h
    refine ev_iconst (v := (-1)) 14 dX11_feed_13 (by decide) rfl ?_
    exact ev_ireturn dX11_feed_14 rfl (rx_ret_i h)

def f_X11_back (x1 : Int32) (S0 : rx_S) : Option (Int32 × rx_S) := if x1 < 0 then (some ((-1), S0)) else (if x1 ≤ (S0.1 94 2) then (rx_let (rx_ui S0 94 2 ((S0.1 94 2) - x1)) (fun S5 => some ((S5.1 94 2), S5))) else (some ((-1), S0)))
set_option maxHeartbeats 4000000 in
set_option maxRecDepth 20000 in
theorem em_X11_back {d : Nat} {x1 : Int32} {S0 : rx_S} {zr : Int32} {zS : rx_S} (h : f_X11_back x1 S0 = some (zr, zS)) : EM gM d mX11_back [.ref 94, .int x1] S0 (rx_pi zr zS) := by
  unfold f_X11_back at h
  show EV gM d mX11_back 0 [some (.ref 94), some (.int x1)] [] S0 (rx_pi zr zS)
  refine ev_iload_n (i := 1) 1 dX11_back_0 rfl rfl rfl ?_
  refine ev_if_lt 12 4 dX11_back_1 rfl rfl (fun c3 => ?_) (fun c3 => ?_)
  · replace h := rx_if_t c3 h
    refine ev_iconst (v := (-1)) 13 dX11_back_12 (by decide) rfl ?_
    exact ev_ireturn dX11_back_13 rfl (rx_ret_i h)
  · replace h := rx_if_f c3 h
    refine ev_iload_n (i := 1) 5 dX11_back_4 rfl rfl rfl ?_
    refine ev_aload_n (i := 0) 6 dX11_back_5 rfl rfl rfl ?_
    refine ev_get (v := .int (S0.1 94 2)) 9 dX11_back_6 dk_94 fl_11_166 (by decide) rfl rfl rfl ?_
    refine ev_icmp_le 14 12 dX11_back_9 rfl rfl (fun c4 => ?_) (fun c4 => ?_)
    · replace h := rx_if_t c4 h
      refine ev_aload_n (i := 0) 15 dX11_back_14 rfl rfl rfl ?_
      refine ev_dup 16 dX11_back_15 rfl rfl ?_
      refine ev_get (v := .int (S0.1 94 2)) 19 dX11_back_16 dk_94 fl_11_166 (by decide) rfl rfl rfl ?_
      refine ev_iload_n (i := 1) 20 dX11_back_19 rfl rfl rfl ?_
      refine ev_isub 21 dX11_back_20 rfl ?_
      obtain ⟨S5, eS5, h⟩ := rx_let_o h
      refine ex_put 24 dX11_back_21 dk_94 fl_11_166 pp_11_2 (by decide) rfl rfl rfl rfl eS5 ?_
      refine ev_aload_n (i := 0) 25 dX11_back_24 rfl rfl rfl ?_
      refine ev_get (v := .int (S5.1 94 2)) 28 dX11_back_25 dk_94 fl_11_166 (by decide) rfl rfl rfl ?_
      exact ev_ireturn dX11_back_28 rfl (rx_ret_i h)
    · replace h := rx_if_f c4 h
      refine ev_iconst (v := (-1)) 13 dX11_back_12 (by decide) rfl ?_
      exact ev_ireturn dX11_back_13 rfl (rx_ret_i h)

def f_X11_byteAt (x1 : Int32) (S0 : rx_S) : Option (Int32 × rx_S) := if (S0.1 94 4) ≤ x1 then (some (0, S0)) else (rx_gd x1 2000 (some (((S0.1 96 (Int32.toNatClampNeg x1)) &&& 255), S0)))
set_option maxHeartbeats 4000000 in
set_option maxRecDepth 20000 in
theorem em_X11_byteAt {d : Nat} {x1 : Int32} {S0 : rx_S} {zr : Int32} {zS : rx_S} (h : f_X11_byteAt x1 S0 = some (zr, zS)) : EM gM d mX11_byteAt [.ref 94, .int x1] S0 (rx_pi zr zS) := by
  unfold f_X11_byteAt at h
  show EV gM d mX11_byteAt 0 [some (.ref 94), some (.int x1)] [] S0 (rx_pi zr zS)
  refine ev_iload_n (i := 1) 1 dX11_byteAt_0 rfl rfl rfl ?_
  refine ev_aload_n (i := 0) 2 dX11_byteAt_1 rfl rfl rfl ?_
  refine ev_get (v := .int (S0.1 94 4)) 5 dX11_byteAt_2 dk_94 fl_11_172 (by decide) rfl rfl rfl ?_
  refine ev_icmp_ge 21 8 dX11_byteAt_5 rfl rfl (fun c3 => ?_) (fun c3 => ?_)
  · replace h := rx_if_t c3 h
    refine ev_iconst (v := 0) 22 dX11_byteAt_21 (by decide) rfl ?_
    exact ev_ireturn dX11_byteAt_22 rfl (rx_ret_i h)
  · replace h := rx_if_f c3 h
    refine ev_aload_n (i := 0) 9 dX11_byteAt_8 rfl rfl rfl ?_
    refine ev_get (v := .ref 96) 12 dX11_byteAt_9 dk_94 fl_11_17 (by decide) rfl rfl rfl ?_
    refine ev_iload_n (i := 1) 13 dX11_byteAt_12 rfl rfl rfl ?_
    obtain ⟨g4, h⟩ := rx_gd_o h
    refine ex_bald _ 14 dX11_byteAt_13 dk_96 g4 rfl rfl ?_
    refine ev_sipush (v := 255) 17 dX11_byteAt_14 (by decide) rfl ?_
    refine ev_iand 18 dX11_byteAt_17 rfl ?_
    refine ev_goto 22 dX11_byteAt_18 rfl ?_
    exact ev_ireturn dX11_byteAt_22 rfl (rx_ret_i h)

def f_X11_isDigit (x0 : Int32) (S0 : rx_S) : Option (Int32 × rx_S) := if x0 < 48 then (some (0, S0)) else (if (57 : Int32) < x0 then (some (0, S0)) else (some (1, S0)))
set_option maxHeartbeats 4000000 in
set_option maxRecDepth 20000 in
theorem em_X11_isDigit {G : Nat × Nat} {d : Nat} {x0 : Int32} {S0 : rx_S} {zr : Int32} {zS : rx_S} (h : f_X11_isDigit x0 S0 = some (zr, zS)) : EM G d mX11_isDigit [.int x0] S0 (rx_pi zr zS) := by
  unfold f_X11_isDigit at h
  show EV G d mX11_isDigit 0 [some (.int x0)] [] S0 (rx_pi zr zS)
  refine ev_iload_n (i := 0) 1 dX11_isDigit_0 rfl rfl rfl ?_
  refine ev_bipush (v := 48) 3 dX11_isDigit_1 (by decide) rfl ?_
  refine ev_icmp_lt 16 6 dX11_isDigit_3 rfl rfl (fun c2 => ?_) (fun c2 => ?_)
  · replace h := rx_if_t c2 h
    refine ev_iconst (v := 0) 17 dX11_isDigit_16 (by decide) rfl ?_
    exact ev_zreturn dX11_isDigit_17 rfl (by decide) (rx_ret_i h)
  · replace h := rx_if_f c2 h
    refine ev_iload_n (i := 0) 7 dX11_isDigit_6 rfl rfl rfl ?_
    refine ev_bipush (v := 57) 9 dX11_isDigit_7 (by decide) rfl ?_
    refine ev_icmp_gt 16 12 dX11_isDigit_9 rfl rfl (fun c3 => ?_) (fun c3 => ?_)
    · replace h := rx_if_t c3 h
      refine ev_iconst (v := 0) 17 dX11_isDigit_16 (by decide) rfl ?_
      exact ev_zreturn dX11_isDigit_17 rfl (by decide) (rx_ret_i h)
    · replace h := rx_if_f c3 h
      refine ev_iconst (v := 1) 13 dX11_isDigit_12 (by decide) rfl ?_
      refine ev_goto 17 dX11_isDigit_13 rfl ?_
      exact ev_zreturn dX11_isDigit_17 rfl (by decide) (rx_ret_i h)

def f_X11_isLetter (x0 : Int32) (S0 : rx_S) : Option (Int32 × rx_S) := if x0 < 97 then (some (0, S0)) else (if (122 : Int32) < x0 then (some (0, S0)) else (some (1, S0)))
set_option maxHeartbeats 4000000 in
set_option maxRecDepth 20000 in
theorem em_X11_isLetter {G : Nat × Nat} {d : Nat} {x0 : Int32} {S0 : rx_S} {zr : Int32} {zS : rx_S} (h : f_X11_isLetter x0 S0 = some (zr, zS)) : EM G d mX11_isLetter [.int x0] S0 (rx_pi zr zS) := by
  unfold f_X11_isLetter at h
  show EV G d mX11_isLetter 0 [some (.int x0)] [] S0 (rx_pi zr zS)
  refine ev_iload_n (i := 0) 1 dX11_isLetter_0 rfl rfl rfl ?_
  refine ev_bipush (v := 97) 3 dX11_isLetter_1 (by decide) rfl ?_
  refine ev_icmp_lt 16 6 dX11_isLetter_3 rfl rfl (fun c2 => ?_) (fun c2 => ?_)
  · replace h := rx_if_t c2 h
    refine ev_iconst (v := 0) 17 dX11_isLetter_16 (by decide) rfl ?_
    exact ev_zreturn dX11_isLetter_17 rfl (by decide) (rx_ret_i h)
  · replace h := rx_if_f c2 h
    refine ev_iload_n (i := 0) 7 dX11_isLetter_6 rfl rfl rfl ?_
    refine ev_bipush (v := 122) 9 dX11_isLetter_7 (by decide) rfl ?_
    refine ev_icmp_gt 16 12 dX11_isLetter_9 rfl rfl (fun c3 => ?_) (fun c3 => ?_)
    · replace h := rx_if_t c3 h
      refine ev_iconst (v := 0) 17 dX11_isLetter_16 (by decide) rfl ?_
      exact ev_zreturn dX11_isLetter_17 rfl (by decide) (rx_ret_i h)
    · replace h := rx_if_f c3 h
      refine ev_iconst (v := 1) 13 dX11_isLetter_12 (by decide) rfl ?_
      refine ev_goto 17 dX11_isLetter_13 rfl ?_
      exact ev_zreturn dX11_isLetter_17 rfl (by decide) (rx_ret_i h)

def f_X11_appends (x0 : Int64) (x1 : Int32) (S0 : rx_S) : Option (Int64 × rx_S) := if x1 = 0 then (some (x0, S0)) else (some ((((27 : Int64) * x0) + (Int32.toInt64 ((x1 - 97) + 1))), S0))
set_option maxHeartbeats 4000000 in
set_option maxRecDepth 20000 in
theorem em_X11_appends {G : Nat × Nat} {d : Nat} {x0 : Int64} {x1 : Int32} {S0 : rx_S} {zr : Int64} {zS : rx_S} (h : f_X11_appends x0 x1 S0 = some (zr, zS)) : EM G d mX11_appends [.long x0, .int x1] S0 (rx_pl zr zS) := by
  unfold f_X11_appends at h
  show EV G d mX11_appends 0 [some (.long x0), none, some (.int x1)] [] S0 (rx_pl zr zS)
  refine ev_iload_n (i := 2) 1 dX11_appends_0 rfl rfl rfl ?_
  refine ev_if_ne 8 4 dX11_appends_1 rfl rfl (fun c3 => ?_) (fun c3 => ?_)
  · replace h := rx_if_f c3 h
    refine ev_ldc2 (v := 27) 11 dX11_appends_8 rfl ct_11_175 rfl ?_
    refine ev_lload_n (i := 0) 12 dX11_appends_11 rfl rfl rfl ?_
    refine ev_lmul 13 dX11_appends_12 rfl ?_
    refine ev_iload_n (i := 2) 14 dX11_appends_13 rfl rfl rfl ?_
    refine ev_bipush (v := 97) 16 dX11_appends_14 (by decide) rfl ?_
    refine ev_isub 17 dX11_appends_16 rfl ?_
    refine ev_iconst (v := 1) 18 dX11_appends_17 (by decide) rfl ?_
    refine ev_iadd 19 dX11_appends_18 rfl ?_
    refine ev_i2l 20 dX11_appends_19 rfl ?_
    refine ev_ladd 21 dX11_appends_20 rfl ?_
    exact ev_lreturn dX11_appends_21 rfl (rx_ret_l h)
  · replace h := rx_if_t c3 h
    refine ev_lload_n (i := 0) 5 dX11_appends_4 rfl rfl rfl ?_
    refine ev_goto 21 dX11_appends_5 rfl ?_
    exact ev_lreturn dX11_appends_21 rfl (rx_ret_l h)

def f_X11_word (x0 : Int32) (x1 : Int32) (x2 : Int32) (x3 : Int32) (x4 : Int32) (x5 : Int32) (x6 : Int32) (S0 : rx_S) : Option (Int64 × rx_S) := rx_bd (f_X11_appends (0 : Int64) x0 S0) (fun x9 S8 => rx_bd (f_X11_appends x9 x1 S8) (fun x12 S11 => rx_bd (f_X11_appends x12 x2 S11) (fun x15 S14 => rx_bd (f_X11_appends x15 x3 S14) (fun x18 S17 => rx_bd (f_X11_appends x18 x4 S17) (fun x21 S20 => rx_bd (f_X11_appends x21 x5 S20) (fun x24 S23 => rx_bd (f_X11_appends x24 x6 S23) (fun x27 S26 => some (x27, S26))))))))
set_option maxHeartbeats 4000000 in
set_option maxRecDepth 20000 in
theorem em_X11_word {G : Nat × Nat} {d : Nat} {x0 : Int32} {x1 : Int32} {x2 : Int32} {x3 : Int32} {x4 : Int32} {x5 : Int32} {x6 : Int32} {S0 : rx_S} {zr : Int64} {zS : rx_S} (h : f_X11_word x0 x1 x2 x3 x4 x5 x6 S0 = some (zr, zS)) : EM G (d + 1) mX11_word [.int x0, .int x1, .int x2, .int x3, .int x4, .int x5, .int x6] S0 (rx_pl zr zS) := by
  unfold f_X11_word at h
  show EV G (d + 1) mX11_word 0 [some (.int x0), some (.int x1), some (.int x2), some (.int x3), some (.int x4), some (.int x5), some (.int x6)] [] S0 (rx_pl zr zS)
  refine ev_lconst (v := 0) 1 dX11_word_0 (by decide) rfl ?_
  refine ev_iload_n (i := 0) 2 dX11_word_1 rfl rfl rfl ?_
  obtain ⟨x9, S8, g10, h⟩ := rx_bd_o h
  refine ev_cSl2 5 dX11_word_2 (em_X11_appends g10) mm_X11_appends ms_X11_appends lk_11_177 (Nat.le_of_ble_eq_true rfl) (Nat.le_of_ble_eq_true rfl) rfl ?_
  refine ev_iload_n (i := 1) 6 dX11_word_5 rfl rfl rfl ?_
  obtain ⟨x12, S11, g13, h⟩ := rx_bd_o h
  refine ev_cSl2 9 dX11_word_6 (em_X11_appends g13) mm_X11_appends ms_X11_appends lk_11_177 (Nat.le_of_ble_eq_true rfl) (Nat.le_of_ble_eq_true rfl) rfl ?_
  refine ev_iload_n (i := 2) 10 dX11_word_9 rfl rfl rfl ?_
  obtain ⟨x15, S14, g16, h⟩ := rx_bd_o h
  refine ev_cSl2 13 dX11_word_10 (em_X11_appends g16) mm_X11_appends ms_X11_appends lk_11_177 (Nat.le_of_ble_eq_true rfl) (Nat.le_of_ble_eq_true rfl) rfl ?_
  refine ev_iload_n (i := 3) 14 dX11_word_13 rfl rfl rfl ?_
  obtain ⟨x18, S17, g19, h⟩ := rx_bd_o h
  refine ev_cSl2 17 dX11_word_14 (em_X11_appends g19) mm_X11_appends ms_X11_appends lk_11_177 (Nat.le_of_ble_eq_true rfl) (Nat.le_of_ble_eq_true rfl) rfl ?_
  refine ev_iload 19 dX11_word_17 rfl rfl ?_
  obtain ⟨x21, S20, g22, h⟩ := rx_bd_o h
  refine ev_cSl2 22 dX11_word_19 (em_X11_appends g22) mm_X11_appends ms_X11_appends lk_11_177 (Nat.le_of_ble_eq_true rfl) (Nat.le_of_ble_eq_true rfl) rfl ?_
  refine ev_iload 24 dX11_word_22 rfl rfl ?_
  obtain ⟨x24, S23, g25, h⟩ := rx_bd_o h
  refine ev_cSl2 27 dX11_word_24 (em_X11_appends g25) mm_X11_appends ms_X11_appends lk_11_177 (Nat.le_of_ble_eq_true rfl) (Nat.le_of_ble_eq_true rfl) rfl ?_
  refine ev_iload 29 dX11_word_27 rfl rfl ?_
  obtain ⟨x27, S26, g28, h⟩ := rx_bd_o h
  refine ev_cSl2 32 dX11_word_29 (em_X11_appends g28) mm_X11_appends ms_X11_appends lk_11_177 (Nat.le_of_ble_eq_true rfl) (Nat.le_of_ble_eq_true rfl) rfl ?_
  exact ev_lreturn dX11_word_32 rfl (rx_ret_l h)

def f_X11_token (x1 : Int32) (x2 : Int32) (x3 : Int32) (x4 : Int64) (S0 : rx_S) : Option (Unit × rx_S) := rx_gd (S0.1 94 10) 403 (rx_let (rx_ui S0 97 (Int32.toNatClampNeg (S0.1 94 10)) x1) (fun S7 => rx_gd (S7.1 94 10) 403 (rx_let (rx_ui S7 98 (Int32.toNatClampNeg (S7.1 94 10)) x2) (fun S9 => rx_gd (S9.1 94 10) 403 (rx_let (rx_ui S9 99 (Int32.toNatClampNeg (S9.1 94 10)) x3) (fun S11 => rx_gd (S11.1 94 10) 403 (rx_let (rx_uj S11 100 (Int32.toNatClampNeg (S11.1 94 10)) x4) (fun S13 => rx_let (rx_ui S13 94 10 ((S13.1 94 10) + 1)) (fun S14 => some ((), S14))))))))))
set_option maxHeartbeats 4000000 in
set_option maxRecDepth 20000 in
theorem em_X11_token {d : Nat} {x1 : Int32} {x2 : Int32} {x3 : Int32} {x4 : Int64} {S0 : rx_S} {zr : Unit} {zS : rx_S} (h : f_X11_token x1 x2 x3 x4 S0 = some (zr, zS)) : EM gM d mX11_token [.ref 94, .int x1, .int x2, .int x3, .long x4] S0 (rx_pv zS) := by
  unfold f_X11_token at h
  show EV gM d mX11_token 0 [some (.ref 94), some (.int x1), some (.int x2), some (.int x3), some (.long x4), none] [] S0 (rx_pv zS)
  refine ev_aload_n (i := 0) 1 dX11_token_0 rfl rfl rfl ?_
  refine ev_get (v := .ref 97) 4 dX11_token_1 dk_94 fl_11_20 (by decide) rfl rfl rfl ?_
  refine ev_aload_n (i := 0) 5 dX11_token_4 rfl rfl rfl ?_
  refine ev_get (v := .int (S0.1 94 10)) 8 dX11_token_5 dk_94 fl_11_181 (by decide) rfl rfl rfl ?_
  refine ev_iload_n (i := 1) 9 dX11_token_8 rfl rfl rfl ?_
  obtain ⟨g6, h⟩ := rx_gd_o h
  obtain ⟨S7, eS7, h⟩ := rx_let_o h
  refine ex_iast _ 10 dX11_token_9 dk_97 g6 rfl rfl eS7 ?_
  refine ev_aload_n (i := 0) 11 dX11_token_10 rfl rfl rfl ?_
  refine ev_get (v := .ref 98) 14 dX11_token_11 dk_94 fl_11_24 (by decide) rfl rfl rfl ?_
  refine ev_aload_n (i := 0) 15 dX11_token_14 rfl rfl rfl ?_
  refine ev_get (v := .int (S7.1 94 10)) 18 dX11_token_15 dk_94 fl_11_181 (by decide) rfl rfl rfl ?_
  refine ev_iload_n (i := 2) 19 dX11_token_18 rfl rfl rfl ?_
  obtain ⟨g8, h⟩ := rx_gd_o h
  obtain ⟨S9, eS9, h⟩ := rx_let_o h
  refine ex_iast _ 20 dX11_token_19 dk_98 g8 rfl rfl eS9 ?_
  refine ev_aload_n (i := 0) 21 dX11_token_20 rfl rfl rfl ?_
  refine ev_get (v := .ref 99) 24 dX11_token_21 dk_94 fl_11_27 (by decide) rfl rfl rfl ?_
  refine ev_aload_n (i := 0) 25 dX11_token_24 rfl rfl rfl ?_
  refine ev_get (v := .int (S9.1 94 10)) 28 dX11_token_25 dk_94 fl_11_181 (by decide) rfl rfl rfl ?_
  refine ev_iload_n (i := 3) 29 dX11_token_28 rfl rfl rfl ?_
  obtain ⟨g10, h⟩ := rx_gd_o h
  obtain ⟨S11, eS11, h⟩ := rx_let_o h
  refine ex_iast _ 30 dX11_token_29 dk_99 g10 rfl rfl eS11 ?_
  refine ev_aload_n (i := 0) 31 dX11_token_30 rfl rfl rfl ?_
  refine ev_get (v := .ref 100) 34 dX11_token_31 dk_94 fl_11_30 (by decide) rfl rfl rfl ?_
  refine ev_aload_n (i := 0) 35 dX11_token_34 rfl rfl rfl ?_
  refine ev_get (v := .int (S11.1 94 10)) 38 dX11_token_35 dk_94 fl_11_181 (by decide) rfl rfl rfl ?_
  refine ev_lload 40 dX11_token_38 rfl rfl ?_
  obtain ⟨g12, h⟩ := rx_gd_o h
  obtain ⟨S13, eS13, h⟩ := rx_let_o h
  refine ex_last _ 41 dX11_token_40 dk_100 g12 rfl rfl eS13 ?_
  refine ev_aload_n (i := 0) 42 dX11_token_41 rfl rfl rfl ?_
  refine ev_dup 43 dX11_token_42 rfl rfl ?_
  refine ev_get (v := .int (S13.1 94 10)) 46 dX11_token_43 dk_94 fl_11_181 (by decide) rfl rfl rfl ?_
  refine ev_iconst (v := 1) 47 dX11_token_46 (by decide) rfl ?_
  refine ev_iadd 48 dX11_token_47 rfl ?_
  obtain ⟨S14, eS14, h⟩ := rx_let_o h
  refine ex_put 51 dX11_token_48 dk_94 fl_11_181 pp_11_10 (by decide) rfl rfl rfl rfl eS14 ?_
  exact ev_return dX11_token_51 rfl (rx_ret_v h)

def f_X11_sign (x1 : Int32) (x2 : Int32) (x3 : Int32) (S0 : rx_S) : Option (Int32 × rx_S) := rx_let (fun (x5 : Int32) (x6 : Int32) (x7 : Int32) (S8 : rx_S) => rx_let (fun (x9 : Int32) (x10 : Int32) (x11 : Int32) (S12 : rx_S) => rx_let (fun (x13 : Int32) (x14 : Int32) (x15 : Int32) (S16 : rx_S) => rx_let (fun (x17 : Int32) (x18 : Int32) (x19 : Int32) (S20 : rx_S) => rx_let (fun (x21 : Int32) (x22 : Int32) (x23 : Int32) (S24 : rx_S) => rx_let (fun (x25 : Int32) (x26 : Int32) (S27 : rx_S) => rx_bd (f_X11_token x26 x25 0 (0 : Int64) S27) (fun x29 S28 => some (1, S28))) (fun J95_6 => if x22 = 60 then (J95_6 x21 13 S24) else (J95_6 x21 x23 S24))) (fun J85_5 => if x18 = 47 then (J85_5 x17 x18 15 S20) else (J85_5 x17 x18 x19 S20))) (fun J75_4 => if x14 = 42 then (J75_4 x13 x14 10 S16) else (J75_4 x13 x14 x15 S16))) (fun J65_3 => if x10 = 45 then (J65_3 x9 x10 9 S12) else (J65_3 x9 x10 x11 S12))) (fun J55_2 => if x6 = 43 then (J55_2 x5 x6 8 S8) else (J55_2 x5 x6 x7 S8))) (fun J43_1 => if x2 = 59 then (J43_1 x1 x2 4 S0) else (if x2 = 61 then (J43_1 x1 x2 5 S0) else (if x2 = 40 then (J43_1 x1 x2 6 S0) else (if x2 = 41 then (J43_1 x1 x2 7 S0) else (J43_1 x1 x2 3 S0)))))
set_option maxHeartbeats 4000000 in
set_option maxRecDepth 20000 in
theorem em_X11_sign {d : Nat} {x1 : Int32} {x2 : Int32} {x3 : Int32} {S0 : rx_S} {zr : Int32} {zS : rx_S} (h : f_X11_sign x1 x2 x3 S0 = some (zr, zS)) : EM gM (d + 1) mX11_sign [.ref 94, .int x1, .int x2, .int x3] S0 (rx_pi zr zS) := by
  unfold f_X11_sign at h
  show EV gM (d + 1) mX11_sign 0 [some (.ref 94), some (.int x1), some (.int x2), some (.int x3), none] [] S0 (rx_pi zr zS)
  refine ev_iload_n (i := 2) 1 dX11_sign_0 rfl rfl rfl ?_
  refine ev_bipush (v := 59) 3 dX11_sign_1 (by decide) rfl ?_
  obtain ⟨J43_1, eJ43_1, h⟩ := rx_let_o h
  have hJ43_1 : ∀ (x5 : Int32) (x6 : Int32) (x7 : Int32) (S8 : rx_S), J43_1 x5 x6 x7 S8 = some (zr, zS) → EV gM (d + 1) mX11_sign 43 [some (.ref 94), some (.int x5), some (.int x6), none, none] [.int x7] S8 (rx_pi zr zS) := by
    intro x5 x6 x7 S8 h
    subst eJ43_1
    refine ev_istore (ls' := [some (.ref 94), some (.int x5), some (.int x6), none, some (.int x7)]) 45 dX11_sign_43 (Nat.le_of_ble_eq_true rfl) rfl rfl ?_
    refine ev_iload_n (i := 2) 46 dX11_sign_45 rfl rfl rfl ?_
    refine ev_bipush (v := 43) 48 dX11_sign_46 (by decide) rfl ?_
    obtain ⟨J55_2, eJ55_2, h⟩ := rx_let_o h
    have hJ55_2 : ∀ (x9 : Int32) (x10 : Int32) (x11 : Int32) (S12 : rx_S), J55_2 x9 x10 x11 S12 = some (zr, zS) → EV gM (d + 1) mX11_sign 55 [some (.ref 94), some (.int x9), some (.int x10), none, some (.int x11)] [] S12 (rx_pi zr zS) := by
      intro x9 x10 x11 S12 h
      subst eJ55_2
      refine ev_iload_n (i := 2) 56 dX11_sign_55 rfl rfl rfl ?_
      refine ev_bipush (v := 45) 58 dX11_sign_56 (by decide) rfl ?_
      obtain ⟨J65_3, eJ65_3, h⟩ := rx_let_o h
      have hJ65_3 : ∀ (x13 : Int32) (x14 : Int32) (x15 : Int32) (S16 : rx_S), J65_3 x13 x14 x15 S16 = some (zr, zS) → EV gM (d + 1) mX11_sign 65 [some (.ref 94), some (.int x13), some (.int x14), none, some (.int x15)] [] S16 (rx_pi zr zS) := by
        intro x13 x14 x15 S16 h
        subst eJ65_3
        refine ev_iload_n (i := 2) 66 dX11_sign_65 rfl rfl rfl ?_
        refine ev_bipush (v := 42) 68 dX11_sign_66 (by decide) rfl ?_
        obtain ⟨J75_4, eJ75_4, h⟩ := rx_let_o h
        have hJ75_4 : ∀ (x17 : Int32) (x18 : Int32) (x19 : Int32) (S20 : rx_S), J75_4 x17 x18 x19 S20 = some (zr, zS) → EV gM (d + 1) mX11_sign 75 [some (.ref 94), some (.int x17), some (.int x18), none, some (.int x19)] [] S20 (rx_pi zr zS) := by
          intro x17 x18 x19 S20 h
          subst eJ75_4
          refine ev_iload_n (i := 2) 76 dX11_sign_75 rfl rfl rfl ?_
          refine ev_bipush (v := 47) 78 dX11_sign_76 (by decide) rfl ?_
          obtain ⟨J85_5, eJ85_5, h⟩ := rx_let_o h
          have hJ85_5 : ∀ (x21 : Int32) (x22 : Int32) (x23 : Int32) (S24 : rx_S), J85_5 x21 x22 x23 S24 = some (zr, zS) → EV gM (d + 1) mX11_sign 85 [some (.ref 94), some (.int x21), some (.int x22), none, some (.int x23)] [] S24 (rx_pi zr zS) := by
            intro x21 x22 x23 S24 h
            subst eJ85_5
            refine ev_iload_n (i := 2) 86 dX11_sign_85 rfl rfl rfl ?_
            refine ev_bipush (v := 60) 88 dX11_sign_86 (by decide) rfl ?_
            obtain ⟨J95_6, eJ95_6, h⟩ := rx_let_o h
            have hJ95_6 : ∀ (x25 : Int32) (x26 : Int32) (S27 : rx_S), J95_6 x25 x26 S27 = some (zr, zS) → EV gM (d + 1) mX11_sign 95 [some (.ref 94), some (.int x25), none, none, some (.int x26)] [] S27 (rx_pi zr zS) := by
              intro x25 x26 S27 h
              subst eJ95_6
              refine ev_aload_n (i := 0) 96 dX11_sign_95 rfl rfl rfl ?_
              refine ev_iload 98 dX11_sign_96 rfl rfl ?_
              refine ev_iload_n (i := 1) 99 dX11_sign_98 rfl rfl rfl ?_
              refine ev_iconst (v := 0) 100 dX11_sign_99 (by decide) rfl ?_
              refine ev_lconst (v := 0) 101 dX11_sign_100 (by decide) rfl ?_
              obtain ⟨x29, S28, g30, h⟩ := rx_bd_o h
              refine ev_cVv4 104 dX11_sign_101 (em_X11_token g30) mm_X11_token mv_X11_token lk_11_188 dk_94 (by decide) rfl (Nat.le_of_ble_eq_true rfl) (Nat.le_of_ble_eq_true rfl) rfl ?_
              refine ev_iconst (v := 1) 105 dX11_sign_104 (by decide) rfl ?_
              exact ev_ireturn dX11_sign_105 rfl (rx_ret_i h)
            refine ev_icmp_ne 95 91 dX11_sign_88 rfl rfl (fun c31 => ?_) (fun c31 => ?_)
            · replace h := rx_if_f c31 h
              exact (hJ95_6 _ _ _ h).fewer (rx_le_s (rx_le_s (rx_le_n (rx_le_n (rx_le_s rx_le_0)))))
            · replace h := rx_if_t c31 h
              refine ev_bipush (v := 13) 93 dX11_sign_91 (by decide) rfl ?_
              refine ev_istore (ls' := [some (.ref 94), some (.int x21), some (.int x22), none, some (.int 13)]) 95 dX11_sign_93 (Nat.le_of_ble_eq_true rfl) rfl rfl ?_
              exact (hJ95_6 _ _ _ h).fewer (rx_le_s (rx_le_s (rx_le_n (rx_le_n (rx_le_s rx_le_0)))))
          refine ev_icmp_ne 85 81 dX11_sign_78 rfl rfl (fun c32 => ?_) (fun c32 => ?_)
          · replace h := rx_if_f c32 h
            exact (hJ85_5 _ _ _ _ h).fewer (rx_le_s (rx_le_s (rx_le_s (rx_le_n (rx_le_s rx_le_0)))))
          · replace h := rx_if_t c32 h
            refine ev_bipush (v := 15) 83 dX11_sign_81 (by decide) rfl ?_
            refine ev_istore (ls' := [some (.ref 94), some (.int x17), some (.int x18), none, some (.int 15)]) 85 dX11_sign_83 (Nat.le_of_ble_eq_true rfl) rfl rfl ?_
            exact (hJ85_5 _ _ _ _ h).fewer (rx_le_s (rx_le_s (rx_le_s (rx_le_n (rx_le_s rx_le_0)))))
        refine ev_icmp_ne 75 71 dX11_sign_68 rfl rfl (fun c33 => ?_) (fun c33 => ?_)
        · replace h := rx_if_f c33 h
          exact (hJ75_4 _ _ _ _ h).fewer (rx_le_s (rx_le_s (rx_le_s (rx_le_n (rx_le_s rx_le_0)))))
        · replace h := rx_if_t c33 h
          refine ev_bipush (v := 10) 73 dX11_sign_71 (by decide) rfl ?_
          refine ev_istore (ls' := [some (.ref 94), some (.int x13), some (.int x14), none, some (.int 10)]) 75 dX11_sign_73 (Nat.le_of_ble_eq_true rfl) rfl rfl ?_
          exact (hJ75_4 _ _ _ _ h).fewer (rx_le_s (rx_le_s (rx_le_s (rx_le_n (rx_le_s rx_le_0)))))
      refine ev_icmp_ne 65 61 dX11_sign_58 rfl rfl (fun c34 => ?_) (fun c34 => ?_)
      · replace h := rx_if_f c34 h
        exact (hJ65_3 _ _ _ _ h).fewer (rx_le_s (rx_le_s (rx_le_s (rx_le_n (rx_le_s rx_le_0)))))
      · replace h := rx_if_t c34 h
        refine ev_bipush (v := 9) 63 dX11_sign_61 (by decide) rfl ?_
        refine ev_istore (ls' := [some (.ref 94), some (.int x9), some (.int x10), none, some (.int 9)]) 65 dX11_sign_63 (Nat.le_of_ble_eq_true rfl) rfl rfl ?_
        exact (hJ65_3 _ _ _ _ h).fewer (rx_le_s (rx_le_s (rx_le_s (rx_le_n (rx_le_s rx_le_0)))))
    refine ev_icmp_ne 55 51 dX11_sign_48 rfl rfl (fun c35 => ?_) (fun c35 => ?_)
    · replace h := rx_if_f c35 h
      exact (hJ55_2 _ _ _ _ h).fewer (rx_le_s (rx_le_s (rx_le_s (rx_le_n (rx_le_s rx_le_0)))))
    · replace h := rx_if_t c35 h
      refine ev_bipush (v := 8) 53 dX11_sign_51 (by decide) rfl ?_
      refine ev_istore (ls' := [some (.ref 94), some (.int x5), some (.int x6), none, some (.int 8)]) 55 dX11_sign_53 (Nat.le_of_ble_eq_true rfl) rfl rfl ?_
      exact (hJ55_2 _ _ _ _ h).fewer (rx_le_s (rx_le_s (rx_le_s (rx_le_n (rx_le_s rx_le_0)))))
  refine ev_icmp_ne 10 6 dX11_sign_3 rfl rfl (fun c36 => ?_) (fun c36 => ?_)
  · replace h := rx_if_f c36 h
    refine ev_iload_n (i := 2) 11 dX11_sign_10 rfl rfl rfl ?_
    refine ev_bipush (v := 61) 13 dX11_sign_11 (by decide) rfl ?_
    refine ev_icmp_ne 20 16 dX11_sign_13 rfl rfl (fun c37 => ?_) (fun c37 => ?_)
    · replace h := rx_if_f c37 h
      refine ev_iload_n (i := 2) 21 dX11_sign_20 rfl rfl rfl ?_
      refine ev_bipush (v := 40) 23 dX11_sign_21 (by decide) rfl ?_
      refine ev_icmp_ne 31 26 dX11_sign_23 rfl rfl (fun c38 => ?_) (fun c38 => ?_)
      · replace h := rx_if_f c38 h
        refine ev_iload_n (i := 2) 32 dX11_sign_31 rfl rfl rfl ?_
        refine ev_bipush (v := 41) 34 dX11_sign_32 (by decide) rfl ?_
        refine ev_icmp_ne 42 37 dX11_sign_34 rfl rfl (fun c39 => ?_) (fun c39 => ?_)
        · replace h := rx_if_f c39 h
          refine ev_iconst (v := 3) 43 dX11_sign_42 (by decide) rfl ?_
          exact (hJ43_1 _ _ _ _ h).fewer (rx_le_s (rx_le_s (rx_le_s (rx_le_n (rx_le_n rx_le_0)))))
        · replace h := rx_if_t c39 h
          refine ev_bipush (v := 7) 39 dX11_sign_37 (by decide) rfl ?_
          refine ev_goto 43 dX11_sign_39 rfl ?_
          exact (hJ43_1 _ _ _ _ h).fewer (rx_le_s (rx_le_s (rx_le_s (rx_le_n (rx_le_n rx_le_0)))))
      · replace h := rx_if_t c38 h
        refine ev_bipush (v := 6) 28 dX11_sign_26 (by decide) rfl ?_
        refine ev_goto 43 dX11_sign_28 rfl ?_
        exact (hJ43_1 _ _ _ _ h).fewer (rx_le_s (rx_le_s (rx_le_s (rx_le_n (rx_le_n rx_le_0)))))
    · replace h := rx_if_t c37 h
      refine ev_iconst (v := 5) 17 dX11_sign_16 (by decide) rfl ?_
      refine ev_goto 43 dX11_sign_17 rfl ?_
      exact (hJ43_1 _ _ _ _ h).fewer (rx_le_s (rx_le_s (rx_le_s (rx_le_n (rx_le_n rx_le_0)))))
  · replace h := rx_if_t c36 h
    refine ev_iconst (v := 4) 7 dX11_sign_6 (by decide) rfl ?_
    refine ev_goto 43 dX11_sign_7 rfl ?_
    exact (hJ43_1 _ _ _ _ h).fewer (rx_le_s (rx_le_s (rx_le_s (rx_le_n (rx_le_n rx_le_0)))))

def f_X11_cut_L208 (N : Nat) (K250 : Int32 → Int32 → Int32 → rx_S → Option (Unit × rx_S)) : Nat → Int32 → Int32 → Int32 → rx_S → Option (Unit × rx_S)
  | 0, _, _, _, _ => none
  | n + 1, x51, x52, x53, S54 => rx_bd (f_X11_byteAt (x51 + x52) S54) (fun x60 S59 => rx_bd (f_X11_isDigit x60 S59) (fun x63 S62 => if x63 = 0 then (K250 x51 x52 x53 S62) else (if (4 : Int32) ≤ x52 then (rx_let (x52 + 1) (fun x67 => f_X11_cut_L208 N K250 n x51 x67 x53 S62)) else (rx_bd (f_X11_byteAt (x51 + x52) S62) (fun x69 S68 => rx_let ((((10 : Int32) * x53) + x69) - 48) (fun x71 => rx_let (x52 + 1) (fun x72 => f_X11_cut_L208 N K250 n x51 x72 x71 S68)))))))
def f_X11_cut_L146 (N : Nat) (K179 : Int32 → Int32 → Int64 → Int32 → rx_S → Option (Unit × rx_S)) : Nat → Int32 → Int32 → Int64 → Int32 → Int32 → rx_S → Option (Unit × rx_S)
  | 0, _, _, _, _, _, _ => none
  | n + 1, x92, x93, x94, x95, x96, S97 => if (24 : Int32) ≤ x96 then (K179 x92 x93 x94 x95 S97) else (rx_gd x96 24 (if (lg_cmp (S97.2 101 (Int32.toNatClampNeg x96)) x94) = 0 then (rx_let ((20 : Int32) + x96) (fun x107 => rx_let (x96 + 1) (fun x108 => f_X11_cut_L146 N K179 n x92 x93 x94 x107 x108 S97))) else (rx_let (x96 + 1) (fun x106 => f_X11_cut_L146 N K179 n x92 x93 x94 x95 x106 S97))))
def f_X11_cut_L85 (N : Nat) (K124 : Int32 → Int32 → Int64 → rx_S → Option (Unit × rx_S)) : Nat → Int32 → Int32 → Int64 → rx_S → Option (Unit × rx_S)
  | 0, _, _, _, _ => none
  | n + 1, x110, x111, x112, S113 => rx_bd (f_X11_byteAt (x110 + x111) S113) (fun x119 S118 => rx_bd (f_X11_isLetter x119 S118) (fun x122 S121 => if x122 = 0 then (K124 x110 x111 x112 S121) else (if (8 : Int32) ≤ x111 then (rx_let (x111 + 1) (fun x126 => f_X11_cut_L85 N K124 n x110 x126 x112 S121)) else (rx_bd (f_X11_byteAt (x110 + x111) S121) (fun x128 S127 => rx_bd (f_X11_appends x112 x128 S127) (fun x131 S130 => rx_let (x111 + 1) (fun x133 => f_X11_cut_L85 N K124 n x110 x133 x131 S130)))))))
def f_X11_cut_L7 (N : Nat) (K31 : rx_S → Option (Unit × rx_S)) : Nat → Int32 → rx_S → Option (Unit × rx_S)
  | 0, _, _ => none
  | n + 1, x7, S8 => if (400 : Int32) < (S8.1 94 10) then (some ((), S8)) else (rx_bd (f_X11_byteAt x7 S8) (fun x12 S11 => if x7 < (S11.1 94 4) then (if x12 = 9 then (rx_let (x7 + 1) (fun x16 => f_X11_cut_L7 N K31 n x16 S11)) else (if x12 = 10 then (rx_let (x7 + 1) (fun x18 => f_X11_cut_L7 N K31 n x18 S11)) else (if x12 = 13 then (rx_let (x7 + 1) (fun x20 => f_X11_cut_L7 N K31 n x20 S11)) else (if x12 = 32 then (rx_let (x7 + 1) (fun x134 => f_X11_cut_L7 N K31 n x134 S11)) else (rx_bd (f_X11_isLetter x12 S11) (fun x23 S22 => if x23 = 0 then (rx_bd (f_X11_isDigit x12 S22) (fun x27 S26 => if x27 = 0 then (rx_bd (f_X11_byteAt (x7 + 1) S26) (fun x31 S30 => rx_bd (f_X11_sign x7 x12 x31 S30) (fun x34 S33 => rx_let (x7 + x34) (fun x36 => f_X11_cut_L7 N K31 n x36 S33)))) else (rx_let (fun (x37 : Int32) (x38 : Int32) (x39 : Int32) (S40 : rx_S) => rx_let (fun (x41 : Int32) (x42 : Int32) (x43 : Int32) (x44 : Int32) (S45 : rx_S) => rx_bd (f_X11_token x44 x41 x43 (0 : Int64) S45) (fun x47 S46 => rx_let (x41 + x42) (fun x49 => f_X11_cut_L7 N K31 n x49 S46))) (fun J261_3 => if x38 ≤ 4 then (J261_3 x37 x38 x39 2 S40) else (J261_3 x37 x38 x39 3 S40))) (fun J250_2 => f_X11_cut_L208 N J250_2 N x7 0 0 S26)))) else (rx_let (fun (x73 : Int32) (x74 : Int32) (x75 : Int64) (S76 : rx_S) => rx_let (fun (x77 : Int32) (x78 : Int32) (x79 : Int64) (x80 : Int32) (S81 : rx_S) => rx_let (fun (x82 : Int32) (x83 : Int32) (x84 : Int64) (x85 : Int32) (S86 : rx_S) => rx_bd (f_X11_token x85 x82 0 x84 S86) (fun x88 S87 => rx_let (x82 + x83) (fun x90 => f_X11_cut_L7 N K31 n x90 S87))) (fun J179_6 => if (8 : Int32) < x78 then (J179_6 x77 x78 x79 x80 S81) else (f_X11_cut_L146 N J179_6 N x77 x78 x79 x80 0 S81))) (fun J135_5 => if x74 ≤ 8 then (J135_5 x73 x74 x75 1 S76) else (J135_5 x73 x74 x75 3 S76))) (fun J124_4 => f_X11_cut_L85 N J124_4 N x7 0 (0 : Int64) S22)))))))) else (K31 S11)))
def f_X11_cut (N : Nat) (S0 : rx_S) : Option (Unit × rx_S) := rx_let (rx_ui S0 94 10 0) (fun S2 => rx_let (fun (S3 : rx_S) => rx_bd (f_X11_token 0 (S3.1 94 4) 0 (0 : Int64) S3) (fun x5 S4 => some ((), S4))) (fun J31_1 => f_X11_cut_L7 N J31_1 N 0 S2))
set_option maxHeartbeats 4000000 in
set_option maxRecDepth 20000 in
theorem em_X11_cut_L208 {d N : Nat} {K250 : Int32 → Int32 → Int32 → rx_S → Option (Unit × rx_S)} {zr : Unit} {zS : rx_S} (hK250 : ∀ (x55 : Int32) (x56 : Int32) (x57 : Int32) (S58 : rx_S), K250 x55 x56 x57 S58 = some (zr, zS) → EV gM (d + 2) mX11_cut 250 [some (.ref 94), some (.int x55), none, some (.int x56), some (.int x57), none, none, none] [] S58 (rx_pv zS)) : ∀ (n : Nat) (x51 : Int32) (x52 : Int32) (x53 : Int32) (S54 : rx_S), f_X11_cut_L208 N K250 n x51 x52 x53 S54 = some (zr, zS) → EV gM (d + 2) mX11_cut 208 [some (.ref 94), some (.int x51), none, some (.int x52), some (.int x53), none, none, none] [] S54 (rx_pv zS) := by
  intro n
  induction n with
  | zero => intro x51 x52 x53 S54 h; cases h
  | succ n ih =>
    intro x51 x52 x53 S54 h
    rw [f_X11_cut_L208] at h
    refine ev_aload_n (i := 0) 209 dX11_cut_208 rfl rfl rfl ?_
    refine ev_iload_n (i := 1) 210 dX11_cut_209 rfl rfl rfl ?_
    refine ev_iload_n (i := 3) 211 dX11_cut_210 rfl rfl rfl ?_
    refine ev_iadd 212 dX11_cut_211 rfl ?_
    obtain ⟨x60, S59, g61, h⟩ := rx_bd_o h
    refine ev_cVi1 215 dX11_cut_212 (em_X11_byteAt g61) mm_X11_byteAt mv_X11_byteAt lk_11_184 dk_94 (by decide) rfl (Nat.le_of_ble_eq_true rfl) (Nat.le_of_ble_eq_true rfl) rfl ?_
    obtain ⟨x63, S62, g64, h⟩ := rx_bd_o h
    refine ev_cSi1 218 dX11_cut_215 (em_X11_isDigit g64) mm_X11_isDigit ms_X11_isDigit lk_11_196 (Nat.le_of_ble_eq_true rfl) (Nat.le_of_ble_eq_true rfl) rfl ?_
    refine ev_if_eq 250 221 dX11_cut_218 rfl rfl (fun c65 => ?_) (fun c65 => ?_)
    · replace h := rx_if_t c65 h
      exact (hK250 _ _ _ _ h).fewer (rx_le_s (rx_le_s (rx_le_n (rx_le_s (rx_le_s (rx_le_n (rx_le_n (rx_le_n rx_le_0))))))))
    · replace h := rx_if_f c65 h
      refine ev_iload_n (i := 3) 222 dX11_cut_221 rfl rfl rfl ?_
      refine ev_iconst (v := 4) 223 dX11_cut_222 (by decide) rfl ?_
      refine ev_icmp_ge 244 226 dX11_cut_223 rfl rfl (fun c66 => ?_) (fun c66 => ?_)
      · replace h := rx_if_t c66 h
        obtain ⟨x67, ex67, h⟩ := rx_let_o h
        refine ev_iinc (v := x67) (ls' := [some (.ref 94), some (.int x51), none, some (.int x67), some (.int x53), none, none, none]) 247 dX11_cut_244 rfl (by rw [ex67]; rfl) (Nat.le_of_ble_eq_true rfl) rfl rfl ?_
        refine ev_goto 208 dX11_cut_247 rfl ?_
        exact (ih _ _ _ _ h).fewer (rx_le_s (rx_le_s (rx_le_n (rx_le_s (rx_le_s (rx_le_n (rx_le_n (rx_le_n rx_le_0))))))))
      · replace h := rx_if_f c66 h
        refine ev_bipush (v := 10) 228 dX11_cut_226 (by decide) rfl ?_
        refine ev_iload 230 dX11_cut_228 rfl rfl ?_
        refine ev_imul 231 dX11_cut_230 rfl ?_
        refine ev_aload_n (i := 0) 232 dX11_cut_231 rfl rfl rfl ?_
        refine ev_iload_n (i := 1) 233 dX11_cut_232 rfl rfl rfl ?_
        refine ev_iload_n (i := 3) 234 dX11_cut_233 rfl rfl rfl ?_
        refine ev_iadd 235 dX11_cut_234 rfl ?_
        obtain ⟨x69, S68, g70, h⟩ := rx_bd_o h
        refine ev_cVi1 238 dX11_cut_235 (em_X11_byteAt g70) mm_X11_byteAt mv_X11_byteAt lk_11_184 dk_94 (by decide) rfl (Nat.le_of_ble_eq_true rfl) (Nat.le_of_ble_eq_true rfl) rfl ?_
        refine ev_iadd 239 dX11_cut_238 rfl ?_
        refine ev_bipush (v := 48) 241 dX11_cut_239 (by decide) rfl ?_
        refine ev_isub 242 dX11_cut_241 rfl ?_
        obtain ⟨x71, ex71, h⟩ := rx_let_o h
        refine ev_nm ex71 ?_
        refine ev_istore (ls' := [some (.ref 94), some (.int x51), none, some (.int x52), some (.int x71), none, none, none]) 244 dX11_cut_242 (Nat.le_of_ble_eq_true rfl) rfl rfl ?_
        obtain ⟨x72, ex72, h⟩ := rx_let_o h
        refine ev_iinc (v := x72) (ls' := [some (.ref 94), some (.int x51), none, some (.int x72), some (.int x71), none, none, none]) 247 dX11_cut_244 rfl (by rw [ex72]; rfl) (Nat.le_of_ble_eq_true rfl) rfl rfl ?_
        refine ev_goto 208 dX11_cut_247 rfl ?_
        exact (ih _ _ _ _ h).fewer (rx_le_s (rx_le_s (rx_le_n (rx_le_s (rx_le_s (rx_le_n (rx_le_n (rx_le_n rx_le_0))))))))

set_option maxHeartbeats 4000000 in
set_option maxRecDepth 20000 in
theorem em_X11_cut_L146 {d N : Nat} {K179 : Int32 → Int32 → Int64 → Int32 → rx_S → Option (Unit × rx_S)} {zr : Unit} {zS : rx_S} (hK179 : ∀ (x98 : Int32) (x99 : Int32) (x100 : Int64) (x101 : Int32) (S102 : rx_S), K179 x98 x99 x100 x101 S102 = some (zr, zS) → EV gM (d + 2) mX11_cut 179 [some (.ref 94), some (.int x98), none, some (.int x99), some (.long x100), none, some (.int x101), none] [] S102 (rx_pv zS)) : ∀ (n : Nat) (x92 : Int32) (x93 : Int32) (x94 : Int64) (x95 : Int32) (x96 : Int32) (S97 : rx_S), f_X11_cut_L146 N K179 n x92 x93 x94 x95 x96 S97 = some (zr, zS) → EV gM (d + 2) mX11_cut 146 [some (.ref 94), some (.int x92), none, some (.int x93), some (.long x94), none, some (.int x95), some (.int x96)] [] S97 (rx_pv zS) := by
  intro n
  induction n with
  | zero => intro x92 x93 x94 x95 x96 S97 h; cases h
  | succ n ih =>
    intro x92 x93 x94 x95 x96 S97 h
    rw [f_X11_cut_L146] at h
    refine ev_iload 148 dX11_cut_146 rfl rfl ?_
    refine ev_bipush (v := 24) 150 dX11_cut_148 (by decide) rfl ?_
    refine ev_icmp_ge 179 153 dX11_cut_150 rfl rfl (fun c103 => ?_) (fun c103 => ?_)
    · replace h := rx_if_t c103 h
      exact (hK179 _ _ _ _ _ h).fewer (rx_le_s (rx_le_s (rx_le_n (rx_le_s (rx_le_s (rx_le_n (rx_le_s (rx_le_n rx_le_0))))))))
    · replace h := rx_if_f c103 h
      refine ev_aload_n (i := 0) 154 dX11_cut_153 rfl rfl rfl ?_
      refine ev_get (v := .ref 101) 157 dX11_cut_154 dk_94 fl_11_34 (by decide) rfl rfl rfl ?_
      refine ev_iload 159 dX11_cut_157 rfl rfl ?_
      obtain ⟨g104, h⟩ := rx_gd_o h
      refine ex_lald _ 160 dX11_cut_159 dk_101 g104 rfl rfl ?_
      refine ev_lload 162 dX11_cut_160 rfl rfl ?_
      refine ev_lcmp 163 dX11_cut_162 rfl ?_
      refine ev_if_ne 173 166 dX11_cut_163 rfl rfl (fun c105 => ?_) (fun c105 => ?_)
      · replace h := rx_if_f c105 h
        obtain ⟨x106, ex106, h⟩ := rx_let_o h
        refine ev_iinc (v := x106) (ls' := [some (.ref 94), some (.int x92), none, some (.int x93), some (.long x94), none, some (.int x95), some (.int x106)]) 176 dX11_cut_173 rfl (by rw [ex106]; rfl) (Nat.le_of_ble_eq_true rfl) rfl rfl ?_
        refine ev_goto 146 dX11_cut_176 rfl ?_
        exact (ih _ _ _ _ _ _ h).fewer (rx_le_s (rx_le_s (rx_le_n (rx_le_s (rx_le_s (rx_le_n (rx_le_s (rx_le_s rx_le_0))))))))
      · replace h := rx_if_t c105 h
        refine ev_bipush (v := 20) 168 dX11_cut_166 (by decide) rfl ?_
        refine ev_iload 170 dX11_cut_168 rfl rfl ?_
        refine ev_iadd 171 dX11_cut_170 rfl ?_
        obtain ⟨x107, ex107, h⟩ := rx_let_o h
        refine ev_nm ex107 ?_
        refine ev_istore (ls' := [some (.ref 94), some (.int x92), none, some (.int x93), some (.long x94), none, some (.int x107), some (.int x96)]) 173 dX11_cut_171 (Nat.le_of_ble_eq_true rfl) rfl rfl ?_
        obtain ⟨x108, ex108, h⟩ := rx_let_o h
        refine ev_iinc (v := x108) (ls' := [some (.ref 94), some (.int x92), none, some (.int x93), some (.long x94), none, some (.int x107), some (.int x108)]) 176 dX11_cut_173 rfl (by rw [ex108]; rfl) (Nat.le_of_ble_eq_true rfl) rfl rfl ?_
        refine ev_goto 146 dX11_cut_176 rfl ?_
        exact (ih _ _ _ _ _ _ h).fewer (rx_le_s (rx_le_s (rx_le_n (rx_le_s (rx_le_s (rx_le_n (rx_le_s (rx_le_s rx_le_0))))))))

set_option maxHeartbeats 4000000 in
set_option maxRecDepth 20000 in
theorem em_X11_cut_L85 {d N : Nat} {K124 : Int32 → Int32 → Int64 → rx_S → Option (Unit × rx_S)} {zr : Unit} {zS : rx_S} (hK124 : ∀ (x114 : Int32) (x115 : Int32) (x116 : Int64) (S117 : rx_S), K124 x114 x115 x116 S117 = some (zr, zS) → EV gM (d + 2) mX11_cut 124 [some (.ref 94), some (.int x114), none, some (.int x115), some (.long x116), none, none, none] [] S117 (rx_pv zS)) : ∀ (n : Nat) (x110 : Int32) (x111 : Int32) (x112 : Int64) (S113 : rx_S), f_X11_cut_L85 N K124 n x110 x111 x112 S113 = some (zr, zS) → EV gM (d + 2) mX11_cut 85 [some (.ref 94), some (.int x110), none, some (.int x111), some (.long x112), none, none, none] [] S113 (rx_pv zS) := by
  intro n
  induction n with
  | zero => intro x110 x111 x112 S113 h; cases h
  | succ n ih =>
    intro x110 x111 x112 S113 h
    rw [f_X11_cut_L85] at h
    refine ev_aload_n (i := 0) 86 dX11_cut_85 rfl rfl rfl ?_
    refine ev_iload_n (i := 1) 87 dX11_cut_86 rfl rfl rfl ?_
    refine ev_iload_n (i := 3) 88 dX11_cut_87 rfl rfl rfl ?_
    refine ev_iadd 89 dX11_cut_88 rfl ?_
    obtain ⟨x119, S118, g120, h⟩ := rx_bd_o h
    refine ev_cVi1 92 dX11_cut_89 (em_X11_byteAt g120) mm_X11_byteAt mv_X11_byteAt lk_11_184 dk_94 (by decide) rfl (Nat.le_of_ble_eq_true rfl) (Nat.le_of_ble_eq_true rfl) rfl ?_
    obtain ⟨x122, S121, g123, h⟩ := rx_bd_o h
    refine ev_cSi1 95 dX11_cut_92 (em_X11_isLetter g123) mm_X11_isLetter ms_X11_isLetter lk_11_192 (Nat.le_of_ble_eq_true rfl) (Nat.le_of_ble_eq_true rfl) rfl ?_
    refine ev_if_eq 124 98 dX11_cut_95 rfl rfl (fun c124 => ?_) (fun c124 => ?_)
    · replace h := rx_if_t c124 h
      exact (hK124 _ _ _ _ h).fewer (rx_le_s (rx_le_s (rx_le_n (rx_le_s (rx_le_s (rx_le_n (rx_le_n (rx_le_n rx_le_0))))))))
    · replace h := rx_if_f c124 h
      refine ev_iload_n (i := 3) 99 dX11_cut_98 rfl rfl rfl ?_
      refine ev_bipush (v := 8) 101 dX11_cut_99 (by decide) rfl ?_
      refine ev_icmp_ge 118 104 dX11_cut_101 rfl rfl (fun c125 => ?_) (fun c125 => ?_)
      · replace h := rx_if_t c125 h
        obtain ⟨x126, ex126, h⟩ := rx_let_o h
        refine ev_iinc (v := x126) (ls' := [some (.ref 94), some (.int x110), none, some (.int x126), some (.long x112), none, none, none]) 121 dX11_cut_118 rfl (by rw [ex126]; rfl) (Nat.le_of_ble_eq_true rfl) rfl rfl ?_
        refine ev_goto 85 dX11_cut_121 rfl ?_
        exact (ih _ _ _ _ h).fewer (rx_le_s (rx_le_s (rx_le_n (rx_le_s (rx_le_s (rx_le_n (rx_le_n (rx_le_n rx_le_0))))))))
      · replace h := rx_if_f c125 h
        refine ev_lload 106 dX11_cut_104 rfl rfl ?_
        refine ev_aload_n (i := 0) 107 dX11_cut_106 rfl rfl rfl ?_
        refine ev_iload_n (i := 1) 108 dX11_cut_107 rfl rfl rfl ?_
        refine ev_iload_n (i := 3) 109 dX11_cut_108 rfl rfl rfl ?_
        refine ev_iadd 110 dX11_cut_109 rfl ?_
        obtain ⟨x128, S127, g129, h⟩ := rx_bd_o h
        refine ev_cVi1 113 dX11_cut_110 (em_X11_byteAt g129) mm_X11_byteAt mv_X11_byteAt lk_11_184 dk_94 (by decide) rfl (Nat.le_of_ble_eq_true rfl) (Nat.le_of_ble_eq_true rfl) rfl ?_
        obtain ⟨x131, S130, g132, h⟩ := rx_bd_o h
        refine ev_cSl2 116 dX11_cut_113 (em_X11_appends g132) mm_X11_appends ms_X11_appends lk_11_177 (Nat.le_of_ble_eq_true rfl) (Nat.le_of_ble_eq_true rfl) rfl ?_
        refine ev_lstore (ls' := [some (.ref 94), some (.int x110), none, some (.int x111), some (.long x131), none, none, none]) 118 dX11_cut_116 (Nat.le_of_ble_eq_true rfl) rfl rfl ?_
        obtain ⟨x133, ex133, h⟩ := rx_let_o h
        refine ev_iinc (v := x133) (ls' := [some (.ref 94), some (.int x110), none, some (.int x133), some (.long x131), none, none, none]) 121 dX11_cut_118 rfl (by rw [ex133]; rfl) (Nat.le_of_ble_eq_true rfl) rfl rfl ?_
        refine ev_goto 85 dX11_cut_121 rfl ?_
        exact (ih _ _ _ _ h).fewer (rx_le_s (rx_le_s (rx_le_n (rx_le_s (rx_le_s (rx_le_n (rx_le_n (rx_le_n rx_le_0))))))))

set_option maxHeartbeats 4000000 in
set_option maxRecDepth 20000 in
theorem em_X11_cut_L7 {d N : Nat} {K31 : rx_S → Option (Unit × rx_S)} {zr : Unit} {zS : rx_S} (hK31 : ∀ (S9 : rx_S), K31 S9 = some (zr, zS) → EV gM (d + 2) mX11_cut 31 [some (.ref 94), none, none, none, none, none, none, none] [] S9 (rx_pv zS)) : ∀ (n : Nat) (x7 : Int32) (S8 : rx_S), f_X11_cut_L7 N K31 n x7 S8 = some (zr, zS) → EV gM (d + 2) mX11_cut 7 [some (.ref 94), some (.int x7), none, none, none, none, none, none] [] S8 (rx_pv zS) := by
  intro n
  induction n with
  | zero => intro x7 S8 h; cases h
  | succ n ih =>
    intro x7 S8 h
    rw [f_X11_cut_L7] at h
    refine ev_aload_n (i := 0) 8 dX11_cut_7 rfl rfl rfl ?_
    refine ev_get (v := .int (S8.1 94 10)) 11 dX11_cut_8 dk_94 fl_11_181 (by decide) rfl rfl rfl ?_
    refine ev_sipush (v := 400) 14 dX11_cut_11 (by decide) rfl ?_
    refine ev_icmp_gt 294 17 dX11_cut_14 rfl rfl (fun c10 => ?_) (fun c10 => ?_)
    · replace h := rx_if_t c10 h
      exact ev_return dX11_cut_294 rfl (rx_ret_v h)
    · replace h := rx_if_f c10 h
      refine ev_aload_n (i := 0) 18 dX11_cut_17 rfl rfl rfl ?_
      refine ev_iload_n (i := 1) 19 dX11_cut_18 rfl rfl rfl ?_
      obtain ⟨x12, S11, g13, h⟩ := rx_bd_o h
      refine ev_cVi1 22 dX11_cut_19 (em_X11_byteAt g13) mm_X11_byteAt mv_X11_byteAt lk_11_184 dk_94 (by decide) rfl (Nat.le_of_ble_eq_true rfl) (Nat.le_of_ble_eq_true rfl) rfl ?_
      refine ev_istore_n (ls' := [some (.ref 94), some (.int x7), some (.int x12), none, none, none, none, none]) 23 dX11_cut_22 rfl (Nat.le_of_ble_eq_true rfl) rfl rfl ?_
      refine ev_iload_n (i := 1) 24 dX11_cut_23 rfl rfl rfl ?_
      refine ev_aload_n (i := 0) 25 dX11_cut_24 rfl rfl rfl ?_
      refine ev_get (v := .int (S11.1 94 4)) 28 dX11_cut_25 dk_94 fl_11_172 (by decide) rfl rfl rfl ?_
      refine ev_icmp_lt 43 31 dX11_cut_28 rfl rfl (fun c14 => ?_) (fun c14 => ?_)
      · replace h := rx_if_t c14 h
        refine ev_iload_n (i := 2) 44 dX11_cut_43 rfl rfl rfl ?_
        refine ev_bipush (v := 9) 46 dX11_cut_44 (by decide) rfl ?_
        refine ev_icmp_eq 67 49 dX11_cut_46 rfl rfl (fun c15 => ?_) (fun c15 => ?_)
        · replace h := rx_if_t c15 h
          obtain ⟨x16, ex16, h⟩ := rx_let_o h
          refine ev_iinc (v := x16) (ls' := [some (.ref 94), some (.int x16), some (.int x12), none, none, none, none, none]) 70 dX11_cut_67 rfl (by rw [ex16]; rfl) (Nat.le_of_ble_eq_true rfl) rfl rfl ?_
          refine ev_goto 291 dX11_cut_70 rfl ?_
          refine ev_goto 7 dX11_cut_291 rfl ?_
          exact (ih _ _ h).fewer (rx_le_s (rx_le_s (rx_le_n (rx_le_n (rx_le_n (rx_le_n (rx_le_n (rx_le_n rx_le_0))))))))
        · replace h := rx_if_f c15 h
          refine ev_iload_n (i := 2) 50 dX11_cut_49 rfl rfl rfl ?_
          refine ev_bipush (v := 10) 52 dX11_cut_50 (by decide) rfl ?_
          refine ev_icmp_eq 67 55 dX11_cut_52 rfl rfl (fun c17 => ?_) (fun c17 => ?_)
          · replace h := rx_if_t c17 h
            obtain ⟨x18, ex18, h⟩ := rx_let_o h
            refine ev_iinc (v := x18) (ls' := [some (.ref 94), some (.int x18), some (.int x12), none, none, none, none, none]) 70 dX11_cut_67 rfl (by rw [ex18]; rfl) (Nat.le_of_ble_eq_true rfl) rfl rfl ?_
            refine ev_goto 291 dX11_cut_70 rfl ?_
            refine ev_goto 7 dX11_cut_291 rfl ?_
            exact (ih _ _ h).fewer (rx_le_s (rx_le_s (rx_le_n (rx_le_n (rx_le_n (rx_le_n (rx_le_n (rx_le_n rx_le_0))))))))
          · replace h := rx_if_f c17 h
            refine ev_iload_n (i := 2) 56 dX11_cut_55 rfl rfl rfl ?_
            refine ev_bipush (v := 13) 58 dX11_cut_56 (by decide) rfl ?_
            refine ev_icmp_eq 67 61 dX11_cut_58 rfl rfl (fun c19 => ?_) (fun c19 => ?_)
            · replace h := rx_if_t c19 h
              obtain ⟨x20, ex20, h⟩ := rx_let_o h
              refine ev_iinc (v := x20) (ls' := [some (.ref 94), some (.int x20), some (.int x12), none, none, none, none, none]) 70 dX11_cut_67 rfl (by rw [ex20]; rfl) (Nat.le_of_ble_eq_true rfl) rfl rfl ?_
              refine ev_goto 291 dX11_cut_70 rfl ?_
              refine ev_goto 7 dX11_cut_291 rfl ?_
              exact (ih _ _ h).fewer (rx_le_s (rx_le_s (rx_le_n (rx_le_n (rx_le_n (rx_le_n (rx_le_n (rx_le_n rx_le_0))))))))
            · replace h := rx_if_f c19 h
              refine ev_iload_n (i := 2) 62 dX11_cut_61 rfl rfl rfl ?_
              refine ev_bipush (v := 32) 64 dX11_cut_62 (by decide) rfl ?_
              refine ev_icmp_ne 73 67 dX11_cut_64 rfl rfl (fun c21 => ?_) (fun c21 => ?_)
              · replace h := rx_if_f c21 h
                refine ev_iload_n (i := 2) 74 dX11_cut_73 rfl rfl rfl ?_
                obtain ⟨x23, S22, g24, h⟩ := rx_bd_o h
                refine ev_cSi1 77 dX11_cut_74 (em_X11_isLetter g24) mm_X11_isLetter ms_X11_isLetter lk_11_192 (Nat.le_of_ble_eq_true rfl) (Nat.le_of_ble_eq_true rfl) rfl ?_
                refine ev_if_eq 196 80 dX11_cut_77 rfl rfl (fun c25 => ?_) (fun c25 => ?_)
                · replace h := rx_if_t c25 h
                  refine ev_iload_n (i := 2) 197 dX11_cut_196 rfl rfl rfl ?_
                  obtain ⟨x27, S26, g28, h⟩ := rx_bd_o h
                  refine ev_cSi1 200 dX11_cut_197 (em_X11_isDigit g28) mm_X11_isDigit ms_X11_isDigit lk_11_196 (Nat.le_of_ble_eq_true rfl) (Nat.le_of_ble_eq_true rfl) rfl ?_
                  refine ev_if_eq 275 203 dX11_cut_200 rfl rfl (fun c29 => ?_) (fun c29 => ?_)
                  · replace h := rx_if_t c29 h
                    refine ev_iload_n (i := 1) 276 dX11_cut_275 rfl rfl rfl ?_
                    refine ev_aload_n (i := 0) 277 dX11_cut_276 rfl rfl rfl ?_
                    refine ev_iload_n (i := 1) 278 dX11_cut_277 rfl rfl rfl ?_
                    refine ev_iload_n (i := 2) 279 dX11_cut_278 rfl rfl rfl ?_
                    refine ev_aload_n (i := 0) 280 dX11_cut_279 rfl rfl rfl ?_
                    refine ev_iload_n (i := 1) 281 dX11_cut_280 rfl rfl rfl ?_
                    refine ev_iconst (v := 1) 282 dX11_cut_281 (by decide) rfl ?_
                    refine ev_iadd 283 dX11_cut_282 rfl ?_
                    obtain ⟨x31, S30, g32, h⟩ := rx_bd_o h
                    refine ev_cVi1 286 dX11_cut_283 (em_X11_byteAt g32) mm_X11_byteAt mv_X11_byteAt lk_11_184 dk_94 (by decide) rfl (Nat.le_of_ble_eq_true rfl) (Nat.le_of_ble_eq_true rfl) rfl ?_
                    obtain ⟨x34, S33, g35, h⟩ := rx_bd_o h
                    refine ev_cVi3 289 dX11_cut_286 (em_X11_sign g35) mm_X11_sign mv_X11_sign lk_11_199 dk_94 (by decide) rfl (Nat.le_of_ble_eq_true rfl) (Nat.le_of_ble_eq_true rfl) rfl ?_
                    refine ev_iadd 290 dX11_cut_289 rfl ?_
                    obtain ⟨x36, ex36, h⟩ := rx_let_o h
                    refine ev_nm ex36 ?_
                    refine ev_istore_n (ls' := [some (.ref 94), some (.int x36), some (.int x12), none, none, none, none, none]) 291 dX11_cut_290 rfl (Nat.le_of_ble_eq_true rfl) rfl rfl ?_
                    refine ev_goto 7 dX11_cut_291 rfl ?_
                    exact (ih _ _ h).fewer (rx_le_s (rx_le_s (rx_le_n (rx_le_n (rx_le_n (rx_le_n (rx_le_n (rx_le_n rx_le_0))))))))
                  · replace h := rx_if_f c29 h
                    refine ev_iconst (v := 0) 204 dX11_cut_203 (by decide) rfl ?_
                    refine ev_istore_n (ls' := [some (.ref 94), some (.int x7), some (.int x12), some (.int 0), none, none, none, none]) 205 dX11_cut_204 rfl (Nat.le_of_ble_eq_true rfl) rfl rfl ?_
                    refine ev_iconst (v := 0) 206 dX11_cut_205 (by decide) rfl ?_
                    refine ev_istore (ls' := [some (.ref 94), some (.int x7), some (.int x12), some (.int 0), some (.int 0), none, none, none]) 208 dX11_cut_206 (Nat.le_of_ble_eq_true rfl) rfl rfl ?_
                    obtain ⟨J250_2, eJ250_2, h⟩ := rx_let_o h
                    have hJ250_2 : ∀ (x37 : Int32) (x38 : Int32) (x39 : Int32) (S40 : rx_S), J250_2 x37 x38 x39 S40 = some (zr, zS) → EV gM (d + 2) mX11_cut 250 [some (.ref 94), some (.int x37), none, some (.int x38), some (.int x39), none, none, none] [] S40 (rx_pv zS) := by
                      intro x37 x38 x39 S40 h
                      subst eJ250_2
                      refine ev_aload_n (i := 0) 251 dX11_cut_250 rfl rfl rfl ?_
                      refine ev_iload_n (i := 3) 252 dX11_cut_251 rfl rfl rfl ?_
                      refine ev_iconst (v := 4) 253 dX11_cut_252 (by decide) rfl ?_
                      obtain ⟨J261_3, eJ261_3, h⟩ := rx_let_o h
                      have hJ261_3 : ∀ (x41 : Int32) (x42 : Int32) (x43 : Int32) (x44 : Int32) (S45 : rx_S), J261_3 x41 x42 x43 x44 S45 = some (zr, zS) → EV gM (d + 2) mX11_cut 261 [some (.ref 94), some (.int x41), none, some (.int x42), some (.int x43), none, none, none] [.int x44, .ref 94] S45 (rx_pv zS) := by
                        intro x41 x42 x43 x44 S45 h
                        subst eJ261_3
                        refine ev_iload_n (i := 1) 262 dX11_cut_261 rfl rfl rfl ?_
                        refine ev_iload 264 dX11_cut_262 rfl rfl ?_
                        refine ev_lconst (v := 0) 265 dX11_cut_264 (by decide) rfl ?_
                        obtain ⟨x47, S46, g48, h⟩ := rx_bd_o h
                        refine ev_cVv4 268 dX11_cut_265 (em_X11_token g48) mm_X11_token mv_X11_token lk_11_188 dk_94 (by decide) rfl (Nat.le_of_ble_eq_true rfl) (Nat.le_of_ble_eq_true rfl) rfl ?_
                        refine ev_iload_n (i := 1) 269 dX11_cut_268 rfl rfl rfl ?_
                        refine ev_iload_n (i := 3) 270 dX11_cut_269 rfl rfl rfl ?_
                        refine ev_iadd 271 dX11_cut_270 rfl ?_
                        obtain ⟨x49, ex49, h⟩ := rx_let_o h
                        refine ev_nm ex49 ?_
                        refine ev_istore_n (ls' := [some (.ref 94), some (.int x49), none, some (.int x42), some (.int x43), none, none, none]) 272 dX11_cut_271 rfl (Nat.le_of_ble_eq_true rfl) rfl rfl ?_
                        refine ev_goto 291 dX11_cut_272 rfl ?_
                        refine ev_goto 7 dX11_cut_291 rfl ?_
                        exact (ih _ _ h).fewer (rx_le_s (rx_le_s (rx_le_n (rx_le_n (rx_le_n (rx_le_n (rx_le_n (rx_le_n rx_le_0))))))))
                      refine ev_icmp_le 260 256 dX11_cut_253 rfl rfl (fun c50 => ?_) (fun c50 => ?_)
                      · replace h := rx_if_t c50 h
                        refine ev_iconst (v := 2) 261 dX11_cut_260 (by decide) rfl ?_
                        exact (hJ261_3 _ _ _ _ _ h).fewer (rx_le_s (rx_le_s (rx_le_n (rx_le_s (rx_le_s (rx_le_n (rx_le_n (rx_le_n rx_le_0))))))))
                      · replace h := rx_if_f c50 h
                        refine ev_iconst (v := 3) 257 dX11_cut_256 (by decide) rfl ?_
                        refine ev_goto 261 dX11_cut_257 rfl ?_
                        exact (hJ261_3 _ _ _ _ _ h).fewer (rx_le_s (rx_le_s (rx_le_n (rx_le_s (rx_le_s (rx_le_n (rx_le_n (rx_le_n rx_le_0))))))))
                    exact (em_X11_cut_L208 hJ250_2 _ _ _ _ _ h).fewer (rx_le_s (rx_le_s (rx_le_n (rx_le_s (rx_le_s (rx_le_n (rx_le_n (rx_le_n rx_le_0))))))))
                · replace h := rx_if_f c25 h
                  refine ev_iconst (v := 0) 81 dX11_cut_80 (by decide) rfl ?_
                  refine ev_istore_n (ls' := [some (.ref 94), some (.int x7), some (.int x12), some (.int 0), none, none, none, none]) 82 dX11_cut_81 rfl (Nat.le_of_ble_eq_true rfl) rfl rfl ?_
                  refine ev_lconst (v := 0) 83 dX11_cut_82 (by decide) rfl ?_
                  refine ev_lstore (ls' := [some (.ref 94), some (.int x7), some (.int x12), some (.int 0), some (.long (0 : Int64)), none, none, none]) 85 dX11_cut_83 (Nat.le_of_ble_eq_true rfl) rfl rfl ?_
                  obtain ⟨J124_4, eJ124_4, h⟩ := rx_let_o h
                  have hJ124_4 : ∀ (x73 : Int32) (x74 : Int32) (x75 : Int64) (S76 : rx_S), J124_4 x73 x74 x75 S76 = some (zr, zS) → EV gM (d + 2) mX11_cut 124 [some (.ref 94), some (.int x73), none, some (.int x74), some (.long x75), none, none, none] [] S76 (rx_pv zS) := by
                    intro x73 x74 x75 S76 h
                    subst eJ124_4
                    refine ev_iload_n (i := 3) 125 dX11_cut_124 rfl rfl rfl ?_
                    refine ev_bipush (v := 8) 127 dX11_cut_125 (by decide) rfl ?_
                    obtain ⟨J135_5, eJ135_5, h⟩ := rx_let_o h
                    have hJ135_5 : ∀ (x77 : Int32) (x78 : Int32) (x79 : Int64) (x80 : Int32) (S81 : rx_S), J135_5 x77 x78 x79 x80 S81 = some (zr, zS) → EV gM (d + 2) mX11_cut 135 [some (.ref 94), some (.int x77), none, some (.int x78), some (.long x79), none, none, none] [.int x80] S81 (rx_pv zS) := by
                      intro x77 x78 x79 x80 S81 h
                      subst eJ135_5
                      refine ev_istore (ls' := [some (.ref 94), some (.int x77), none, some (.int x78), some (.long x79), none, some (.int x80), none]) 137 dX11_cut_135 (Nat.le_of_ble_eq_true rfl) rfl rfl ?_
                      refine ev_iload_n (i := 3) 138 dX11_cut_137 rfl rfl rfl ?_
                      refine ev_bipush (v := 8) 140 dX11_cut_138 (by decide) rfl ?_
                      obtain ⟨J179_6, eJ179_6, h⟩ := rx_let_o h
                      have hJ179_6 : ∀ (x82 : Int32) (x83 : Int32) (x84 : Int64) (x85 : Int32) (S86 : rx_S), J179_6 x82 x83 x84 x85 S86 = some (zr, zS) → EV gM (d + 2) mX11_cut 179 [some (.ref 94), some (.int x82), none, some (.int x83), some (.long x84), none, some (.int x85), none] [] S86 (rx_pv zS) := by
                        intro x82 x83 x84 x85 S86 h
                        subst eJ179_6
                        refine ev_aload_n (i := 0) 180 dX11_cut_179 rfl rfl rfl ?_
                        refine ev_iload 182 dX11_cut_180 rfl rfl ?_
                        refine ev_iload_n (i := 1) 183 dX11_cut_182 rfl rfl rfl ?_
                        refine ev_iconst (v := 0) 184 dX11_cut_183 (by decide) rfl ?_
                        refine ev_lload 186 dX11_cut_184 rfl rfl ?_
                        obtain ⟨x88, S87, g89, h⟩ := rx_bd_o h
                        refine ev_cVv4 189 dX11_cut_186 (em_X11_token g89) mm_X11_token mv_X11_token lk_11_188 dk_94 (by decide) rfl (Nat.le_of_ble_eq_true rfl) (Nat.le_of_ble_eq_true rfl) rfl ?_
                        refine ev_iload_n (i := 1) 190 dX11_cut_189 rfl rfl rfl ?_
                        refine ev_iload_n (i := 3) 191 dX11_cut_190 rfl rfl rfl ?_
                        refine ev_iadd 192 dX11_cut_191 rfl ?_
                        obtain ⟨x90, ex90, h⟩ := rx_let_o h
                        refine ev_nm ex90 ?_
                        refine ev_istore_n (ls' := [some (.ref 94), some (.int x90), none, some (.int x83), some (.long x84), none, some (.int x85), none]) 193 dX11_cut_192 rfl (Nat.le_of_ble_eq_true rfl) rfl rfl ?_
                        refine ev_goto 291 dX11_cut_193 rfl ?_
                        refine ev_goto 7 dX11_cut_291 rfl ?_
                        exact (ih _ _ h).fewer (rx_le_s (rx_le_s (rx_le_n (rx_le_n (rx_le_n (rx_le_n (rx_le_n (rx_le_n rx_le_0))))))))
                      refine ev_icmp_gt 179 143 dX11_cut_140 rfl rfl (fun c91 => ?_) (fun c91 => ?_)
                      · replace h := rx_if_t c91 h
                        exact (hJ179_6 _ _ _ _ _ h).fewer (rx_le_s (rx_le_s (rx_le_n (rx_le_s (rx_le_s (rx_le_n (rx_le_s (rx_le_n rx_le_0))))))))
                      · replace h := rx_if_f c91 h
                        refine ev_iconst (v := 0) 144 dX11_cut_143 (by decide) rfl ?_
                        refine ev_istore (ls' := [some (.ref 94), some (.int x77), none, some (.int x78), some (.long x79), none, some (.int x80), some (.int 0)]) 146 dX11_cut_144 (Nat.le_of_ble_eq_true rfl) rfl rfl ?_
                        exact (em_X11_cut_L146 hJ179_6 _ _ _ _ _ _ _ h).fewer (rx_le_s (rx_le_s (rx_le_n (rx_le_s (rx_le_s (rx_le_n (rx_le_s (rx_le_s rx_le_0))))))))
                    refine ev_icmp_le 134 130 dX11_cut_127 rfl rfl (fun c109 => ?_) (fun c109 => ?_)
                    · replace h := rx_if_t c109 h
                      refine ev_iconst (v := 1) 135 dX11_cut_134 (by decide) rfl ?_
                      exact (hJ135_5 _ _ _ _ _ h).fewer (rx_le_s (rx_le_s (rx_le_n (rx_le_s (rx_le_s (rx_le_n (rx_le_n (rx_le_n rx_le_0))))))))
                    · replace h := rx_if_f c109 h
                      refine ev_iconst (v := 3) 131 dX11_cut_130 (by decide) rfl ?_
                      refine ev_goto 135 dX11_cut_131 rfl ?_
                      exact (hJ135_5 _ _ _ _ _ h).fewer (rx_le_s (rx_le_s (rx_le_n (rx_le_s (rx_le_s (rx_le_n (rx_le_n (rx_le_n rx_le_0))))))))
                  exact (em_X11_cut_L85 hJ124_4 _ _ _ _ _ h).fewer (rx_le_s (rx_le_s (rx_le_n (rx_le_s (rx_le_s (rx_le_n (rx_le_n (rx_le_n rx_le_0))))))))
              · replace h := rx_if_t c21 h
                obtain ⟨x134, ex134, h⟩ := rx_let_o h
                refine ev_iinc (v := x134) (ls' := [some (.ref 94), some (.int x134), some (.int x12), none, none, none, none, none]) 70 dX11_cut_67 rfl (by rw [ex134]; rfl) (Nat.le_of_ble_eq_true rfl) rfl rfl ?_
                refine ev_goto 291 dX11_cut_70 rfl ?_
                refine ev_goto 7 dX11_cut_291 rfl ?_
                exact (ih _ _ h).fewer (rx_le_s (rx_le_s (rx_le_n (rx_le_n (rx_le_n (rx_le_n (rx_le_n (rx_le_n rx_le_0))))))))
      · replace h := rx_if_f c14 h
        exact (hK31 _ h).fewer (rx_le_s (rx_le_n (rx_le_n (rx_le_n (rx_le_n (rx_le_n (rx_le_n (rx_le_n rx_le_0))))))))

set_option maxHeartbeats 4000000 in
set_option maxRecDepth 20000 in
theorem em_X11_cut {d N : Nat} {S0 : rx_S} {zr : Unit} {zS : rx_S} (h : f_X11_cut N S0 = some (zr, zS)) : EM gM (d + 2) mX11_cut [.ref 94] S0 (rx_pv zS) := by
  unfold f_X11_cut at h
  show EV gM (d + 2) mX11_cut 0 [some (.ref 94), none, none, none, none, none, none, none] [] S0 (rx_pv zS)
  refine ev_aload_n (i := 0) 1 dX11_cut_0 rfl rfl rfl ?_
  refine ev_iconst (v := 0) 2 dX11_cut_1 (by decide) rfl ?_
  obtain ⟨S2, eS2, h⟩ := rx_let_o h
  refine ex_put 5 dX11_cut_2 dk_94 fl_11_181 pp_11_10 (by decide) rfl rfl rfl rfl eS2 ?_
  refine ev_iconst (v := 0) 6 dX11_cut_5 (by decide) rfl ?_
  refine ev_istore_n (ls' := [some (.ref 94), some (.int 0), none, none, none, none, none, none]) 7 dX11_cut_6 rfl (Nat.le_of_ble_eq_true rfl) rfl rfl ?_
  obtain ⟨J31_1, eJ31_1, h⟩ := rx_let_o h
  have hJ31_1 : ∀ (S3 : rx_S), J31_1 S3 = some (zr, zS) → EV gM (d + 2) mX11_cut 31 [some (.ref 94), none, none, none, none, none, none, none] [] S3 (rx_pv zS) := by
    intro S3 h
    subst eJ31_1
    refine ev_aload_n (i := 0) 32 dX11_cut_31 rfl rfl rfl ?_
    refine ev_iconst (v := 0) 33 dX11_cut_32 (by decide) rfl ?_
    refine ev_aload_n (i := 0) 34 dX11_cut_33 rfl rfl rfl ?_
    refine ev_get (v := .int (S3.1 94 4)) 37 dX11_cut_34 dk_94 fl_11_172 (by decide) rfl rfl rfl ?_
    refine ev_iconst (v := 0) 38 dX11_cut_37 (by decide) rfl ?_
    refine ev_lconst (v := 0) 39 dX11_cut_38 (by decide) rfl ?_
    obtain ⟨x5, S4, g6, h⟩ := rx_bd_o h
    refine ev_cVv4 42 dX11_cut_39 (em_X11_token g6) mm_X11_token mv_X11_token lk_11_188 dk_94 (by decide) rfl (Nat.le_of_ble_eq_true rfl) (Nat.le_of_ble_eq_true rfl) rfl ?_
    exact ev_return dX11_cut_42 rfl (rx_ret_v h)
  exact (em_X11_cut_L7 hJ31_1 _ _ _ h).fewer (rx_le_s (rx_le_s (rx_le_n (rx_le_n (rx_le_n (rx_le_n (rx_le_n (rx_le_n rx_le_0))))))))

def f_X11_is (x1 : Int32) (S0 : rx_S) : Option (Int32 × rx_S) := if (S0.1 94 13) = 0 then (rx_gd (S0.1 94 11) 403 (if (S0.1 97 (Int32.toNatClampNeg (S0.1 94 11))) = x1 then (some (1, S0)) else (some (0, S0)))) else (some (0, S0))
set_option maxHeartbeats 4000000 in
set_option maxRecDepth 20000 in
theorem em_X11_is {d : Nat} {x1 : Int32} {S0 : rx_S} {zr : Int32} {zS : rx_S} (h : f_X11_is x1 S0 = some (zr, zS)) : EM gM d mX11_is [.ref 94, .int x1] S0 (rx_pi zr zS) := by
  unfold f_X11_is at h
  show EV gM d mX11_is 0 [some (.ref 94), some (.int x1)] [] S0 (rx_pi zr zS)
  refine ev_aload_n (i := 0) 1 dX11_is_0 rfl rfl rfl ?_
  refine ev_get (v := .int (S0.1 94 13)) 4 dX11_is_1 dk_94 fl_11_203 (by decide) rfl rfl rfl ?_
  refine ev_if_ne 24 7 dX11_is_4 rfl rfl (fun c3 => ?_) (fun c3 => ?_)
  · replace h := rx_if_f c3 h
    refine ev_iconst (v := 0) 25 dX11_is_24 (by decide) rfl ?_
    exact ev_zreturn dX11_is_25 rfl (by decide) (rx_ret_i h)
  · replace h := rx_if_t c3 h
    refine ev_aload_n (i := 0) 8 dX11_is_7 rfl rfl rfl ?_
    refine ev_get (v := .ref 97) 11 dX11_is_8 dk_94 fl_11_20 (by decide) rfl rfl rfl ?_
    refine ev_aload_n (i := 0) 12 dX11_is_11 rfl rfl rfl ?_
    refine ev_get (v := .int (S0.1 94 11)) 15 dX11_is_12 dk_94 fl_11_206 (by decide) rfl rfl rfl ?_
    obtain ⟨g4, h⟩ := rx_gd_o h
    refine ex_iald _ 16 dX11_is_15 dk_97 g4 rfl rfl ?_
    refine ev_iload_n (i := 1) 17 dX11_is_16 rfl rfl rfl ?_
    refine ev_icmp_ne 24 20 dX11_is_17 rfl rfl (fun c5 => ?_) (fun c5 => ?_)
    · replace h := rx_if_f c5 h
      refine ev_iconst (v := 0) 25 dX11_is_24 (by decide) rfl ?_
      exact ev_zreturn dX11_is_25 rfl (by decide) (rx_ret_i h)
    · replace h := rx_if_t c5 h
      refine ev_iconst (v := 1) 21 dX11_is_20 (by decide) rfl ?_
      refine ev_goto 25 dX11_is_21 rfl ?_
      exact ev_zreturn dX11_is_25 rfl (by decide) (rx_ret_i h)

def f_X11_fail (x1 : Int32) (S0 : rx_S) : Option (Unit × rx_S) := if (S0.1 94 13) ≤ 0 then (rx_let (rx_ui S0 94 13 x1) (fun S4 => rx_gd (S4.1 94 11) 403 (rx_let (rx_ui S4 94 14 (S4.1 98 (Int32.toNatClampNeg (S4.1 94 11)))) (fun S6 => some ((), S6))))) else (some ((), S0))
set_option maxHeartbeats 4000000 in
set_option maxRecDepth 20000 in
theorem em_X11_fail {d : Nat} {x1 : Int32} {S0 : rx_S} {zr : Unit} {zS : rx_S} (h : f_X11_fail x1 S0 = some (zr, zS)) : EM gM d mX11_fail [.ref 94, .int x1] S0 (rx_pv zS) := by
  unfold f_X11_fail at h
  show EV gM d mX11_fail 0 [some (.ref 94), some (.int x1)] [] S0 (rx_pv zS)
  refine ev_aload_n (i := 0) 1 dX11_fail_0 rfl rfl rfl ?_
  refine ev_get (v := .int (S0.1 94 13)) 4 dX11_fail_1 dk_94 fl_11_203 (by decide) rfl rfl rfl ?_
  refine ev_if_le 8 7 dX11_fail_4 rfl rfl (fun c3 => ?_) (fun c3 => ?_)
  · replace h := rx_if_t c3 h
    refine ev_aload_n (i := 0) 9 dX11_fail_8 rfl rfl rfl ?_
    refine ev_iload_n (i := 1) 10 dX11_fail_9 rfl rfl rfl ?_
    obtain ⟨S4, eS4, h⟩ := rx_let_o h
    refine ex_put 13 dX11_fail_10 dk_94 fl_11_203 pp_11_13 (by decide) rfl rfl rfl rfl eS4 ?_
    refine ev_aload_n (i := 0) 14 dX11_fail_13 rfl rfl rfl ?_
    refine ev_aload_n (i := 0) 15 dX11_fail_14 rfl rfl rfl ?_
    refine ev_get (v := .ref 98) 18 dX11_fail_15 dk_94 fl_11_24 (by decide) rfl rfl rfl ?_
    refine ev_aload_n (i := 0) 19 dX11_fail_18 rfl rfl rfl ?_
    refine ev_get (v := .int (S4.1 94 11)) 22 dX11_fail_19 dk_94 fl_11_206 (by decide) rfl rfl rfl ?_
    obtain ⟨g5, h⟩ := rx_gd_o h
    refine ex_iald _ 23 dX11_fail_22 dk_98 g5 rfl rfl ?_
    obtain ⟨S6, eS6, h⟩ := rx_let_o h
    refine ex_put 26 dX11_fail_23 dk_94 fl_11_209 pp_11_14 (by decide) rfl rfl rfl rfl eS6 ?_
    exact ev_return dX11_fail_26 rfl (rx_ret_v h)
  · replace h := rx_if_f c3 h
    exact ev_return dX11_fail_7 rfl (rx_ret_v h)

def f_X11_wrong (x1 : Int32) (x2 : Int32) (S0 : rx_S) : Option (Unit × rx_S) := rx_gd x2 403 (rx_let (S0.1 98 (Int32.toNatClampNeg x2)) (fun x5 => if (0 : Int32) < (S0.1 94 13) then (some ((), S0)) else (rx_let (fun (x7 : Int32) (x8 : Int32) (S9 : rx_S) => rx_let (rx_ui S9 94 15 x7) (fun S10 => rx_let (rx_ui S10 94 16 x8) (fun S11 => some ((), S11)))) (fun J46_1 => if (S0.1 94 15) = 0 then (J46_1 x1 x5 S0) else (if (S0.1 94 16) < x5 then (some ((), S0)) else (if x5 = (S0.1 94 16) then (if x1 < (S0.1 94 15) then (J46_1 x1 x5 S0) else (some ((), S0))) else (J46_1 x1 x5 S0)))))))
set_option maxHeartbeats 4000000 in
set_option maxRecDepth 20000 in
theorem em_X11_wrong {d : Nat} {x1 : Int32} {x2 : Int32} {S0 : rx_S} {zr : Unit} {zS : rx_S} (h : f_X11_wrong x1 x2 S0 = some (zr, zS)) : EM gM d mX11_wrong [.ref 94, .int x1, .int x2] S0 (rx_pv zS) := by
  unfold f_X11_wrong at h
  show EV gM d mX11_wrong 0 [some (.ref 94), some (.int x1), some (.int x2), none] [] S0 (rx_pv zS)
  refine ev_aload_n (i := 0) 1 dX11_wrong_0 rfl rfl rfl ?_
  refine ev_get (v := .ref 98) 4 dX11_wrong_1 dk_94 fl_11_24 (by decide) rfl rfl rfl ?_
  refine ev_iload_n (i := 2) 5 dX11_wrong_4 rfl rfl rfl ?_
  obtain ⟨g4, h⟩ := rx_gd_o h
  refine ex_iald _ 6 dX11_wrong_5 dk_98 g4 rfl rfl ?_
  obtain ⟨x5, ex5, h⟩ := rx_let_o h
  refine ev_nm ex5 ?_
  refine ev_istore_n (ls' := [some (.ref 94), some (.int x1), some (.int x2), some (.int x5)]) 7 dX11_wrong_6 rfl (Nat.le_of_ble_eq_true rfl) rfl rfl ?_
  refine ev_aload_n (i := 0) 8 dX11_wrong_7 rfl rfl rfl ?_
  refine ev_get (v := .int (S0.1 94 13)) 11 dX11_wrong_8 dk_94 fl_11_203 (by decide) rfl rfl rfl ?_
  refine ev_if_gt 45 14 dX11_wrong_11 rfl rfl (fun c6 => ?_) (fun c6 => ?_)
  · replace h := rx_if_t c6 h
    exact ev_return dX11_wrong_45 rfl (rx_ret_v h)
  · replace h := rx_if_f c6 h
    refine ev_aload_n (i := 0) 15 dX11_wrong_14 rfl rfl rfl ?_
    refine ev_get (v := .int (S0.1 94 15)) 18 dX11_wrong_15 dk_94 fl_11_212 (by decide) rfl rfl rfl ?_
    obtain ⟨J46_1, eJ46_1, h⟩ := rx_let_o h
    have hJ46_1 : ∀ (x7 : Int32) (x8 : Int32) (S9 : rx_S), J46_1 x7 x8 S9 = some (zr, zS) → EV gM d mX11_wrong 46 [some (.ref 94), some (.int x7), none, some (.int x8)] [] S9 (rx_pv zS) := by
      intro x7 x8 S9 h
      subst eJ46_1
      refine ev_aload_n (i := 0) 47 dX11_wrong_46 rfl rfl rfl ?_
      refine ev_iload_n (i := 1) 48 dX11_wrong_47 rfl rfl rfl ?_
      obtain ⟨S10, eS10, h⟩ := rx_let_o h
      refine ex_put 51 dX11_wrong_48 dk_94 fl_11_212 pp_11_15 (by decide) rfl rfl rfl rfl eS10 ?_
      refine ev_aload_n (i := 0) 52 dX11_wrong_51 rfl rfl rfl ?_
      refine ev_iload_n (i := 3) 53 dX11_wrong_52 rfl rfl rfl ?_
      obtain ⟨S11, eS11, h⟩ := rx_let_o h
      refine ex_put 56 dX11_wrong_53 dk_94 fl_11_215 pp_11_16 (by decide) rfl rfl rfl rfl eS11 ?_
      exact ev_return dX11_wrong_56 rfl (rx_ret_v h)
    refine ev_if_eq 46 21 dX11_wrong_18 rfl rfl (fun c12 => ?_) (fun c12 => ?_)
    · replace h := rx_if_t c12 h
      exact (hJ46_1 _ _ _ h).fewer (rx_le_s (rx_le_s (rx_le_n (rx_le_s rx_le_0))))
    · replace h := rx_if_f c12 h
      refine ev_iload_n (i := 3) 22 dX11_wrong_21 rfl rfl rfl ?_
      refine ev_aload_n (i := 0) 23 dX11_wrong_22 rfl rfl rfl ?_
      refine ev_get (v := .int (S0.1 94 16)) 26 dX11_wrong_23 dk_94 fl_11_215 (by decide) rfl rfl rfl ?_
      refine ev_icmp_gt 45 29 dX11_wrong_26 rfl rfl (fun c13 => ?_) (fun c13 => ?_)
      · replace h := rx_if_t c13 h
        exact ev_return dX11_wrong_45 rfl (rx_ret_v h)
      · replace h := rx_if_f c13 h
        refine ev_iload_n (i := 3) 30 dX11_wrong_29 rfl rfl rfl ?_
        refine ev_aload_n (i := 0) 31 dX11_wrong_30 rfl rfl rfl ?_
        refine ev_get (v := .int (S0.1 94 16)) 34 dX11_wrong_31 dk_94 fl_11_215 (by decide) rfl rfl rfl ?_
        refine ev_icmp_ne 46 37 dX11_wrong_34 rfl rfl (fun c14 => ?_) (fun c14 => ?_)
        · replace h := rx_if_f c14 h
          exact (hJ46_1 _ _ _ h).fewer (rx_le_s (rx_le_s (rx_le_n (rx_le_s rx_le_0))))
        · replace h := rx_if_t c14 h
          refine ev_iload_n (i := 1) 38 dX11_wrong_37 rfl rfl rfl ?_
          refine ev_aload_n (i := 0) 39 dX11_wrong_38 rfl rfl rfl ?_
          refine ev_get (v := .int (S0.1 94 15)) 42 dX11_wrong_39 dk_94 fl_11_212 (by decide) rfl rfl rfl ?_
          refine ev_icmp_lt 46 45 dX11_wrong_42 rfl rfl (fun c15 => ?_) (fun c15 => ?_)
          · replace h := rx_if_t c15 h
            exact (hJ46_1 _ _ _ h).fewer (rx_le_s (rx_le_s (rx_le_n (rx_le_s rx_le_0))))
          · replace h := rx_if_f c15 h
            exact ev_return dX11_wrong_45 rfl (rx_ret_v h)

def f_X11_goesOn (S0 : rx_S) : Option (Unit × rx_S) := if (S0.1 94 11) = 400 then (rx_bd (f_X11_fail 2 S0) (fun x5 S4 => some ((), S4))) else (rx_let (rx_ui S0 94 11 ((S0.1 94 11) + 1)) (fun S3 => some ((), S3)))
set_option maxHeartbeats 4000000 in
set_option maxRecDepth 20000 in
theorem em_X11_goesOn {d : Nat} {S0 : rx_S} {zr : Unit} {zS : rx_S} (h : f_X11_goesOn S0 = some (zr, zS)) : EM gM (d + 1) mX11_goesOn [.ref 94] S0 (rx_pv zS) := by
  unfold f_X11_goesOn at h
  show EV gM (d + 1) mX11_goesOn 0 [some (.ref 94)] [] S0 (rx_pv zS)
  refine ev_aload_n (i := 0) 1 dX11_goesOn_0 rfl rfl rfl ?_
  refine ev_get (v := .int (S0.1 94 11)) 4 dX11_goesOn_1 dk_94 fl_11_206 (by decide) rfl rfl rfl ?_
  refine ev_sipush (v := 400) 7 dX11_goesOn_4 (by decide) rfl ?_
  refine ev_icmp_ne 18 10 dX11_goesOn_7 rfl rfl (fun c2 => ?_) (fun c2 => ?_)
  · replace h := rx_if_f c2 h
    refine ev_aload_n (i := 0) 19 dX11_goesOn_18 rfl rfl rfl ?_
    refine ev_dup 20 dX11_goesOn_19 rfl rfl ?_
    refine ev_get (v := .int (S0.1 94 11)) 23 dX11_goesOn_20 dk_94 fl_11_206 (by decide) rfl rfl rfl ?_
    refine ev_iconst (v := 1) 24 dX11_goesOn_23 (by decide) rfl ?_
    refine ev_iadd 25 dX11_goesOn_24 rfl ?_
    obtain ⟨S3, eS3, h⟩ := rx_let_o h
    refine ex_put 28 dX11_goesOn_25 dk_94 fl_11_206 pp_11_11 (by decide) rfl rfl rfl rfl eS3 ?_
    exact ev_return dX11_goesOn_28 rfl (rx_ret_v h)
  · replace h := rx_if_t c2 h
    refine ev_aload_n (i := 0) 11 dX11_goesOn_10 rfl rfl rfl ?_
    refine ev_iconst (v := 2) 12 dX11_goesOn_11 (by decide) rfl ?_
    obtain ⟨x5, S4, g6, h⟩ := rx_bd_o h
    refine ev_cVv1 15 dX11_goesOn_12 (em_X11_fail g6) mm_X11_fail mv_X11_fail lk_11_218 dk_94 (by decide) rfl (Nat.le_of_ble_eq_true rfl) (Nat.le_of_ble_eq_true rfl) rfl ?_
    refine ev_goto 28 dX11_goesOn_15 rfl ?_
    exact ev_return dX11_goesOn_28 rfl (rx_ret_v h)

def f_X11_must (x1 : Int32) (S0 : rx_S) : Option (Unit × rx_S) := rx_bd (f_X11_is x1 S0) (fun x4 S3 => if x4 = 0 then (rx_bd (f_X11_fail 1 S3) (fun x8 S7 => some ((), S7))) else (rx_bd (f_X11_goesOn S3) (fun x11 S10 => some ((), S10))))
set_option maxHeartbeats 4000000 in
set_option maxRecDepth 20000 in
theorem em_X11_must {d : Nat} {x1 : Int32} {S0 : rx_S} {zr : Unit} {zS : rx_S} (h : f_X11_must x1 S0 = some (zr, zS)) : EM gM (d + 2) mX11_must [.ref 94, .int x1] S0 (rx_pv zS) := by
  unfold f_X11_must at h
  show EV gM (d + 2) mX11_must 0 [some (.ref 94), some (.int x1)] [] S0 (rx_pv zS)
  refine ev_aload_n (i := 0) 1 dX11_must_0 rfl rfl rfl ?_
  refine ev_iload_n (i := 1) 2 dX11_must_1 rfl rfl rfl ?_
  obtain ⟨x4, S3, g5, h⟩ := rx_bd_o h
  refine ev_cVi1 5 dX11_must_2 (em_X11_is g5) mm_X11_is mv_X11_is lk_11_221 dk_94 (by decide) rfl (Nat.le_of_ble_eq_true rfl) (Nat.le_of_ble_eq_true rfl) rfl ?_
  refine ev_if_eq 15 8 dX11_must_5 rfl rfl (fun c6 => ?_) (fun c6 => ?_)
  · replace h := rx_if_t c6 h
    refine ev_aload_n (i := 0) 16 dX11_must_15 rfl rfl rfl ?_
    refine ev_iconst (v := 1) 17 dX11_must_16 (by decide) rfl ?_
    obtain ⟨x8, S7, g9, h⟩ := rx_bd_o h
    refine ev_cVv1 20 dX11_must_17 (em_X11_fail g9) mm_X11_fail mv_X11_fail lk_11_218 dk_94 (by decide) rfl (Nat.le_of_ble_eq_true rfl) (Nat.le_of_ble_eq_true rfl) rfl ?_
    exact ev_return dX11_must_20 rfl (rx_ret_v h)
  · replace h := rx_if_f c6 h
    refine ev_aload_n (i := 0) 9 dX11_must_8 rfl rfl rfl ?_
    obtain ⟨x11, S10, g12, h⟩ := rx_bd_o h
    refine ev_cVv0 12 dX11_must_9 (em_X11_goesOn g12) mm_X11_goesOn mv_X11_goesOn lk_11_224 dk_94 (by decide) rfl (Nat.le_of_ble_eq_true rfl) (Nat.le_of_ble_eq_true rfl) rfl ?_
    refine ev_goto 20 dX11_must_12 rfl ?_
    exact ev_return dX11_must_20 rfl (rx_ret_v h)

def f_X11_plain_L38 (N : Nat) : Nat → Int32 → Int32 → rx_S → Option (Unit × rx_S)
  | 0, _, _, _ => none
  | n + 1, x13, x14, S15 => if (7 : Int32) ≤ x14 then (some ((), S15)) else (rx_gd (((7 : Int32) * x13) + x14) 14 (rx_let (rx_ui S15 114 (Int32.toNatClampNeg (((7 : Int32) * x13) + x14)) 0) (fun S18 => rx_gd (((7 : Int32) * x13) + x14) 14 (rx_let (rx_ui S18 115 (Int32.toNatClampNeg (((7 : Int32) * x13) + x14)) 0) (fun S20 => rx_let (x14 + 1) (fun x21 => f_X11_plain_L38 N n x13 x21 S20))))))
def f_X11_plain (N : Nat) (x1 : Int32) (S0 : rx_S) : Option (Unit × rx_S) := rx_gd x1 2 (rx_let (rx_ui S0 104 (Int32.toNatClampNeg x1) 0) (fun S4 => rx_gd x1 2 (rx_let (rx_ui S4 107 (Int32.toNatClampNeg x1) 0) (fun S6 => rx_gd x1 2 (rx_let (rx_ui S6 109 (Int32.toNatClampNeg x1) 0) (fun S8 => rx_gd x1 2 (rx_let (rx_ui S8 112 (Int32.toNatClampNeg x1) 10) (fun S10 => rx_gd x1 2 (rx_let (rx_ui S10 113 (Int32.toNatClampNeg x1) 0) (fun S12 => f_X11_plain_L38 N N x1 0 S12))))))))))
set_option maxHeartbeats 4000000 in
set_option maxRecDepth 20000 in
theorem em_X11_plain_L38 {d N : Nat} {zr : Unit} {zS : rx_S} : ∀ (n : Nat) (x13 : Int32) (x14 : Int32) (S15 : rx_S), f_X11_plain_L38 N n x13 x14 S15 = some (zr, zS) → EV gM d mX11_plain 38 [some (.ref 94), some (.int x13), some (.int x14)] [] S15 (rx_pv zS) := by
  intro n
  induction n with
  | zero => intro x13 x14 S15 h; cases h
  | succ n ih =>
    intro x13 x14 S15 h
    rw [f_X11_plain_L38] at h
    refine ev_iload_n (i := 2) 39 dX11_plain_38 rfl rfl rfl ?_
    refine ev_bipush (v := 7) 41 dX11_plain_39 (by decide) rfl ?_
    refine ev_icmp_ge 74 44 dX11_plain_41 rfl rfl (fun c16 => ?_) (fun c16 => ?_)
    · replace h := rx_if_t c16 h
      exact ev_return dX11_plain_74 rfl (rx_ret_v h)
    · replace h := rx_if_f c16 h
      refine ev_aload_n (i := 0) 45 dX11_plain_44 rfl rfl rfl ?_
      refine ev_get (v := .ref 114) 48 dX11_plain_45 dk_94 fl_11_76 (by decide) rfl rfl rfl ?_
      refine ev_bipush (v := 7) 50 dX11_plain_48 (by decide) rfl ?_
      refine ev_iload_n (i := 1) 51 dX11_plain_50 rfl rfl rfl ?_
      refine ev_imul 52 dX11_plain_51 rfl ?_
      refine ev_iload_n (i := 2) 53 dX11_plain_52 rfl rfl rfl ?_
      refine ev_iadd 54 dX11_plain_53 rfl ?_
      refine ev_iconst (v := 0) 55 dX11_plain_54 (by decide) rfl ?_
      obtain ⟨g17, h⟩ := rx_gd_o h
      obtain ⟨S18, eS18, h⟩ := rx_let_o h
      refine ex_iast _ 56 dX11_plain_55 dk_114 g17 rfl rfl eS18 ?_
      refine ev_aload_n (i := 0) 57 dX11_plain_56 rfl rfl rfl ?_
      refine ev_get (v := .ref 115) 60 dX11_plain_57 dk_94 fl_11_79 (by decide) rfl rfl rfl ?_
      refine ev_bipush (v := 7) 62 dX11_plain_60 (by decide) rfl ?_
      refine ev_iload_n (i := 1) 63 dX11_plain_62 rfl rfl rfl ?_
      refine ev_imul 64 dX11_plain_63 rfl ?_
      refine ev_iload_n (i := 2) 65 dX11_plain_64 rfl rfl rfl ?_
      refine ev_iadd 66 dX11_plain_65 rfl ?_
      refine ev_iconst (v := 0) 67 dX11_plain_66 (by decide) rfl ?_
      obtain ⟨g19, h⟩ := rx_gd_o h
      obtain ⟨S20, eS20, h⟩ := rx_let_o h
      refine ex_iast _ 68 dX11_plain_67 dk_115 g19 rfl rfl eS20 ?_
      obtain ⟨x21, ex21, h⟩ := rx_let_o h
      refine ev_iinc (v := x21) (ls' := [some (.ref 94), some (.int x13), some (.int x21)]) 71 dX11_plain_68 rfl (by rw [ex21]; rfl) (Nat.le_of_ble_eq_true rfl) rfl rfl ?_
      refine ev_goto 38 dX11_plain_71 rfl ?_
      exact (ih _ _ _ h).fewer (rx_le_s (rx_le_s (rx_le_s rx_le_0)))

set_option maxHeartbeats 4000000 in
set_option maxRecDepth 20000 in
theorem em_X11_plain {d N : Nat} {x1 : Int32} {S0 : rx_S} {zr : Unit} {zS : rx_S} (h : f_X11_plain N x1 S0 = some (zr, zS)) : EM gM d mX11_plain [.ref 94, .int x1] S0 (rx_pv zS) := by
  unfold f_X11_plain at h
  show EV gM d mX11_plain 0 [some (.ref 94), some (.int x1), none] [] S0 (rx_pv zS)
  refine ev_aload_n (i := 0) 1 dX11_plain_0 rfl rfl rfl ?_
  refine ev_get (v := .ref 104) 4 dX11_plain_1 dk_94 fl_11_46 (by decide) rfl rfl rfl ?_
  refine ev_iload_n (i := 1) 5 dX11_plain_4 rfl rfl rfl ?_
  refine ev_iconst (v := 0) 6 dX11_plain_5 (by decide) rfl ?_
  obtain ⟨g3, h⟩ := rx_gd_o h
  obtain ⟨S4, eS4, h⟩ := rx_let_o h
  refine ex_iast _ 7 dX11_plain_6 dk_104 g3 rfl rfl eS4 ?_
  refine ev_aload_n (i := 0) 8 dX11_plain_7 rfl rfl rfl ?_
  refine ev_get (v := .ref 107) 11 dX11_plain_8 dk_94 fl_11_55 (by decide) rfl rfl rfl ?_
  refine ev_iload_n (i := 1) 12 dX11_plain_11 rfl rfl rfl ?_
  refine ev_iconst (v := 0) 13 dX11_plain_12 (by decide) rfl ?_
  obtain ⟨g5, h⟩ := rx_gd_o h
  obtain ⟨S6, eS6, h⟩ := rx_let_o h
  refine ex_iast _ 14 dX11_plain_13 dk_107 g5 rfl rfl eS6 ?_
  refine ev_aload_n (i := 0) 15 dX11_plain_14 rfl rfl rfl ?_
  refine ev_get (v := .ref 109) 18 dX11_plain_15 dk_94 fl_11_61 (by decide) rfl rfl rfl ?_
  refine ev_iload_n (i := 1) 19 dX11_plain_18 rfl rfl rfl ?_
  refine ev_iconst (v := 0) 20 dX11_plain_19 (by decide) rfl ?_
  obtain ⟨g7, h⟩ := rx_gd_o h
  obtain ⟨S8, eS8, h⟩ := rx_let_o h
  refine ex_iast _ 21 dX11_plain_20 dk_109 g7 rfl rfl eS8 ?_
  refine ev_aload_n (i := 0) 22 dX11_plain_21 rfl rfl rfl ?_
  refine ev_get (v := .ref 112) 25 dX11_plain_22 dk_94 fl_11_70 (by decide) rfl rfl rfl ?_
  refine ev_iload_n (i := 1) 26 dX11_plain_25 rfl rfl rfl ?_
  refine ev_bipush (v := 10) 28 dX11_plain_26 (by decide) rfl ?_
  obtain ⟨g9, h⟩ := rx_gd_o h
  obtain ⟨S10, eS10, h⟩ := rx_let_o h
  refine ex_iast _ 29 dX11_plain_28 dk_112 g9 rfl rfl eS10 ?_
  refine ev_aload_n (i := 0) 30 dX11_plain_29 rfl rfl rfl ?_
  refine ev_get (v := .ref 113) 33 dX11_plain_30 dk_94 fl_11_73 (by decide) rfl rfl rfl ?_
  refine ev_iload_n (i := 1) 34 dX11_plain_33 rfl rfl rfl ?_
  refine ev_iconst (v := 0) 35 dX11_plain_34 (by decide) rfl ?_
  obtain ⟨g11, h⟩ := rx_gd_o h
  obtain ⟨S12, eS12, h⟩ := rx_let_o h
  refine ex_iast _ 36 dX11_plain_35 dk_113 g11 rfl rfl eS12 ?_
  refine ev_iconst (v := 0) 37 dX11_plain_36 (by decide) rfl ?_
  refine ev_istore_n (ls' := [some (.ref 94), some (.int x1), some (.int 0)]) 38 dX11_plain_37 rfl (Nat.le_of_ble_eq_true rfl) rfl rfl ?_
  exact (em_X11_plain_L38 _ _ _ _ h).fewer (rx_le_s (rx_le_s (rx_le_s rx_le_0)))

def f_X11_bounded (x1 : Int32) (x2 : Int32) (S0 : rx_S) : Option (Int32 × rx_S) := rx_let (fun (x4 : Int32) (S5 : rx_S) => rx_bd (f_X11_fail 1 S5) (fun x7 S6 => some (x4, S6))) (fun J15_1 => if (0 : Int32) < (S0.1 94 13) then (J15_1 x1 S0) else (rx_bd (f_X11_is 2 S0) (fun x11 S10 => if x11 = 0 then (J15_1 x1 S10) else (rx_gd (S10.1 94 11) 403 (rx_let (S10.1 99 (Int32.toNatClampNeg (S10.1 94 11))) (fun x15 => rx_let (fun (x16 : Int32) (S17 : rx_S) => rx_bd (f_X11_goesOn S17) (fun x19 S18 => some (x16, S18))) (fun J51_2 => rx_let (fun (x21 : Int32) (S22 : rx_S) => rx_bd (f_X11_wrong 5 (S22.1 94 11) S22) (fun x24 S23 => J51_2 x21 S23)) (fun J42_3 => if x15 < x1 then (J42_3 x15 S10) else (if x15 ≤ x2 then (J51_2 x15 S10) else (J42_3 x15 S10))))))))))
set_option maxHeartbeats 4000000 in
set_option maxRecDepth 20000 in
theorem em_X11_bounded {d : Nat} {x1 : Int32} {x2 : Int32} {S0 : rx_S} {zr : Int32} {zS : rx_S} (h : f_X11_bounded x1 x2 S0 = some (zr, zS)) : EM gM (d + 2) mX11_bounded [.ref 94, .int x1, .int x2] S0 (rx_pi zr zS) := by
  unfold f_X11_bounded at h
  show EV gM (d + 2) mX11_bounded 0 [some (.ref 94), some (.int x1), some (.int x2), none] [] S0 (rx_pi zr zS)
  refine ev_aload_n (i := 0) 1 dX11_bounded_0 rfl rfl rfl ?_
  refine ev_get (v := .int (S0.1 94 13)) 4 dX11_bounded_1 dk_94 fl_11_203 (by decide) rfl rfl rfl ?_
  obtain ⟨J15_1, eJ15_1, h⟩ := rx_let_o h
  have hJ15_1 : ∀ (x4 : Int32) (S5 : rx_S), J15_1 x4 S5 = some (zr, zS) → EV gM (d + 2) mX11_bounded 15 [some (.ref 94), some (.int x4), none, none] [] S5 (rx_pi zr zS) := by
    intro x4 S5 h
    subst eJ15_1
    refine ev_aload_n (i := 0) 16 dX11_bounded_15 rfl rfl rfl ?_
    refine ev_iconst (v := 1) 17 dX11_bounded_16 (by decide) rfl ?_
    obtain ⟨x7, S6, g8, h⟩ := rx_bd_o h
    refine ev_cVv1 20 dX11_bounded_17 (em_X11_fail g8) mm_X11_fail mv_X11_fail lk_11_218 dk_94 (by decide) rfl (Nat.le_of_ble_eq_true rfl) (Nat.le_of_ble_eq_true rfl) rfl ?_
    refine ev_iload_n (i := 1) 21 dX11_bounded_20 rfl rfl rfl ?_
    exact ev_ireturn dX11_bounded_21 rfl (rx_ret_i h)
  refine ev_if_gt 15 7 dX11_bounded_4 rfl rfl (fun c9 => ?_) (fun c9 => ?_)
  · replace h := rx_if_t c9 h
    exact (hJ15_1 _ _ h).fewer (rx_le_s (rx_le_s (rx_le_n (rx_le_n rx_le_0))))
  · replace h := rx_if_f c9 h
    refine ev_aload_n (i := 0) 8 dX11_bounded_7 rfl rfl rfl ?_
    refine ev_iconst (v := 2) 9 dX11_bounded_8 (by decide) rfl ?_
    obtain ⟨x11, S10, g12, h⟩ := rx_bd_o h
    refine ev_cVi1 12 dX11_bounded_9 (em_X11_is g12) mm_X11_is mv_X11_is lk_11_221 dk_94 (by decide) rfl (Nat.le_of_ble_eq_true rfl) (Nat.le_of_ble_eq_true rfl) rfl ?_
    refine ev_if_ne 22 15 dX11_bounded_12 rfl rfl (fun c13 => ?_) (fun c13 => ?_)
    · replace h := rx_if_f c13 h
      refine ev_aload_n (i := 0) 23 dX11_bounded_22 rfl rfl rfl ?_
      refine ev_get (v := .ref 99) 26 dX11_bounded_23 dk_94 fl_11_27 (by decide) rfl rfl rfl ?_
      refine ev_aload_n (i := 0) 27 dX11_bounded_26 rfl rfl rfl ?_
      refine ev_get (v := .int (S10.1 94 11)) 30 dX11_bounded_27 dk_94 fl_11_206 (by decide) rfl rfl rfl ?_
      obtain ⟨g14, h⟩ := rx_gd_o h
      refine ex_iald _ 31 dX11_bounded_30 dk_99 g14 rfl rfl ?_
      obtain ⟨x15, ex15, h⟩ := rx_let_o h
      refine ev_nm ex15 ?_
      refine ev_istore_n (ls' := [some (.ref 94), some (.int x1), some (.int x2), some (.int x15)]) 32 dX11_bounded_31 rfl (Nat.le_of_ble_eq_true rfl) rfl rfl ?_
      refine ev_iload_n (i := 3) 33 dX11_bounded_32 rfl rfl rfl ?_
      refine ev_iload_n (i := 1) 34 dX11_bounded_33 rfl rfl rfl ?_
      obtain ⟨J51_2, eJ51_2, h⟩ := rx_let_o h
      have hJ51_2 : ∀ (x16 : Int32) (S17 : rx_S), J51_2 x16 S17 = some (zr, zS) → EV gM (d + 2) mX11_bounded 51 [some (.ref 94), none, none, some (.int x16)] [] S17 (rx_pi zr zS) := by
        intro x16 S17 h
        subst eJ51_2
        refine ev_aload_n (i := 0) 52 dX11_bounded_51 rfl rfl rfl ?_
        obtain ⟨x19, S18, g20, h⟩ := rx_bd_o h
        refine ev_cVv0 55 dX11_bounded_52 (em_X11_goesOn g20) mm_X11_goesOn mv_X11_goesOn lk_11_224 dk_94 (by decide) rfl (Nat.le_of_ble_eq_true rfl) (Nat.le_of_ble_eq_true rfl) rfl ?_
        refine ev_iload_n (i := 3) 56 dX11_bounded_55 rfl rfl rfl ?_
        exact ev_ireturn dX11_bounded_56 rfl (rx_ret_i h)
      obtain ⟨J42_3, eJ42_3, h⟩ := rx_let_o h
      have hJ42_3 : ∀ (x21 : Int32) (S22 : rx_S), J42_3 x21 S22 = some (zr, zS) → EV gM (d + 2) mX11_bounded 42 [some (.ref 94), none, none, some (.int x21)] [] S22 (rx_pi zr zS) := by
        intro x21 S22 h
        subst eJ42_3
        refine ev_aload_n (i := 0) 43 dX11_bounded_42 rfl rfl rfl ?_
        refine ev_iconst (v := 5) 44 dX11_bounded_43 (by decide) rfl ?_
        refine ev_aload_n (i := 0) 45 dX11_bounded_44 rfl rfl rfl ?_
        refine ev_get (v := .int (S22.1 94 11)) 48 dX11_bounded_45 dk_94 fl_11_206 (by decide) rfl rfl rfl ?_
        obtain ⟨x24, S23, g25, h⟩ := rx_bd_o h
        refine ev_cVv2 51 dX11_bounded_48 (em_X11_wrong g25) mm_X11_wrong mv_X11_wrong lk_11_280 dk_94 (by decide) rfl (Nat.le_of_ble_eq_true rfl) (Nat.le_of_ble_eq_true rfl) rfl ?_
        exact (hJ51_2 _ _ h).fewer (rx_le_s (rx_le_n (rx_le_n (rx_le_s rx_le_0))))
      refine ev_icmp_lt 42 37 dX11_bounded_34 rfl rfl (fun c26 => ?_) (fun c26 => ?_)
      · replace h := rx_if_t c26 h
        exact (hJ42_3 _ _ h).fewer (rx_le_s (rx_le_n (rx_le_n (rx_le_s rx_le_0))))
      · replace h := rx_if_f c26 h
        refine ev_iload_n (i := 3) 38 dX11_bounded_37 rfl rfl rfl ?_
        refine ev_iload_n (i := 2) 39 dX11_bounded_38 rfl rfl rfl ?_
        refine ev_icmp_le 51 42 dX11_bounded_39 rfl rfl (fun c27 => ?_) (fun c27 => ?_)
        · replace h := rx_if_t c27 h
          exact (hJ51_2 _ _ h).fewer (rx_le_s (rx_le_n (rx_le_n (rx_le_s rx_le_0))))
        · replace h := rx_if_f c27 h
          exact (hJ42_3 _ _ h).fewer (rx_le_s (rx_le_n (rx_le_n (rx_le_s rx_le_0))))
    · replace h := rx_if_t c13 h
      exact (hJ15_1 _ _ h).fewer (rx_le_s (rx_le_s (rx_le_n (rx_le_n rx_le_0))))

def f_X11_emit (x1 : Int32) (x2 : Int32) (S0 : rx_S) : Option (Unit × rx_S) := rx_gd (S0.1 94 41) 840 (rx_let (rx_ui S0 121 (Int32.toNatClampNeg (S0.1 94 41)) x1) (fun S5 => rx_gd (S5.1 94 41) 840 (rx_let (rx_ui S5 122 (Int32.toNatClampNeg (S5.1 94 41)) x2) (fun S7 => rx_let (rx_ui S7 94 41 ((S7.1 94 41) + 1)) (fun S8 => some ((), S8))))))
set_option maxHeartbeats 4000000 in
set_option maxRecDepth 20000 in
theorem em_X11_emit {d : Nat} {x1 : Int32} {x2 : Int32} {S0 : rx_S} {zr : Unit} {zS : rx_S} (h : f_X11_emit x1 x2 S0 = some (zr, zS)) : EM gM d mX11_emit [.ref 94, .int x1, .int x2] S0 (rx_pv zS) := by
  unfold f_X11_emit at h
  show EV gM d mX11_emit 0 [some (.ref 94), some (.int x1), some (.int x2)] [] S0 (rx_pv zS)
  refine ev_aload_n (i := 0) 1 dX11_emit_0 rfl rfl rfl ?_
  refine ev_get (v := .ref 121) 4 dX11_emit_1 dk_94 fl_11_98 (by decide) rfl rfl rfl ?_
  refine ev_aload_n (i := 0) 5 dX11_emit_4 rfl rfl rfl ?_
  refine ev_get (v := .int (S0.1 94 41)) 8 dX11_emit_5 dk_94 fl_11_245 (by decide) rfl rfl rfl ?_
  refine ev_iload_n (i := 1) 9 dX11_emit_8 rfl rfl rfl ?_
  obtain ⟨g4, h⟩ := rx_gd_o h
  obtain ⟨S5, eS5, h⟩ := rx_let_o h
  refine ex_iast _ 10 dX11_emit_9 dk_121 g4 rfl rfl eS5 ?_
  refine ev_aload_n (i := 0) 11 dX11_emit_10 rfl rfl rfl ?_
  refine ev_get (v := .ref 122) 14 dX11_emit_11 dk_94 fl_11_101 (by decide) rfl rfl rfl ?_
  refine ev_aload_n (i := 0) 15 dX11_emit_14 rfl rfl rfl ?_
  refine ev_get (v := .int (S5.1 94 41)) 18 dX11_emit_15 dk_94 fl_11_245 (by decide) rfl rfl rfl ?_
  refine ev_iload_n (i := 2) 19 dX11_emit_18 rfl rfl rfl ?_
  obtain ⟨g6, h⟩ := rx_gd_o h
  obtain ⟨S7, eS7, h⟩ := rx_let_o h
  refine ex_iast _ 20 dX11_emit_19 dk_122 g6 rfl rfl eS7 ?_
  refine ev_aload_n (i := 0) 21 dX11_emit_20 rfl rfl rfl ?_
  refine ev_dup 22 dX11_emit_21 rfl rfl ?_
  refine ev_get (v := .int (S7.1 94 41)) 25 dX11_emit_22 dk_94 fl_11_245 (by decide) rfl rfl rfl ?_
  refine ev_iconst (v := 1) 26 dX11_emit_25 (by decide) rfl ?_
  refine ev_iadd 27 dX11_emit_26 rfl ?_
  obtain ⟨S8, eS8, h⟩ := rx_let_o h
  refine ex_put 30 dX11_emit_27 dk_94 fl_11_245 pp_11_41 (by decide) rfl rfl rfl rfl eS8 ?_
  exact ev_return dX11_emit_30 rfl (rx_ret_v h)

def f_X11_unit (S0 : rx_S) : Option (Unit × rx_S) := rx_bd (f_X11_is 2 S0) (fun x3 S2 => if x3 = 0 then (rx_let (fun (S6 : rx_S) => rx_bd (f_X11_fail 1 S6) (fun x8 S7 => some ((), S7))) (fun J88_1 => if (S2.1 94 13) = 0 then (rx_gd (S2.1 94 11) 403 (if (S2.1 97 (Int32.toNatClampNeg (S2.1 94 11))) < 35 then (J88_1 S2) else (rx_gd (S2.1 94 11) 403 (if (43 : Int32) < (S2.1 97 (Int32.toNatClampNeg (S2.1 94 11))) then (J88_1 S2) else (rx_gd (S2.1 94 11) 403 (rx_bd (f_X11_emit 1 ((S2.1 97 (Int32.toNatClampNeg (S2.1 94 11))) - 35) S2) (fun x17 S16 => rx_bd (f_X11_goesOn S16) (fun x20 S19 => some ((), S19))))))))) else (J88_1 S2))) else (rx_gd (S2.1 94 11) 403 (rx_bd (f_X11_emit 0 (S2.1 99 (Int32.toNatClampNeg (S2.1 94 11))) S2) (fun x24 S23 => rx_bd (f_X11_goesOn S23) (fun x27 S26 => some ((), S26))))))
set_option maxHeartbeats 4000000 in
set_option maxRecDepth 20000 in
theorem em_X11_unit {d : Nat} {S0 : rx_S} {zr : Unit} {zS : rx_S} (h : f_X11_unit S0 = some (zr, zS)) : EM gM (d + 2) mX11_unit [.ref 94] S0 (rx_pv zS) := by
  unfold f_X11_unit at h
  show EV gM (d + 2) mX11_unit 0 [some (.ref 94)] [] S0 (rx_pv zS)
  refine ev_aload_n (i := 0) 1 dX11_unit_0 rfl rfl rfl ?_
  refine ev_iconst (v := 2) 2 dX11_unit_1 (by decide) rfl ?_
  obtain ⟨x3, S2, g4, h⟩ := rx_bd_o h
  refine ev_cVi1 5 dX11_unit_2 (em_X11_is g4) mm_X11_is mv_X11_is lk_11_221 dk_94 (by decide) rfl (Nat.le_of_ble_eq_true rfl) (Nat.le_of_ble_eq_true rfl) rfl ?_
  refine ev_if_eq 29 8 dX11_unit_5 rfl rfl (fun c5 => ?_) (fun c5 => ?_)
  · replace h := rx_if_t c5 h
    refine ev_aload_n (i := 0) 30 dX11_unit_29 rfl rfl rfl ?_
    refine ev_get (v := .int (S2.1 94 13)) 33 dX11_unit_30 dk_94 fl_11_203 (by decide) rfl rfl rfl ?_
    obtain ⟨J88_1, eJ88_1, h⟩ := rx_let_o h
    have hJ88_1 : ∀ (S6 : rx_S), J88_1 S6 = some (zr, zS) → EV gM (d + 2) mX11_unit 88 [some (.ref 94)] [] S6 (rx_pv zS) := by
      intro S6 h
      subst eJ88_1
      refine ev_aload_n (i := 0) 89 dX11_unit_88 rfl rfl rfl ?_
      refine ev_iconst (v := 1) 90 dX11_unit_89 (by decide) rfl ?_
      obtain ⟨x8, S7, g9, h⟩ := rx_bd_o h
      refine ev_cVv1 93 dX11_unit_90 (em_X11_fail g9) mm_X11_fail mv_X11_fail lk_11_218 dk_94 (by decide) rfl (Nat.le_of_ble_eq_true rfl) (Nat.le_of_ble_eq_true rfl) rfl ?_
      exact ev_return dX11_unit_93 rfl (rx_ret_v h)
    refine ev_if_ne 88 36 dX11_unit_33 rfl rfl (fun c10 => ?_) (fun c10 => ?_)
    · replace h := rx_if_f c10 h
      exact (hJ88_1 _ h).fewer (rx_le_s rx_le_0)
    · replace h := rx_if_t c10 h
      refine ev_aload_n (i := 0) 37 dX11_unit_36 rfl rfl rfl ?_
      refine ev_get (v := .ref 97) 40 dX11_unit_37 dk_94 fl_11_20 (by decide) rfl rfl rfl ?_
      refine ev_aload_n (i := 0) 41 dX11_unit_40 rfl rfl rfl ?_
      refine ev_get (v := .int (S2.1 94 11)) 44 dX11_unit_41 dk_94 fl_11_206 (by decide) rfl rfl rfl ?_
      obtain ⟨g11, h⟩ := rx_gd_o h
      refine ex_iald _ 45 dX11_unit_44 dk_97 g11 rfl rfl ?_
      refine ev_bipush (v := 35) 47 dX11_unit_45 (by decide) rfl ?_
      refine ev_icmp_lt 88 50 dX11_unit_47 rfl rfl (fun c12 => ?_) (fun c12 => ?_)
      · replace h := rx_if_t c12 h
        exact (hJ88_1 _ h).fewer (rx_le_s rx_le_0)
      · replace h := rx_if_f c12 h
        refine ev_aload_n (i := 0) 51 dX11_unit_50 rfl rfl rfl ?_
        refine ev_get (v := .ref 97) 54 dX11_unit_51 dk_94 fl_11_20 (by decide) rfl rfl rfl ?_
        refine ev_aload_n (i := 0) 55 dX11_unit_54 rfl rfl rfl ?_
        refine ev_get (v := .int (S2.1 94 11)) 58 dX11_unit_55 dk_94 fl_11_206 (by decide) rfl rfl rfl ?_
        obtain ⟨g13, h⟩ := rx_gd_o h
        refine ex_iald _ 59 dX11_unit_58 dk_97 g13 rfl rfl ?_
        refine ev_bipush (v := 43) 61 dX11_unit_59 (by decide) rfl ?_
        refine ev_icmp_gt 88 64 dX11_unit_61 rfl rfl (fun c14 => ?_) (fun c14 => ?_)
        · replace h := rx_if_t c14 h
          exact (hJ88_1 _ h).fewer (rx_le_s rx_le_0)
        · replace h := rx_if_f c14 h
          refine ev_aload_n (i := 0) 65 dX11_unit_64 rfl rfl rfl ?_
          refine ev_iconst (v := 1) 66 dX11_unit_65 (by decide) rfl ?_
          refine ev_aload_n (i := 0) 67 dX11_unit_66 rfl rfl rfl ?_
          refine ev_get (v := .ref 97) 70 dX11_unit_67 dk_94 fl_11_20 (by decide) rfl rfl rfl ?_
          refine ev_aload_n (i := 0) 71 dX11_unit_70 rfl rfl rfl ?_
          refine ev_get (v := .int (S2.1 94 11)) 74 dX11_unit_71 dk_94 fl_11_206 (by decide) rfl rfl rfl ?_
          obtain ⟨g15, h⟩ := rx_gd_o h
          refine ex_iald _ 75 dX11_unit_74 dk_97 g15 rfl rfl ?_
          refine ev_bipush (v := 35) 77 dX11_unit_75 (by decide) rfl ?_
          refine ev_isub 78 dX11_unit_77 rfl ?_
          obtain ⟨x17, S16, g18, h⟩ := rx_bd_o h
          refine ev_cVv2 81 dX11_unit_78 (em_X11_emit g18) mm_X11_emit mv_X11_emit lk_11_302 dk_94 (by decide) rfl (Nat.le_of_ble_eq_true rfl) (Nat.le_of_ble_eq_true rfl) rfl ?_
          refine ev_aload_n (i := 0) 82 dX11_unit_81 rfl rfl rfl ?_
          obtain ⟨x20, S19, g21, h⟩ := rx_bd_o h
          refine ev_cVv0 85 dX11_unit_82 (em_X11_goesOn g21) mm_X11_goesOn mv_X11_goesOn lk_11_224 dk_94 (by decide) rfl (Nat.le_of_ble_eq_true rfl) (Nat.le_of_ble_eq_true rfl) rfl ?_
          refine ev_goto 93 dX11_unit_85 rfl ?_
          exact ev_return dX11_unit_93 rfl (rx_ret_v h)
  · replace h := rx_if_f c5 h
    refine ev_aload_n (i := 0) 9 dX11_unit_8 rfl rfl rfl ?_
    refine ev_iconst (v := 0) 10 dX11_unit_9 (by decide) rfl ?_
    refine ev_aload_n (i := 0) 11 dX11_unit_10 rfl rfl rfl ?_
    refine ev_get (v := .ref 99) 14 dX11_unit_11 dk_94 fl_11_27 (by decide) rfl rfl rfl ?_
    refine ev_aload_n (i := 0) 15 dX11_unit_14 rfl rfl rfl ?_
    refine ev_get (v := .int (S2.1 94 11)) 18 dX11_unit_15 dk_94 fl_11_206 (by decide) rfl rfl rfl ?_
    obtain ⟨g22, h⟩ := rx_gd_o h
    refine ex_iald _ 19 dX11_unit_18 dk_99 g22 rfl rfl ?_
    obtain ⟨x24, S23, g25, h⟩ := rx_bd_o h
    refine ev_cVv2 22 dX11_unit_19 (em_X11_emit g25) mm_X11_emit mv_X11_emit lk_11_302 dk_94 (by decide) rfl (Nat.le_of_ble_eq_true rfl) (Nat.le_of_ble_eq_true rfl) rfl ?_
    refine ev_aload_n (i := 0) 23 dX11_unit_22 rfl rfl rfl ?_
    obtain ⟨x27, S26, g28, h⟩ := rx_bd_o h
    refine ev_cVv0 26 dX11_unit_23 (em_X11_goesOn g28) mm_X11_goesOn mv_X11_goesOn lk_11_224 dk_94 (by decide) rfl (Nat.le_of_ble_eq_true rfl) (Nat.le_of_ble_eq_true rfl) rfl ?_
    refine ev_goto 93 dX11_unit_26 rfl ?_
    exact ev_return dX11_unit_93 rfl (rx_ret_v h)

def f_X11_comesOut_L0 (N : Nat) : Nat → Int32 → rx_S → Option (Unit × rx_S)
  | 0, _, _ => none
  | n + 1, x3, S4 => if (S4.1 94 45) ≤ 0 then (some ((), S4)) else (rx_gd ((S4.1 94 45) - 1) 64 (rx_let (S4.1 123 (Int32.toNatClampNeg ((S4.1 94 45) - 1))) (fun x7 => if x7 = 6 then (some ((), S4)) else (rx_let (fun (x9 : Int32) (x10 : Int32) (S11 : rx_S) => rx_let (rx_ui S11 94 45 ((S11.1 94 45) - 1)) (fun S12 => rx_let (fun (x13 : Int32) (x14 : Int32) (S15 : rx_S) => rx_bd (f_X11_emit x14 0 S15) (fun x17 S16 => f_X11_comesOut_L0 N n x13 S16)) (fun J84_2 => if x10 = 8 then (J84_2 x9 2 S12) else (if x10 = 9 then (J84_2 x9 3 S12) else (if x10 = 10 then (J84_2 x9 4 S12) else (J84_2 x9 5 S12)))))) (fun J42_1 => if x3 = 0 then (J42_1 x3 x7 S4) else (if x7 = 8 then (some ((), S4)) else (if x7 = 9 then (some ((), S4)) else (J42_1 x3 x7 S4))))))))
def f_X11_comesOut (N : Nat) (x1 : Int32) (S0 : rx_S) : Option (Unit × rx_S) := f_X11_comesOut_L0 N N x1 S0
set_option maxHeartbeats 4000000 in
set_option maxRecDepth 20000 in
theorem em_X11_comesOut_L0 {d N : Nat} {zr : Unit} {zS : rx_S} : ∀ (n : Nat) (x3 : Int32) (S4 : rx_S), f_X11_comesOut_L0 N n x3 S4 = some (zr, zS) → EV gM (d + 1) mX11_comesOut 0 [some (.ref 94), some (.int x3), none] [] S4 (rx_pv zS) := by
  intro n
  induction n with
  | zero => intro x3 S4 h; cases h
  | succ n ih =>
    intro x3 S4 h
    rw [f_X11_comesOut_L0] at h
    refine ev_aload_n (i := 0) 1 dX11_comesOut_0 rfl rfl rfl ?_
    refine ev_get (v := .int (S4.1 94 45)) 4 dX11_comesOut_1 dk_94 fl_11_299 (by decide) rfl rfl rfl ?_
    refine ev_if_le 91 7 dX11_comesOut_4 rfl rfl (fun c5 => ?_) (fun c5 => ?_)
    · replace h := rx_if_t c5 h
      exact ev_return dX11_comesOut_91 rfl (rx_ret_v h)
    · replace h := rx_if_f c5 h
      refine ev_aload_n (i := 0) 8 dX11_comesOut_7 rfl rfl rfl ?_
      refine ev_get (v := .ref 123) 11 dX11_comesOut_8 dk_94 fl_11_104 (by decide) rfl rfl rfl ?_
      refine ev_aload_n (i := 0) 12 dX11_comesOut_11 rfl rfl rfl ?_
      refine ev_get (v := .int (S4.1 94 45)) 15 dX11_comesOut_12 dk_94 fl_11_299 (by decide) rfl rfl rfl ?_
      refine ev_iconst (v := 1) 16 dX11_comesOut_15 (by decide) rfl ?_
      refine ev_isub 17 dX11_comesOut_16 rfl ?_
      obtain ⟨g6, h⟩ := rx_gd_o h
      refine ex_iald _ 18 dX11_comesOut_17 dk_123 g6 rfl rfl ?_
      obtain ⟨x7, ex7, h⟩ := rx_let_o h
      refine ev_nm ex7 ?_
      refine ev_istore_n (ls' := [some (.ref 94), some (.int x3), some (.int x7)]) 19 dX11_comesOut_18 rfl (Nat.le_of_ble_eq_true rfl) rfl rfl ?_
      refine ev_iload_n (i := 2) 20 dX11_comesOut_19 rfl rfl rfl ?_
      refine ev_bipush (v := 6) 22 dX11_comesOut_20 (by decide) rfl ?_
      refine ev_icmp_eq 41 25 dX11_comesOut_22 rfl rfl (fun c8 => ?_) (fun c8 => ?_)
      · replace h := rx_if_t c8 h
        exact ev_return dX11_comesOut_41 rfl (rx_ret_v h)
      · replace h := rx_if_f c8 h
        refine ev_iload_n (i := 1) 26 dX11_comesOut_25 rfl rfl rfl ?_
        obtain ⟨J42_1, eJ42_1, h⟩ := rx_let_o h
        have hJ42_1 : ∀ (x9 : Int32) (x10 : Int32) (S11 : rx_S), J42_1 x9 x10 S11 = some (zr, zS) → EV gM (d + 1) mX11_comesOut 42 [some (.ref 94), some (.int x9), some (.int x10)] [] S11 (rx_pv zS) := by
          intro x9 x10 S11 h
          subst eJ42_1
          refine ev_aload_n (i := 0) 43 dX11_comesOut_42 rfl rfl rfl ?_
          refine ev_dup 44 dX11_comesOut_43 rfl rfl ?_
          refine ev_get (v := .int (S11.1 94 45)) 47 dX11_comesOut_44 dk_94 fl_11_299 (by decide) rfl rfl rfl ?_
          refine ev_iconst (v := 1) 48 dX11_comesOut_47 (by decide) rfl ?_
          refine ev_isub 49 dX11_comesOut_48 rfl ?_
          obtain ⟨S12, eS12, h⟩ := rx_let_o h
          refine ex_put 52 dX11_comesOut_49 dk_94 fl_11_299 pp_11_45 (by decide) rfl rfl rfl rfl eS12 ?_
          refine ev_aload_n (i := 0) 53 dX11_comesOut_52 rfl rfl rfl ?_
          refine ev_iload_n (i := 2) 54 dX11_comesOut_53 rfl rfl rfl ?_
          refine ev_bipush (v := 8) 56 dX11_comesOut_54 (by decide) rfl ?_
          obtain ⟨J84_2, eJ84_2, h⟩ := rx_let_o h
          have hJ84_2 : ∀ (x13 : Int32) (x14 : Int32) (S15 : rx_S), J84_2 x13 x14 S15 = some (zr, zS) → EV gM (d + 1) mX11_comesOut 84 [some (.ref 94), some (.int x13), none] [.int x14, .ref 94] S15 (rx_pv zS) := by
            intro x13 x14 S15 h
            subst eJ84_2
            refine ev_iconst (v := 0) 85 dX11_comesOut_84 (by decide) rfl ?_
            obtain ⟨x17, S16, g18, h⟩ := rx_bd_o h
            refine ev_cVv2 88 dX11_comesOut_85 (em_X11_emit g18) mm_X11_emit mv_X11_emit lk_11_302 dk_94 (by decide) rfl (Nat.le_of_ble_eq_true rfl) (Nat.le_of_ble_eq_true rfl) rfl ?_
            refine ev_goto 0 dX11_comesOut_88 rfl ?_
            exact (ih _ _ h).fewer (rx_le_s (rx_le_s (rx_le_n rx_le_0)))
          refine ev_icmp_ne 63 59 dX11_comesOut_56 rfl rfl (fun c19 => ?_) (fun c19 => ?_)
          · replace h := rx_if_f c19 h
            refine ev_iload_n (i := 2) 64 dX11_comesOut_63 rfl rfl rfl ?_
            refine ev_bipush (v := 9) 66 dX11_comesOut_64 (by decide) rfl ?_
            refine ev_icmp_ne 73 69 dX11_comesOut_66 rfl rfl (fun c20 => ?_) (fun c20 => ?_)
            · replace h := rx_if_f c20 h
              refine ev_iload_n (i := 2) 74 dX11_comesOut_73 rfl rfl rfl ?_
              refine ev_bipush (v := 10) 76 dX11_comesOut_74 (by decide) rfl ?_
              refine ev_icmp_ne 83 79 dX11_comesOut_76 rfl rfl (fun c21 => ?_) (fun c21 => ?_)
              · replace h := rx_if_f c21 h
                refine ev_iconst (v := 5) 84 dX11_comesOut_83 (by decide) rfl ?_
                exact (hJ84_2 _ _ _ h).fewer (rx_le_s (rx_le_s (rx_le_n rx_le_0)))
              · replace h := rx_if_t c21 h
                refine ev_iconst (v := 4) 80 dX11_comesOut_79 (by decide) rfl ?_
                refine ev_goto 84 dX11_comesOut_80 rfl ?_
                exact (hJ84_2 _ _ _ h).fewer (rx_le_s (rx_le_s (rx_le_n rx_le_0)))
            · replace h := rx_if_t c20 h
              refine ev_iconst (v := 3) 70 dX11_comesOut_69 (by decide) rfl ?_
              refine ev_goto 84 dX11_comesOut_70 rfl ?_
              exact (hJ84_2 _ _ _ h).fewer (rx_le_s (rx_le_s (rx_le_n rx_le_0)))
          · replace h := rx_if_t c19 h
            refine ev_iconst (v := 2) 60 dX11_comesOut_59 (by decide) rfl ?_
            refine ev_goto 84 dX11_comesOut_60 rfl ?_
            exact (hJ84_2 _ _ _ h).fewer (rx_le_s (rx_le_s (rx_le_n rx_le_0)))
        refine ev_if_eq 42 29 dX11_comesOut_26 rfl rfl (fun c22 => ?_) (fun c22 => ?_)
        · replace h := rx_if_t c22 h
          exact (hJ42_1 _ _ _ h).fewer (rx_le_s (rx_le_s (rx_le_s rx_le_0)))
        · replace h := rx_if_f c22 h
          refine ev_iload_n (i := 2) 30 dX11_comesOut_29 rfl rfl rfl ?_
          refine ev_bipush (v := 8) 32 dX11_comesOut_30 (by decide) rfl ?_
          refine ev_icmp_eq 41 35 dX11_comesOut_32 rfl rfl (fun c23 => ?_) (fun c23 => ?_)
          · replace h := rx_if_t c23 h
            exact ev_return dX11_comesOut_41 rfl (rx_ret_v h)
          · replace h := rx_if_f c23 h
            refine ev_iload_n (i := 2) 36 dX11_comesOut_35 rfl rfl rfl ?_
            refine ev_bipush (v := 9) 38 dX11_comesOut_36 (by decide) rfl ?_
            refine ev_icmp_ne 42 41 dX11_comesOut_38 rfl rfl (fun c24 => ?_) (fun c24 => ?_)
            · replace h := rx_if_f c24 h
              exact (hJ42_1 _ _ _ h).fewer (rx_le_s (rx_le_s (rx_le_s rx_le_0)))
            · replace h := rx_if_t c24 h
              exact ev_return dX11_comesOut_41 rfl (rx_ret_v h)

set_option maxHeartbeats 4000000 in
set_option maxRecDepth 20000 in
theorem em_X11_comesOut {d N : Nat} {x1 : Int32} {S0 : rx_S} {zr : Unit} {zS : rx_S} (h : f_X11_comesOut N x1 S0 = some (zr, zS)) : EM gM (d + 1) mX11_comesOut [.ref 94, .int x1] S0 (rx_pv zS) := by
  unfold f_X11_comesOut at h
  show EV gM (d + 1) mX11_comesOut 0 [some (.ref 94), some (.int x1), none] [] S0 (rx_pv zS)
  exact (em_X11_comesOut_L0 _ _ _ h).fewer (rx_le_s (rx_le_s (rx_le_n rx_le_0)))

