def f_X8_hasThird (k : Nat) (x1 : Int32) (S0 : rx_S) : Option (Int32 × rx_S) := if x1 < 0 then (some (0, S0)) else (if (S0.1 k 8) ≤ x1 then (some (0, S0)) else (some (1, S0)))
set_option maxHeartbeats 4000000 in
set_option maxRecDepth 20000 in
theorem em_X8_hasThird_2 {d : Nat} {x1 : Int32} {S0 : rx_S} {zr : Int32} {zS : rx_S} (h : f_X8_hasThird 2 x1 S0 = some (zr, zS)) : EM gC d mX8_hasThird [.ref 2, .int x1] S0 (rx_pi zr zS) := by
  unfold f_X8_hasThird at h
  show EV gC d mX8_hasThird 0 [some (.ref 2), some (.int x1)] [] S0 (rx_pi zr zS)
  refine ev_iload_n (i := 1) 1 dX8_hasThird_0 rfl rfl rfl ?_
  refine ev_if_lt 16 4 dX8_hasThird_1 rfl rfl (fun c3 => ?_) (fun c3 => ?_)
  · replace h := rx_if_t c3 h
    refine ev_iconst (v := 0) 17 dX8_hasThird_16 (by decide) rfl ?_
    exact ev_zreturn dX8_hasThird_17 rfl (by decide) (rx_ret_i h)
  · replace h := rx_if_f c3 h
    refine ev_iload_n (i := 1) 5 dX8_hasThird_4 rfl rfl rfl ?_
    refine ev_aload_n (i := 0) 6 dX8_hasThird_5 rfl rfl rfl ?_
    refine ev_get (v := .int (S0.1 2 8)) 9 dX8_hasThird_6 dk_2 fl_8_44 (by decide) rfl rfl rfl ?_
    refine ev_icmp_ge 16 12 dX8_hasThird_9 rfl rfl (fun c4 => ?_) (fun c4 => ?_)
    · replace h := rx_if_t c4 h
      refine ev_iconst (v := 0) 17 dX8_hasThird_16 (by decide) rfl ?_
      exact ev_zreturn dX8_hasThird_17 rfl (by decide) (rx_ret_i h)
    · replace h := rx_if_f c4 h
      refine ev_iconst (v := 1) 13 dX8_hasThird_12 (by decide) rfl ?_
      refine ev_goto 17 dX8_hasThird_13 rfl ?_
      exact ev_zreturn dX8_hasThird_17 rfl (by decide) (rx_ret_i h)

set_option maxHeartbeats 4000000 in
set_option maxRecDepth 20000 in
theorem em_X8_hasThird_19 {d : Nat} {x1 : Int32} {S0 : rx_S} {zr : Int32} {zS : rx_S} (h : f_X8_hasThird 19 x1 S0 = some (zr, zS)) : EM gC d mX8_hasThird [.ref 19, .int x1] S0 (rx_pi zr zS) := by
  unfold f_X8_hasThird at h
  show EV gC d mX8_hasThird 0 [some (.ref 19), some (.int x1)] [] S0 (rx_pi zr zS)
  refine ev_iload_n (i := 1) 1 dX8_hasThird_0 rfl rfl rfl ?_
  refine ev_if_lt 16 4 dX8_hasThird_1 rfl rfl (fun c3 => ?_) (fun c3 => ?_)
  · replace h := rx_if_t c3 h
    refine ev_iconst (v := 0) 17 dX8_hasThird_16 (by decide) rfl ?_
    exact ev_zreturn dX8_hasThird_17 rfl (by decide) (rx_ret_i h)
  · replace h := rx_if_f c3 h
    refine ev_iload_n (i := 1) 5 dX8_hasThird_4 rfl rfl rfl ?_
    refine ev_aload_n (i := 0) 6 dX8_hasThird_5 rfl rfl rfl ?_
    refine ev_get (v := .int (S0.1 19 8)) 9 dX8_hasThird_6 dk_19 fl_8_44 (by decide) rfl rfl rfl ?_
    refine ev_icmp_ge 16 12 dX8_hasThird_9 rfl rfl (fun c4 => ?_) (fun c4 => ?_)
    · replace h := rx_if_t c4 h
      refine ev_iconst (v := 0) 17 dX8_hasThird_16 (by decide) rfl ?_
      exact ev_zreturn dX8_hasThird_17 rfl (by decide) (rx_ret_i h)
    · replace h := rx_if_f c4 h
      refine ev_iconst (v := 1) 13 dX8_hasThird_12 (by decide) rfl ?_
      refine ev_goto 17 dX8_hasThird_13 rfl ?_
      exact ev_zreturn dX8_hasThird_17 rfl (by decide) (rx_ret_i h)

def f_X7_speakerOf (k : Nat) (x2 : Int32) (S0 : rx_S) : Option (Int32 × rx_S) := rx_gd (((2 : Int32) * x2) + ((S0.1 k 0) &&& 1)) 6 (some ((S0.1 10 (Int32.toNatClampNeg (((2 : Int32) * x2) + ((S0.1 k 0) &&& 1)))), S0))
set_option maxHeartbeats 4000000 in
set_option maxRecDepth 20000 in
theorem em_X7_speakerOf_32 {d : Nat} {x2 : Int32} {S0 : rx_S} {zr : Int32} {zS : rx_S} (h : f_X7_speakerOf 32 x2 S0 = some (zr, zS)) : EM gC d mX7_speakerOf [.ref 80, .ref 32, .int x2] S0 (rx_pi zr zS) := by
  unfold f_X7_speakerOf at h
  show EV gC d mX7_speakerOf 0 [some (.ref 80), some (.ref 32), some (.int x2)] [] S0 (rx_pi zr zS)
  refine ev_aload_n (i := 0) 1 dX7_speakerOf_0 rfl rfl rfl ?_
  refine ev_get (v := .ref 2) 4 dX7_speakerOf_1 dk_80 fl_7_9 (by decide) rfl rfl rfl ?_
  refine ev_get (v := .ref 10) 7 dX7_speakerOf_4 dk_2 fl_7_84 (by decide) rfl rfl rfl ?_
  refine ev_iconst (v := 2) 8 dX7_speakerOf_7 (by decide) rfl ?_
  refine ev_iload_n (i := 2) 9 dX7_speakerOf_8 rfl rfl rfl ?_
  refine ev_imul 10 dX7_speakerOf_9 rfl ?_
  refine ev_aload_n (i := 1) 11 dX7_speakerOf_10 rfl rfl rfl ?_
  refine ev_iconst (v := 0) 12 dX7_speakerOf_11 (by decide) rfl ?_
  refine ex_iald 0 13 dX7_speakerOf_12 dk_32 (rx_vin (by decide)) (by decide) rfl ?_
  refine ev_iconst (v := 1) 14 dX7_speakerOf_13 (by decide) rfl ?_
  refine ev_iand 15 dX7_speakerOf_14 rfl ?_
  refine ev_iadd 16 dX7_speakerOf_15 rfl ?_
  obtain ⟨g4, h⟩ := rx_gd_o h
  refine ex_iald _ 17 dX7_speakerOf_16 dk_10 g4 rfl rfl ?_
  exact ev_ireturn dX7_speakerOf_17 rfl (rx_ret_i h)

set_option maxHeartbeats 4000000 in
set_option maxRecDepth 20000 in
theorem em_X7_speakerOf_89 {d : Nat} {x2 : Int32} {S0 : rx_S} {zr : Int32} {zS : rx_S} (h : f_X7_speakerOf 89 x2 S0 = some (zr, zS)) : EM gC d mX7_speakerOf [.ref 80, .ref 89, .int x2] S0 (rx_pi zr zS) := by
  unfold f_X7_speakerOf at h
  show EV gC d mX7_speakerOf 0 [some (.ref 80), some (.ref 89), some (.int x2)] [] S0 (rx_pi zr zS)
  refine ev_aload_n (i := 0) 1 dX7_speakerOf_0 rfl rfl rfl ?_
  refine ev_get (v := .ref 2) 4 dX7_speakerOf_1 dk_80 fl_7_9 (by decide) rfl rfl rfl ?_
  refine ev_get (v := .ref 10) 7 dX7_speakerOf_4 dk_2 fl_7_84 (by decide) rfl rfl rfl ?_
  refine ev_iconst (v := 2) 8 dX7_speakerOf_7 (by decide) rfl ?_
  refine ev_iload_n (i := 2) 9 dX7_speakerOf_8 rfl rfl rfl ?_
  refine ev_imul 10 dX7_speakerOf_9 rfl ?_
  refine ev_aload_n (i := 1) 11 dX7_speakerOf_10 rfl rfl rfl ?_
  refine ev_iconst (v := 0) 12 dX7_speakerOf_11 (by decide) rfl ?_
  refine ex_iald 0 13 dX7_speakerOf_12 dk_89 (rx_vin (by decide)) (by decide) rfl ?_
  refine ev_iconst (v := 1) 14 dX7_speakerOf_13 (by decide) rfl ?_
  refine ev_iand 15 dX7_speakerOf_14 rfl ?_
  refine ev_iadd 16 dX7_speakerOf_15 rfl ?_
  obtain ⟨g4, h⟩ := rx_gd_o h
  refine ex_iald _ 17 dX7_speakerOf_16 dk_10 g4 rfl rfl ?_
  exact ev_ireturn dX7_speakerOf_17 rfl (rx_ret_i h)

def f_X7_hearerOf (k : Nat) (x2 : Int32) (S0 : rx_S) : Option (Int32 × rx_S) := rx_gd ((((2 : Int32) * x2) + 1) - ((S0.1 k 0) &&& 1)) 6 (some ((S0.1 10 (Int32.toNatClampNeg ((((2 : Int32) * x2) + 1) - ((S0.1 k 0) &&& 1)))), S0))
set_option maxHeartbeats 4000000 in
set_option maxRecDepth 20000 in
theorem em_X7_hearerOf_32 {d : Nat} {x2 : Int32} {S0 : rx_S} {zr : Int32} {zS : rx_S} (h : f_X7_hearerOf 32 x2 S0 = some (zr, zS)) : EM gC d mX7_hearerOf [.ref 80, .ref 32, .int x2] S0 (rx_pi zr zS) := by
  unfold f_X7_hearerOf at h
  show EV gC d mX7_hearerOf 0 [some (.ref 80), some (.ref 32), some (.int x2)] [] S0 (rx_pi zr zS)
  refine ev_aload_n (i := 0) 1 dX7_hearerOf_0 rfl rfl rfl ?_
  refine ev_get (v := .ref 2) 4 dX7_hearerOf_1 dk_80 fl_7_9 (by decide) rfl rfl rfl ?_
  refine ev_get (v := .ref 10) 7 dX7_hearerOf_4 dk_2 fl_7_84 (by decide) rfl rfl rfl ?_
  refine ev_iconst (v := 2) 8 dX7_hearerOf_7 (by decide) rfl ?_
  refine ev_iload_n (i := 2) 9 dX7_hearerOf_8 rfl rfl rfl ?_
  refine ev_imul 10 dX7_hearerOf_9 rfl ?_
  refine ev_iconst (v := 1) 11 dX7_hearerOf_10 (by decide) rfl ?_
  refine ev_iadd 12 dX7_hearerOf_11 rfl ?_
  refine ev_aload_n (i := 1) 13 dX7_hearerOf_12 rfl rfl rfl ?_
  refine ev_iconst (v := 0) 14 dX7_hearerOf_13 (by decide) rfl ?_
  refine ex_iald 0 15 dX7_hearerOf_14 dk_32 (rx_vin (by decide)) (by decide) rfl ?_
  refine ev_iconst (v := 1) 16 dX7_hearerOf_15 (by decide) rfl ?_
  refine ev_iand 17 dX7_hearerOf_16 rfl ?_
  refine ev_isub 18 dX7_hearerOf_17 rfl ?_
  obtain ⟨g4, h⟩ := rx_gd_o h
  refine ex_iald _ 19 dX7_hearerOf_18 dk_10 g4 rfl rfl ?_
  exact ev_ireturn dX7_hearerOf_19 rfl (rx_ret_i h)

set_option maxHeartbeats 4000000 in
set_option maxRecDepth 20000 in
theorem em_X7_hearerOf_89 {d : Nat} {x2 : Int32} {S0 : rx_S} {zr : Int32} {zS : rx_S} (h : f_X7_hearerOf 89 x2 S0 = some (zr, zS)) : EM gC d mX7_hearerOf [.ref 80, .ref 89, .int x2] S0 (rx_pi zr zS) := by
  unfold f_X7_hearerOf at h
  show EV gC d mX7_hearerOf 0 [some (.ref 80), some (.ref 89), some (.int x2)] [] S0 (rx_pi zr zS)
  refine ev_aload_n (i := 0) 1 dX7_hearerOf_0 rfl rfl rfl ?_
  refine ev_get (v := .ref 2) 4 dX7_hearerOf_1 dk_80 fl_7_9 (by decide) rfl rfl rfl ?_
  refine ev_get (v := .ref 10) 7 dX7_hearerOf_4 dk_2 fl_7_84 (by decide) rfl rfl rfl ?_
  refine ev_iconst (v := 2) 8 dX7_hearerOf_7 (by decide) rfl ?_
  refine ev_iload_n (i := 2) 9 dX7_hearerOf_8 rfl rfl rfl ?_
  refine ev_imul 10 dX7_hearerOf_9 rfl ?_
  refine ev_iconst (v := 1) 11 dX7_hearerOf_10 (by decide) rfl ?_
  refine ev_iadd 12 dX7_hearerOf_11 rfl ?_
  refine ev_aload_n (i := 1) 13 dX7_hearerOf_12 rfl rfl rfl ?_
  refine ev_iconst (v := 0) 14 dX7_hearerOf_13 (by decide) rfl ?_
  refine ex_iald 0 15 dX7_hearerOf_14 dk_89 (rx_vin (by decide)) (by decide) rfl ?_
  refine ev_iconst (v := 1) 16 dX7_hearerOf_15 (by decide) rfl ?_
  refine ev_iand 17 dX7_hearerOf_16 rfl ?_
  refine ev_isub 18 dX7_hearerOf_17 rfl ?_
  obtain ⟨g4, h⟩ := rx_gd_o h
  refine ex_iald _ 19 dX7_hearerOf_18 dk_10 g4 rfl rfl ?_
  exact ev_ireturn dX7_hearerOf_19 rfl (rx_ret_i h)

def f_X2_askIn_L2 (k : Nat) (N : Nat) (K21 : Int32 → rx_S → Option (Unit × rx_S)) : Nat → Int32 → Int32 → rx_S → Option (Unit × rx_S)
  | 0, _, _, _ => none
  | n + 1, x6, x7, S8 => if (9 : Int32) ≤ x7 then (K21 x6 S8) else (rx_gd x7 9 (rx_let (rx_ui S8 (k + 4) (Int32.toNatClampNeg x7) 0) (fun S13 => rx_let (x7 + 1) (fun x14 => f_X2_askIn_L2 k N K21 n x6 x14 S13))))
def f_X2_askIn (k : Nat) (N : Nat) (x1 : Int32) (S0 : rx_S) : Option (Unit × rx_S) := rx_let (fun (x3 : Int32) (S4 : rx_S) => rx_let (rx_ui S4 (k + 4) 6 x3) (fun S5 => some ((), S5))) (fun J21_1 => f_X2_askIn_L2 k N J21_1 N x1 0 S0)
set_option maxHeartbeats 4000000 in
set_option maxRecDepth 20000 in
theorem em_X2_askIn_L2_3 {d N : Nat} {K21 : Int32 → rx_S → Option (Unit × rx_S)} {zr : Unit} {zS : rx_S} (hK21 : ∀ (x9 : Int32) (S10 : rx_S), K21 x9 S10 = some (zr, zS) → EV gC d mX2_askIn 21 [some (.ref 3), some (.int x9), none] [] S10 (rx_pv zS)) : ∀ (n : Nat) (x6 : Int32) (x7 : Int32) (S8 : rx_S), f_X2_askIn_L2 3 N K21 n x6 x7 S8 = some (zr, zS) → EV gC d mX2_askIn 2 [some (.ref 3), some (.int x6), some (.int x7)] [] S8 (rx_pv zS) := by
  intro n
  induction n with
  | zero => intro x6 x7 S8 h; cases h
  | succ n ih =>
    intro x6 x7 S8 h
    rw [f_X2_askIn_L2] at h
    refine ev_iload_n (i := 2) 3 dX2_askIn_2 rfl rfl rfl ?_
    refine ev_bipush (v := 9) 5 dX2_askIn_3 (by decide) rfl ?_
    refine ev_icmp_ge 21 8 dX2_askIn_5 rfl rfl (fun c11 => ?_) (fun c11 => ?_)
    · replace h := rx_if_t c11 h
      exact (hK21 _ _ h).fewer (rx_le_s (rx_le_s (rx_le_n rx_le_0)))
    · replace h := rx_if_f c11 h
      refine ev_aload_n (i := 0) 9 dX2_askIn_8 rfl rfl rfl ?_
      refine ev_get (v := .ref 7) 12 dX2_askIn_9 dk_3 fl_2_21 (by decide) rfl rfl rfl ?_
      refine ev_iload_n (i := 2) 13 dX2_askIn_12 rfl rfl rfl ?_
      refine ev_iconst (v := 0) 14 dX2_askIn_13 (by decide) rfl ?_
      obtain ⟨g12, h⟩ := rx_gd_o h
      obtain ⟨S13, eS13, h⟩ := rx_let_o h
      refine ex_iast _ 15 dX2_askIn_14 dk_7 g12 rfl rfl eS13 ?_
      obtain ⟨x14, ex14, h⟩ := rx_let_o h
      refine ev_iinc (v := x14) (ls' := [some (.ref 3), some (.int x6), some (.int x14)]) 18 dX2_askIn_15 rfl (by rw [ex14]; rfl) (Nat.le_of_ble_eq_true rfl) rfl rfl ?_
      refine ev_goto 2 dX2_askIn_18 rfl ?_
      exact (ih _ _ _ h).fewer (rx_le_s (rx_le_s (rx_le_s rx_le_0)))

set_option maxHeartbeats 4000000 in
set_option maxRecDepth 20000 in
theorem em_X2_askIn_3 {d N : Nat} {x1 : Int32} {S0 : rx_S} {zr : Unit} {zS : rx_S} (h : f_X2_askIn 3 N x1 S0 = some (zr, zS)) : EM gC d mX2_askIn [.ref 3, .int x1] S0 (rx_pv zS) := by
  unfold f_X2_askIn at h
  show EV gC d mX2_askIn 0 [some (.ref 3), some (.int x1), none] [] S0 (rx_pv zS)
  refine ev_iconst (v := 0) 1 dX2_askIn_0 (by decide) rfl ?_
  refine ev_istore_n (ls' := [some (.ref 3), some (.int x1), some (.int 0)]) 2 dX2_askIn_1 rfl (Nat.le_of_ble_eq_true rfl) rfl rfl ?_
  obtain ⟨J21_1, eJ21_1, h⟩ := rx_let_o h
  have hJ21_1 : ∀ (x3 : Int32) (S4 : rx_S), J21_1 x3 S4 = some (zr, zS) → EV gC d mX2_askIn 21 [some (.ref 3), some (.int x3), none] [] S4 (rx_pv zS) := by
    intro x3 S4 h
    subst eJ21_1
    refine ev_aload_n (i := 0) 22 dX2_askIn_21 rfl rfl rfl ?_
    refine ev_get (v := .ref 7) 25 dX2_askIn_22 dk_3 fl_2_21 (by decide) rfl rfl rfl ?_
    refine ev_bipush (v := 6) 27 dX2_askIn_25 (by decide) rfl ?_
    refine ev_iload_n (i := 1) 28 dX2_askIn_27 rfl rfl rfl ?_
    obtain ⟨S5, eS5, h⟩ := rx_let_o h
    refine ex_iast 6 29 dX2_askIn_28 dk_7 (rx_vin (by decide)) (by decide) rfl eS5 ?_
    exact ev_return dX2_askIn_29 rfl (rx_ret_v h)
  exact (em_X2_askIn_L2_3 hJ21_1 _ _ _ _ h).fewer (rx_le_s (rx_le_s (rx_le_s rx_le_0)))

set_option maxHeartbeats 4000000 in
set_option maxRecDepth 20000 in
theorem em_X2_askIn_L2_20 {d N : Nat} {K21 : Int32 → rx_S → Option (Unit × rx_S)} {zr : Unit} {zS : rx_S} (hK21 : ∀ (x9 : Int32) (S10 : rx_S), K21 x9 S10 = some (zr, zS) → EV gC d mX2_askIn 21 [some (.ref 20), some (.int x9), none] [] S10 (rx_pv zS)) : ∀ (n : Nat) (x6 : Int32) (x7 : Int32) (S8 : rx_S), f_X2_askIn_L2 20 N K21 n x6 x7 S8 = some (zr, zS) → EV gC d mX2_askIn 2 [some (.ref 20), some (.int x6), some (.int x7)] [] S8 (rx_pv zS) := by
  intro n
  induction n with
  | zero => intro x6 x7 S8 h; cases h
  | succ n ih =>
    intro x6 x7 S8 h
    rw [f_X2_askIn_L2] at h
    refine ev_iload_n (i := 2) 3 dX2_askIn_2 rfl rfl rfl ?_
    refine ev_bipush (v := 9) 5 dX2_askIn_3 (by decide) rfl ?_
    refine ev_icmp_ge 21 8 dX2_askIn_5 rfl rfl (fun c11 => ?_) (fun c11 => ?_)
    · replace h := rx_if_t c11 h
      exact (hK21 _ _ h).fewer (rx_le_s (rx_le_s (rx_le_n rx_le_0)))
    · replace h := rx_if_f c11 h
      refine ev_aload_n (i := 0) 9 dX2_askIn_8 rfl rfl rfl ?_
      refine ev_get (v := .ref 24) 12 dX2_askIn_9 dk_20 fl_2_21 (by decide) rfl rfl rfl ?_
      refine ev_iload_n (i := 2) 13 dX2_askIn_12 rfl rfl rfl ?_
      refine ev_iconst (v := 0) 14 dX2_askIn_13 (by decide) rfl ?_
      obtain ⟨g12, h⟩ := rx_gd_o h
      obtain ⟨S13, eS13, h⟩ := rx_let_o h
      refine ex_iast _ 15 dX2_askIn_14 dk_24 g12 rfl rfl eS13 ?_
      obtain ⟨x14, ex14, h⟩ := rx_let_o h
      refine ev_iinc (v := x14) (ls' := [some (.ref 20), some (.int x6), some (.int x14)]) 18 dX2_askIn_15 rfl (by rw [ex14]; rfl) (Nat.le_of_ble_eq_true rfl) rfl rfl ?_
      refine ev_goto 2 dX2_askIn_18 rfl ?_
      exact (ih _ _ _ h).fewer (rx_le_s (rx_le_s (rx_le_s rx_le_0)))

set_option maxHeartbeats 4000000 in
set_option maxRecDepth 20000 in
theorem em_X2_askIn_20 {d N : Nat} {x1 : Int32} {S0 : rx_S} {zr : Unit} {zS : rx_S} (h : f_X2_askIn 20 N x1 S0 = some (zr, zS)) : EM gC d mX2_askIn [.ref 20, .int x1] S0 (rx_pv zS) := by
  unfold f_X2_askIn at h
  show EV gC d mX2_askIn 0 [some (.ref 20), some (.int x1), none] [] S0 (rx_pv zS)
  refine ev_iconst (v := 0) 1 dX2_askIn_0 (by decide) rfl ?_
  refine ev_istore_n (ls' := [some (.ref 20), some (.int x1), some (.int 0)]) 2 dX2_askIn_1 rfl (Nat.le_of_ble_eq_true rfl) rfl rfl ?_
  obtain ⟨J21_1, eJ21_1, h⟩ := rx_let_o h
  have hJ21_1 : ∀ (x3 : Int32) (S4 : rx_S), J21_1 x3 S4 = some (zr, zS) → EV gC d mX2_askIn 21 [some (.ref 20), some (.int x3), none] [] S4 (rx_pv zS) := by
    intro x3 S4 h
    subst eJ21_1
    refine ev_aload_n (i := 0) 22 dX2_askIn_21 rfl rfl rfl ?_
    refine ev_get (v := .ref 24) 25 dX2_askIn_22 dk_20 fl_2_21 (by decide) rfl rfl rfl ?_
    refine ev_bipush (v := 6) 27 dX2_askIn_25 (by decide) rfl ?_
    refine ev_iload_n (i := 1) 28 dX2_askIn_27 rfl rfl rfl ?_
    obtain ⟨S5, eS5, h⟩ := rx_let_o h
    refine ex_iast 6 29 dX2_askIn_28 dk_24 (rx_vin (by decide)) (by decide) rfl eS5 ?_
    exact ev_return dX2_askIn_29 rfl (rx_ret_v h)
  exact (em_X2_askIn_L2_20 hJ21_1 _ _ _ _ h).fewer (rx_le_s (rx_le_s (rx_le_s rx_le_0)))

def f_X2_let (k : Nat) (x1 : Int32) (x2 : Int32) (S0 : rx_S) : Option (Unit × rx_S) := if x1 < 0 then (some ((), S0)) else (if (9 : Int32) ≤ x1 then (some ((), S0)) else (rx_gd x1 9 (rx_let (rx_ui S0 (k + 4) (Int32.toNatClampNeg x1) x2) (fun S7 => some ((), S7)))))
set_option maxHeartbeats 4000000 in
set_option maxRecDepth 20000 in
theorem em_X2_let_3 {d : Nat} {x1 : Int32} {x2 : Int32} {S0 : rx_S} {zr : Unit} {zS : rx_S} (h : f_X2_let 3 x1 x2 S0 = some (zr, zS)) : EM gC d mX2_let [.ref 3, .int x1, .int x2] S0 (rx_pv zS) := by
  unfold f_X2_let at h
  show EV gC d mX2_let 0 [some (.ref 3), some (.int x1), some (.int x2)] [] S0 (rx_pv zS)
  refine ev_iload_n (i := 1) 1 dX2_let_0 rfl rfl rfl ?_
  refine ev_if_lt 17 4 dX2_let_1 rfl rfl (fun c4 => ?_) (fun c4 => ?_)
  · replace h := rx_if_t c4 h
    exact ev_return dX2_let_17 rfl (rx_ret_v h)
  · replace h := rx_if_f c4 h
    refine ev_iload_n (i := 1) 5 dX2_let_4 rfl rfl rfl ?_
    refine ev_bipush (v := 9) 7 dX2_let_5 (by decide) rfl ?_
    refine ev_icmp_ge 17 10 dX2_let_7 rfl rfl (fun c5 => ?_) (fun c5 => ?_)
    · replace h := rx_if_t c5 h
      exact ev_return dX2_let_17 rfl (rx_ret_v h)
    · replace h := rx_if_f c5 h
      refine ev_aload_n (i := 0) 11 dX2_let_10 rfl rfl rfl ?_
      refine ev_get (v := .ref 7) 14 dX2_let_11 dk_3 fl_2_21 (by decide) rfl rfl rfl ?_
      refine ev_iload_n (i := 1) 15 dX2_let_14 rfl rfl rfl ?_
      refine ev_iload_n (i := 2) 16 dX2_let_15 rfl rfl rfl ?_
      obtain ⟨g6, h⟩ := rx_gd_o h
      obtain ⟨S7, eS7, h⟩ := rx_let_o h
      refine ex_iast _ 17 dX2_let_16 dk_7 g6 rfl rfl eS7 ?_
      exact ev_return dX2_let_17 rfl (rx_ret_v h)

set_option maxHeartbeats 4000000 in
set_option maxRecDepth 20000 in
theorem em_X2_let_20 {d : Nat} {x1 : Int32} {x2 : Int32} {S0 : rx_S} {zr : Unit} {zS : rx_S} (h : f_X2_let 20 x1 x2 S0 = some (zr, zS)) : EM gC d mX2_let [.ref 20, .int x1, .int x2] S0 (rx_pv zS) := by
  unfold f_X2_let at h
  show EV gC d mX2_let 0 [some (.ref 20), some (.int x1), some (.int x2)] [] S0 (rx_pv zS)
  refine ev_iload_n (i := 1) 1 dX2_let_0 rfl rfl rfl ?_
  refine ev_if_lt 17 4 dX2_let_1 rfl rfl (fun c4 => ?_) (fun c4 => ?_)
  · replace h := rx_if_t c4 h
    exact ev_return dX2_let_17 rfl (rx_ret_v h)
  · replace h := rx_if_f c4 h
    refine ev_iload_n (i := 1) 5 dX2_let_4 rfl rfl rfl ?_
    refine ev_bipush (v := 9) 7 dX2_let_5 (by decide) rfl ?_
    refine ev_icmp_ge 17 10 dX2_let_7 rfl rfl (fun c5 => ?_) (fun c5 => ?_)
    · replace h := rx_if_t c5 h
      exact ev_return dX2_let_17 rfl (rx_ret_v h)
    · replace h := rx_if_f c5 h
      refine ev_aload_n (i := 0) 11 dX2_let_10 rfl rfl rfl ?_
      refine ev_get (v := .ref 24) 14 dX2_let_11 dk_20 fl_2_21 (by decide) rfl rfl rfl ?_
      refine ev_iload_n (i := 1) 15 dX2_let_14 rfl rfl rfl ?_
      refine ev_iload_n (i := 2) 16 dX2_let_15 rfl rfl rfl ?_
      obtain ⟨g6, h⟩ := rx_gd_o h
      obtain ⟨S7, eS7, h⟩ := rx_let_o h
      refine ex_iast _ 17 dX2_let_16 dk_24 g6 rfl rfl eS7 ?_
      exact ev_return dX2_let_17 rfl (rx_ret_v h)

def f_X2_answer_L26 (k : Nat) (N : Nat) (K63 : Int32 → rx_S → Option (Int32 × rx_S)) : Nat → Int32 → Int32 → Int32 → rx_S → Option (Int32 × rx_S)
  | 0, _, _, _, _ => none
  | n + 1, x8, x9, x10, S11 => if (420 : Int32) ≤ x10 then (some (0, S11)) else (if x8 < 0 then (some (0, S11)) else (if (420 : Int32) ≤ x8 then (some (0, S11)) else (rx_gd x8 420 (rx_let (S11.1 (k + 1) (Int32.toNatClampNeg x8)) (fun x18 => rx_let (x8 + 1) (fun x19 => if x18 = (-14) then (K63 x9 S11) else (if x18 ≤ (-10) then (if (2 : Int32) ≤ x9 then (rx_let (x9 + (-1)) (fun x23 => rx_gd (x23 - 1) 20 (rx_let (S11.1 (k + 3) (Int32.toNatClampNeg (x23 - 1))) (fun x25 => rx_gd x23 20 (rx_let (S11.1 (k + 3) (Int32.toNatClampNeg x23)) (fun x27 => if x18 = (-13) then (if x27 = 0 then (some (0, S11)) else (rx_nz x27 (rx_gd (x23 - 1) 20 (rx_let (rx_ui S11 (k + 3) (Int32.toNatClampNeg (x23 - 1)) (x25 / x27)) (fun S32 => rx_let (x10 + 1) (fun x33 => f_X2_answer_L26 k N K63 n x19 x23 x33 S32)))))) else (if x18 = (-12) then (rx_gd (x23 - 1) 20 (rx_let (rx_ui S11 (k + 3) (Int32.toNatClampNeg (x23 - 1)) (x25 * x27)) (fun S36 => rx_let (x10 + 1) (fun x37 => f_X2_answer_L26 k N K63 n x19 x23 x37 S36)))) else (if x18 = (-11) then (rx_gd (x23 - 1) 20 (rx_let (rx_ui S11 (k + 3) (Int32.toNatClampNeg (x23 - 1)) (x25 - x27)) (fun S40 => rx_let (x10 + 1) (fun x41 => f_X2_answer_L26 k N K63 n x19 x23 x41 S40)))) else (if x18 = (-10) then (rx_gd (x23 - 1) 20 (rx_let (rx_ui S11 (k + 3) (Int32.toNatClampNeg (x23 - 1)) (x25 + x27)) (fun S44 => rx_let (x10 + 1) (fun x45 => f_X2_answer_L26 k N K63 n x19 x23 x45 S44)))) else (rx_let (x23 + (-1)) (fun x46 => if x27 ≤ x25 then (rx_let (((-100) : Int32) - x18) (fun x48 => rx_let (x10 + 1) (fun x49 => f_X2_answer_L26 k N K63 n x48 x46 x49 S11))) else (rx_let (x10 + 1) (fun x50 => f_X2_answer_L26 k N K63 n x19 x46 x50 S11))))))))))))) else (some (0, S11))) else (if x9 < 20 then (rx_let (fun (x52 : Int32) (x53 : Int32) (x54 : Int32) (x55 : Int32) (x56 : Int32) (S57 : rx_S) => rx_gd x55 20 (rx_let (rx_ui S57 (k + 3) (Int32.toNatClampNeg x55) x56) (fun S59 => rx_let (x53 + 1) (fun x60 => rx_let (x54 + 1) (fun x61 => f_X2_answer_L26 k N K63 n x52 x60 x61 S59))))) (fun J118_3 => if x18 < 0 then (rx_gd (((-1) : Int32) - x18) 9 (J118_3 x19 x9 x10 x9 (S11.1 (k + 4) (Int32.toNatClampNeg (((-1) : Int32) - x18))) S11)) else (J118_3 x19 x9 x10 x9 x18 S11))) else (some (0, S11))))))))))
def f_X2_answer (k : Nat) (N : Nat) (x1 : Int32) (S0 : rx_S) : Option (Int32 × rx_S) := rx_let (fun (x3 : Int32) (S4 : rx_S) => rx_let (fun (x5 : Int32) (S6 : rx_S) => if x5 = 1 then (some ((S6.1 (k + 3) 0), S6)) else (some (0, S6))) (fun J63_2 => f_X2_answer_L26 k N J63_2 N x3 0 0 S4)) (fun J20_1 => rx_let (fun (S64 : rx_S) => J20_1 (-1) S64) (fun J19_4 => if x1 < 0 then (J19_4 S0) else (if (7 : Int32) ≤ x1 then (J19_4 S0) else (rx_gd x1 7 (J20_1 (S0.1 (k + 2) (Int32.toNatClampNeg x1)) S0)))))
set_option maxHeartbeats 4000000 in
set_option maxRecDepth 20000 in
theorem em_X2_answer_L26_3 {d N : Nat} {K63 : Int32 → rx_S → Option (Int32 × rx_S)} {zr : Int32} {zS : rx_S} (hK63 : ∀ (x12 : Int32) (S13 : rx_S), K63 x12 S13 = some (zr, zS) → EV gC d mX2_answer 63 [some (.ref 3), none, none, some (.int x12), none, none, none, none] [] S13 (rx_pi zr zS)) : ∀ (n : Nat) (x8 : Int32) (x9 : Int32) (x10 : Int32) (S11 : rx_S), f_X2_answer_L26 3 N K63 n x8 x9 x10 S11 = some (zr, zS) → EV gC d mX2_answer 26 [some (.ref 3), none, some (.int x8), some (.int x9), some (.int x10), none, none, none] [] S11 (rx_pi zr zS) := by
  intro n
  induction n with
  | zero => intro x8 x9 x10 S11 h; cases h
  | succ n ih =>
    intro x8 x9 x10 S11 h
    rw [f_X2_answer_L26] at h
    refine ev_iload 28 dX2_answer_26 rfl rfl ?_
    refine ev_sipush (v := 420) 31 dX2_answer_28 (by decide) rfl ?_
    refine ev_icmp_ge 281 34 dX2_answer_31 rfl rfl (fun c14 => ?_) (fun c14 => ?_)
    · replace h := rx_if_t c14 h
      refine ev_iconst (v := 0) 282 dX2_answer_281 (by decide) rfl ?_
      exact ev_ireturn dX2_answer_282 rfl (rx_ret_i h)
    · replace h := rx_if_f c14 h
      refine ev_iload_n (i := 2) 35 dX2_answer_34 rfl rfl rfl ?_
      refine ev_if_lt 281 38 dX2_answer_35 rfl rfl (fun c15 => ?_) (fun c15 => ?_)
      · replace h := rx_if_t c15 h
        refine ev_iconst (v := 0) 282 dX2_answer_281 (by decide) rfl ?_
        exact ev_ireturn dX2_answer_282 rfl (rx_ret_i h)
      · replace h := rx_if_f c15 h
        refine ev_iload_n (i := 2) 39 dX2_answer_38 rfl rfl rfl ?_
        refine ev_sipush (v := 420) 42 dX2_answer_39 (by decide) rfl ?_
        refine ev_icmp_ge 281 45 dX2_answer_42 rfl rfl (fun c16 => ?_) (fun c16 => ?_)
        · replace h := rx_if_t c16 h
          refine ev_iconst (v := 0) 282 dX2_answer_281 (by decide) rfl ?_
          exact ev_ireturn dX2_answer_282 rfl (rx_ret_i h)
        · replace h := rx_if_f c16 h
          refine ev_aload_n (i := 0) 46 dX2_answer_45 rfl rfl rfl ?_
          refine ev_get (v := .ref 4) 49 dX2_answer_46 dk_3 fl_2_9 (by decide) rfl rfl rfl ?_
          refine ev_iload_n (i := 2) 50 dX2_answer_49 rfl rfl rfl ?_
          obtain ⟨g17, h⟩ := rx_gd_o h
          refine ex_iald _ 51 dX2_answer_50 dk_4 g17 rfl rfl ?_
          obtain ⟨x18, ex18, h⟩ := rx_let_o h
          refine ev_nm ex18 ?_
          refine ev_istore (ls' := [some (.ref 3), none, some (.int x8), some (.int x9), some (.int x10), some (.int x18), none, none]) 53 dX2_answer_51 (Nat.le_of_ble_eq_true rfl) rfl rfl ?_
          obtain ⟨x19, ex19, h⟩ := rx_let_o h
          refine ev_iinc (v := x19) (ls' := [some (.ref 3), none, some (.int x19), some (.int x9), some (.int x10), some (.int x18), none, none]) 56 dX2_answer_53 rfl (by rw [ex19]; rfl) (Nat.le_of_ble_eq_true rfl) rfl rfl ?_
          refine ev_iload 58 dX2_answer_56 rfl rfl ?_
          refine ev_bipush (v := (-14)) 60 dX2_answer_58 (by decide) rfl ?_
          refine ev_icmp_ne 79 63 dX2_answer_60 rfl rfl (fun c20 => ?_) (fun c20 => ?_)
          · replace h := rx_if_f c20 h
            refine ev_iload 81 dX2_answer_79 rfl rfl ?_
            refine ev_bipush (v := (-10)) 83 dX2_answer_81 (by decide) rfl ?_
            refine ev_icmp_le 125 86 dX2_answer_83 rfl rfl (fun c21 => ?_) (fun c21 => ?_)
            · replace h := rx_if_t c21 h
              refine ev_iload_n (i := 3) 126 dX2_answer_125 rfl rfl rfl ?_
              refine ev_iconst (v := 2) 127 dX2_answer_126 (by decide) rfl ?_
              refine ev_icmp_ge 132 130 dX2_answer_127 rfl rfl (fun c22 => ?_) (fun c22 => ?_)
              · replace h := rx_if_t c22 h
                obtain ⟨x23, ex23, h⟩ := rx_let_o h
                refine ev_iinc (v := x23) (ls' := [some (.ref 3), none, some (.int x19), some (.int x23), some (.int x10), some (.int x18), none, none]) 135 dX2_answer_132 rfl (by rw [ex23]; rfl) (Nat.le_of_ble_eq_true rfl) rfl rfl ?_
                refine ev_aload_n (i := 0) 136 dX2_answer_135 rfl rfl rfl ?_
                refine ev_get (v := .ref 6) 139 dX2_answer_136 dk_3 fl_2_18 (by decide) rfl rfl rfl ?_
                refine ev_iload_n (i := 3) 140 dX2_answer_139 rfl rfl rfl ?_
                refine ev_iconst (v := 1) 141 dX2_answer_140 (by decide) rfl ?_
                refine ev_isub 142 dX2_answer_141 rfl ?_
                obtain ⟨g24, h⟩ := rx_gd_o h
                refine ex_iald _ 143 dX2_answer_142 dk_6 g24 rfl rfl ?_
                obtain ⟨x25, ex25, h⟩ := rx_let_o h
                refine ev_nm ex25 ?_
                refine ev_istore (ls' := [some (.ref 3), none, some (.int x19), some (.int x23), some (.int x10), some (.int x18), some (.int x25), none]) 145 dX2_answer_143 (Nat.le_of_ble_eq_true rfl) rfl rfl ?_
                refine ev_aload_n (i := 0) 146 dX2_answer_145 rfl rfl rfl ?_
                refine ev_get (v := .ref 6) 149 dX2_answer_146 dk_3 fl_2_18 (by decide) rfl rfl rfl ?_
                refine ev_iload_n (i := 3) 150 dX2_answer_149 rfl rfl rfl ?_
                obtain ⟨g26, h⟩ := rx_gd_o h
                refine ex_iald _ 151 dX2_answer_150 dk_6 g26 rfl rfl ?_
                obtain ⟨x27, ex27, h⟩ := rx_let_o h
                refine ev_nm ex27 ?_
                refine ev_istore (ls' := [some (.ref 3), none, some (.int x19), some (.int x23), some (.int x10), some (.int x18), some (.int x25), some (.int x27)]) 153 dX2_answer_151 (Nat.le_of_ble_eq_true rfl) rfl rfl ?_
                refine ev_iload 155 dX2_answer_153 rfl rfl ?_
                by_cases c28 : x18 = (-13)
                · replace h := rx_if_t c28 h
                  refine ev_tableIn 232 dX2_answer_155 (by rw [c28]; decide) (by rw [c28]; decide) (off := 77) (by rw [c28]; rfl) rfl ?_
                  refine ev_iload 234 dX2_answer_232 rfl rfl ?_
                  refine ev_if_ne 239 237 dX2_answer_234 rfl rfl (fun c29 => ?_) (fun c29 => ?_)
                  · replace h := rx_if_f c29 h
                    refine ev_aload_n (i := 0) 240 dX2_answer_239 rfl rfl rfl ?_
                    refine ev_get (v := .ref 6) 243 dX2_answer_240 dk_3 fl_2_18 (by decide) rfl rfl rfl ?_
                    refine ev_iload_n (i := 3) 244 dX2_answer_243 rfl rfl rfl ?_
                    refine ev_iconst (v := 1) 245 dX2_answer_244 (by decide) rfl ?_
                    refine ev_isub 246 dX2_answer_245 rfl ?_
                    refine ev_iload 248 dX2_answer_246 rfl rfl ?_
                    refine ev_iload 250 dX2_answer_248 rfl rfl ?_
                    obtain ⟨g30, h⟩ := rx_nz_o h
                    refine ev_idiv 251 dX2_answer_250 g30 rfl ?_
                    obtain ⟨g31, h⟩ := rx_gd_o h
                    obtain ⟨S32, eS32, h⟩ := rx_let_o h
                    refine ex_iast _ 252 dX2_answer_251 dk_6 g31 rfl rfl eS32 ?_
                    refine ev_goto 275 dX2_answer_252 rfl ?_
                    obtain ⟨x33, ex33, h⟩ := rx_let_o h
                    refine ev_iinc (v := x33) (ls' := [some (.ref 3), none, some (.int x19), some (.int x23), some (.int x33), some (.int x18), some (.int x25), some (.int x27)]) 278 dX2_answer_275 rfl (by rw [ex33]; rfl) (Nat.le_of_ble_eq_true rfl) rfl rfl ?_
                    refine ev_goto 26 dX2_answer_278 rfl ?_
                    exact (ih _ _ _ _ h).fewer (rx_le_s (rx_le_n (rx_le_s (rx_le_s (rx_le_s (rx_le_n (rx_le_n (rx_le_n rx_le_0))))))))
                  · replace h := rx_if_t c29 h
                    refine ev_iconst (v := 0) 238 dX2_answer_237 (by decide) rfl ?_
                    exact ev_ireturn dX2_answer_238 rfl (rx_ret_i h)
                · replace h := rx_if_f c28 h
                  by_cases c34 : x18 = (-12)
                  · replace h := rx_if_t c34 h
                    refine ev_tableIn 216 dX2_answer_155 (by rw [c34]; decide) (by rw [c34]; decide) (off := 61) (by rw [c34]; rfl) rfl ?_
                    refine ev_aload_n (i := 0) 217 dX2_answer_216 rfl rfl rfl ?_
                    refine ev_get (v := .ref 6) 220 dX2_answer_217 dk_3 fl_2_18 (by decide) rfl rfl rfl ?_
                    refine ev_iload_n (i := 3) 221 dX2_answer_220 rfl rfl rfl ?_
                    refine ev_iconst (v := 1) 222 dX2_answer_221 (by decide) rfl ?_
                    refine ev_isub 223 dX2_answer_222 rfl ?_
                    refine ev_iload 225 dX2_answer_223 rfl rfl ?_
                    refine ev_iload 227 dX2_answer_225 rfl rfl ?_
                    refine ev_imul 228 dX2_answer_227 rfl ?_
                    obtain ⟨g35, h⟩ := rx_gd_o h
                    obtain ⟨S36, eS36, h⟩ := rx_let_o h
                    refine ex_iast _ 229 dX2_answer_228 dk_6 g35 rfl rfl eS36 ?_
                    refine ev_goto 275 dX2_answer_229 rfl ?_
                    obtain ⟨x37, ex37, h⟩ := rx_let_o h
                    refine ev_iinc (v := x37) (ls' := [some (.ref 3), none, some (.int x19), some (.int x23), some (.int x37), some (.int x18), some (.int x25), some (.int x27)]) 278 dX2_answer_275 rfl (by rw [ex37]; rfl) (Nat.le_of_ble_eq_true rfl) rfl rfl ?_
                    refine ev_goto 26 dX2_answer_278 rfl ?_
                    exact (ih _ _ _ _ h).fewer (rx_le_s (rx_le_n (rx_le_s (rx_le_s (rx_le_s (rx_le_n (rx_le_n (rx_le_n rx_le_0))))))))
                  · replace h := rx_if_f c34 h
                    by_cases c38 : x18 = (-11)
                    · replace h := rx_if_t c38 h
                      refine ev_tableIn 200 dX2_answer_155 (by rw [c38]; decide) (by rw [c38]; decide) (off := 45) (by rw [c38]; rfl) rfl ?_
                      refine ev_aload_n (i := 0) 201 dX2_answer_200 rfl rfl rfl ?_
                      refine ev_get (v := .ref 6) 204 dX2_answer_201 dk_3 fl_2_18 (by decide) rfl rfl rfl ?_
                      refine ev_iload_n (i := 3) 205 dX2_answer_204 rfl rfl rfl ?_
                      refine ev_iconst (v := 1) 206 dX2_answer_205 (by decide) rfl ?_
                      refine ev_isub 207 dX2_answer_206 rfl ?_
                      refine ev_iload 209 dX2_answer_207 rfl rfl ?_
                      refine ev_iload 211 dX2_answer_209 rfl rfl ?_
                      refine ev_isub 212 dX2_answer_211 rfl ?_
                      obtain ⟨g39, h⟩ := rx_gd_o h
                      obtain ⟨S40, eS40, h⟩ := rx_let_o h
                      refine ex_iast _ 213 dX2_answer_212 dk_6 g39 rfl rfl eS40 ?_
                      refine ev_goto 275 dX2_answer_213 rfl ?_
                      obtain ⟨x41, ex41, h⟩ := rx_let_o h
                      refine ev_iinc (v := x41) (ls' := [some (.ref 3), none, some (.int x19), some (.int x23), some (.int x41), some (.int x18), some (.int x25), some (.int x27)]) 278 dX2_answer_275 rfl (by rw [ex41]; rfl) (Nat.le_of_ble_eq_true rfl) rfl rfl ?_
                      refine ev_goto 26 dX2_answer_278 rfl ?_
                      exact (ih _ _ _ _ h).fewer (rx_le_s (rx_le_n (rx_le_s (rx_le_s (rx_le_s (rx_le_n (rx_le_n (rx_le_n rx_le_0))))))))
                    · replace h := rx_if_f c38 h
                      by_cases c42 : x18 = (-10)
                      · replace h := rx_if_t c42 h
                        refine ev_tableIn 184 dX2_answer_155 (by rw [c42]; decide) (by rw [c42]; decide) (off := 29) (by rw [c42]; rfl) rfl ?_
                        refine ev_aload_n (i := 0) 185 dX2_answer_184 rfl rfl rfl ?_
                        refine ev_get (v := .ref 6) 188 dX2_answer_185 dk_3 fl_2_18 (by decide) rfl rfl rfl ?_
                        refine ev_iload_n (i := 3) 189 dX2_answer_188 rfl rfl rfl ?_
                        refine ev_iconst (v := 1) 190 dX2_answer_189 (by decide) rfl ?_
                        refine ev_isub 191 dX2_answer_190 rfl ?_
                        refine ev_iload 193 dX2_answer_191 rfl rfl ?_
                        refine ev_iload 195 dX2_answer_193 rfl rfl ?_
                        refine ev_iadd 196 dX2_answer_195 rfl ?_
                        obtain ⟨g43, h⟩ := rx_gd_o h
                        obtain ⟨S44, eS44, h⟩ := rx_let_o h
                        refine ex_iast _ 197 dX2_answer_196 dk_6 g43 rfl rfl eS44 ?_
                        refine ev_goto 275 dX2_answer_197 rfl ?_
                        obtain ⟨x45, ex45, h⟩ := rx_let_o h
                        refine ev_iinc (v := x45) (ls' := [some (.ref 3), none, some (.int x19), some (.int x23), some (.int x45), some (.int x18), some (.int x25), some (.int x27)]) 278 dX2_answer_275 rfl (by rw [ex45]; rfl) (Nat.le_of_ble_eq_true rfl) rfl rfl ?_
                        refine ev_goto 26 dX2_answer_278 rfl ?_
                        exact (ih _ _ _ _ h).fewer (rx_le_s (rx_le_n (rx_le_s (rx_le_s (rx_le_s (rx_le_n (rx_le_n (rx_le_n rx_le_0))))))))
                      · replace h := rx_if_f c42 h
                        refine ev_tableOut 255 dX2_answer_155 (by have q0 := rx_ne c28 (z := (-13)) (by decide); have q1 := rx_ne c34 (z := (-12)) (by decide); have q2 := rx_ne c38 (z := (-11)) (by decide); have q3 := rx_ne c42 (z := (-10)) (by decide); omega) rfl ?_
                        obtain ⟨x46, ex46, h⟩ := rx_let_o h
                        refine ev_iinc (v := x46) (ls' := [some (.ref 3), none, some (.int x19), some (.int x46), some (.int x10), some (.int x18), some (.int x25), some (.int x27)]) 258 dX2_answer_255 rfl (by rw [ex46]; rfl) (Nat.le_of_ble_eq_true rfl) rfl rfl ?_
                        refine ev_iload 260 dX2_answer_258 rfl rfl ?_
                        refine ev_iload 262 dX2_answer_260 rfl rfl ?_
                        refine ev_icmp_ge 269 265 dX2_answer_262 rfl rfl (fun c47 => ?_) (fun c47 => ?_)
                        · replace h := rx_if_t c47 h
                          refine ev_bipush (v := (-100)) 271 dX2_answer_269 (by decide) rfl ?_
                          refine ev_iload 273 dX2_answer_271 rfl rfl ?_
                          refine ev_isub 274 dX2_answer_273 rfl ?_
                          obtain ⟨x48, ex48, h⟩ := rx_let_o h
                          refine ev_nm ex48 ?_
                          refine ev_istore_n (ls' := [some (.ref 3), none, some (.int x48), some (.int x46), some (.int x10), some (.int x18), some (.int x25), some (.int x27)]) 275 dX2_answer_274 rfl (Nat.le_of_ble_eq_true rfl) rfl rfl ?_
                          obtain ⟨x49, ex49, h⟩ := rx_let_o h
                          refine ev_iinc (v := x49) (ls' := [some (.ref 3), none, some (.int x48), some (.int x46), some (.int x49), some (.int x18), some (.int x25), some (.int x27)]) 278 dX2_answer_275 rfl (by rw [ex49]; rfl) (Nat.le_of_ble_eq_true rfl) rfl rfl ?_
                          refine ev_goto 26 dX2_answer_278 rfl ?_
                          exact (ih _ _ _ _ h).fewer (rx_le_s (rx_le_n (rx_le_s (rx_le_s (rx_le_s (rx_le_n (rx_le_n (rx_le_n rx_le_0))))))))
                        · replace h := rx_if_f c47 h
                          refine ev_iload_n (i := 2) 266 dX2_answer_265 rfl rfl rfl ?_
                          refine ev_goto 274 dX2_answer_266 rfl ?_
                          refine ev_istore_n (ls' := [some (.ref 3), none, some (.int x19), some (.int x46), some (.int x10), some (.int x18), some (.int x25), some (.int x27)]) 275 dX2_answer_274 rfl (Nat.le_of_ble_eq_true rfl) rfl rfl ?_
                          obtain ⟨x50, ex50, h⟩ := rx_let_o h
                          refine ev_iinc (v := x50) (ls' := [some (.ref 3), none, some (.int x19), some (.int x46), some (.int x50), some (.int x18), some (.int x25), some (.int x27)]) 278 dX2_answer_275 rfl (by rw [ex50]; rfl) (Nat.le_of_ble_eq_true rfl) rfl rfl ?_
                          refine ev_goto 26 dX2_answer_278 rfl ?_
                          exact (ih _ _ _ _ h).fewer (rx_le_s (rx_le_n (rx_le_s (rx_le_s (rx_le_s (rx_le_n (rx_le_n (rx_le_n rx_le_0))))))))
              · replace h := rx_if_f c22 h
                refine ev_iconst (v := 0) 131 dX2_answer_130 (by decide) rfl ?_
                exact ev_ireturn dX2_answer_131 rfl (rx_ret_i h)
            · replace h := rx_if_f c21 h
              refine ev_iload_n (i := 3) 87 dX2_answer_86 rfl rfl rfl ?_
              refine ev_bipush (v := 20) 89 dX2_answer_87 (by decide) rfl ?_
              refine ev_icmp_lt 94 92 dX2_answer_89 rfl rfl (fun c51 => ?_) (fun c51 => ?_)
              · replace h := rx_if_t c51 h
                refine ev_aload_n (i := 0) 95 dX2_answer_94 rfl rfl rfl ?_
                refine ev_get (v := .ref 6) 98 dX2_answer_95 dk_3 fl_2_18 (by decide) rfl rfl rfl ?_
                refine ev_iload_n (i := 3) 99 dX2_answer_98 rfl rfl rfl ?_
                refine ev_iload 101 dX2_answer_99 rfl rfl ?_
                obtain ⟨J118_3, eJ118_3, h⟩ := rx_let_o h
                have hJ118_3 : ∀ (x52 : Int32) (x53 : Int32) (x54 : Int32) (x55 : Int32) (x56 : Int32) (S57 : rx_S), J118_3 x52 x53 x54 x55 x56 S57 = some (zr, zS) → EV gC d mX2_answer 118 [some (.ref 3), none, some (.int x52), some (.int x53), some (.int x54), none, none, none] [.int x56, .int x55, .ref 6] S57 (rx_pi zr zS) := by
                  intro x52 x53 x54 x55 x56 S57 h
                  subst eJ118_3
                  obtain ⟨g58, h⟩ := rx_gd_o h
                  obtain ⟨S59, eS59, h⟩ := rx_let_o h
                  refine ex_iast _ 119 dX2_answer_118 dk_6 g58 rfl rfl eS59 ?_
                  obtain ⟨x60, ex60, h⟩ := rx_let_o h
                  refine ev_iinc (v := x60) (ls' := [some (.ref 3), none, some (.int x52), some (.int x60), some (.int x54), none, none, none]) 122 dX2_answer_119 rfl (by rw [ex60]; rfl) (Nat.le_of_ble_eq_true rfl) rfl rfl ?_
                  refine ev_goto 275 dX2_answer_122 rfl ?_
                  obtain ⟨x61, ex61, h⟩ := rx_let_o h
                  refine ev_iinc (v := x61) (ls' := [some (.ref 3), none, some (.int x52), some (.int x60), some (.int x61), none, none, none]) 278 dX2_answer_275 rfl (by rw [ex61]; rfl) (Nat.le_of_ble_eq_true rfl) rfl rfl ?_
                  refine ev_goto 26 dX2_answer_278 rfl ?_
                  exact (ih _ _ _ _ h).fewer (rx_le_s (rx_le_n (rx_le_s (rx_le_s (rx_le_s (rx_le_n (rx_le_n (rx_le_n rx_le_0))))))))
                refine ev_if_lt 109 104 dX2_answer_101 rfl rfl (fun c62 => ?_) (fun c62 => ?_)
                · replace h := rx_if_t c62 h
                  refine ev_aload_n (i := 0) 110 dX2_answer_109 rfl rfl rfl ?_
                  refine ev_get (v := .ref 7) 113 dX2_answer_110 dk_3 fl_2_21 (by decide) rfl rfl rfl ?_
                  refine ev_iconst (v := (-1)) 114 dX2_answer_113 (by decide) rfl ?_
                  refine ev_iload 116 dX2_answer_114 rfl rfl ?_
                  refine ev_isub 117 dX2_answer_116 rfl ?_
                  obtain ⟨g63, h⟩ := rx_gd_o h
                  refine ex_iald _ 118 dX2_answer_117 dk_7 g63 rfl rfl ?_
                  exact (hJ118_3 _ _ _ _ _ _ h).fewer (rx_le_s (rx_le_n (rx_le_s (rx_le_s (rx_le_s (rx_le_n (rx_le_n (rx_le_n rx_le_0))))))))
                · replace h := rx_if_f c62 h
                  refine ev_iload 106 dX2_answer_104 rfl rfl ?_
                  refine ev_goto 118 dX2_answer_106 rfl ?_
                  exact (hJ118_3 _ _ _ _ _ _ h).fewer (rx_le_s (rx_le_n (rx_le_s (rx_le_s (rx_le_s (rx_le_n (rx_le_n (rx_le_n rx_le_0))))))))
              · replace h := rx_if_f c51 h
                refine ev_iconst (v := 0) 93 dX2_answer_92 (by decide) rfl ?_
                exact ev_ireturn dX2_answer_93 rfl (rx_ret_i h)
          · replace h := rx_if_t c20 h
            exact (hK63 _ _ h).fewer (rx_le_s (rx_le_n (rx_le_n (rx_le_s (rx_le_n (rx_le_n (rx_le_n (rx_le_n rx_le_0))))))))

set_option maxHeartbeats 4000000 in
set_option maxRecDepth 20000 in
theorem em_X2_answer_3 {d N : Nat} {x1 : Int32} {S0 : rx_S} {zr : Int32} {zS : rx_S} (h : f_X2_answer 3 N x1 S0 = some (zr, zS)) : EM gC d mX2_answer [.ref 3, .int x1] S0 (rx_pi zr zS) := by
  unfold f_X2_answer at h
  show EV gC d mX2_answer 0 [some (.ref 3), some (.int x1), none, none, none, none, none, none] [] S0 (rx_pi zr zS)
  refine ev_iload_n (i := 1) 1 dX2_answer_0 rfl rfl rfl ?_
  obtain ⟨J20_1, eJ20_1, h⟩ := rx_let_o h
  have hJ20_1 : ∀ (x3 : Int32) (S4 : rx_S), J20_1 x3 S4 = some (zr, zS) → EV gC d mX2_answer 20 [some (.ref 3), none, none, none, none, none, none, none] [.int x3] S4 (rx_pi zr zS) := by
    intro x3 S4 h
    subst eJ20_1
    refine ev_istore_n (ls' := [some (.ref 3), none, some (.int x3), none, none, none, none, none]) 21 dX2_answer_20 rfl (Nat.le_of_ble_eq_true rfl) rfl rfl ?_
    refine ev_iconst (v := 0) 22 dX2_answer_21 (by decide) rfl ?_
    refine ev_istore_n (ls' := [some (.ref 3), none, some (.int x3), some (.int 0), none, none, none, none]) 23 dX2_answer_22 rfl (Nat.le_of_ble_eq_true rfl) rfl rfl ?_
    refine ev_iconst (v := 0) 24 dX2_answer_23 (by decide) rfl ?_
    refine ev_istore (ls' := [some (.ref 3), none, some (.int x3), some (.int 0), some (.int 0), none, none, none]) 26 dX2_answer_24 (Nat.le_of_ble_eq_true rfl) rfl rfl ?_
    obtain ⟨J63_2, eJ63_2, h⟩ := rx_let_o h
    have hJ63_2 : ∀ (x5 : Int32) (S6 : rx_S), J63_2 x5 S6 = some (zr, zS) → EV gC d mX2_answer 63 [some (.ref 3), none, none, some (.int x5), none, none, none, none] [] S6 (rx_pi zr zS) := by
      intro x5 S6 h
      subst eJ63_2
      refine ev_iload_n (i := 3) 64 dX2_answer_63 rfl rfl rfl ?_
      refine ev_iconst (v := 1) 65 dX2_answer_64 (by decide) rfl ?_
      refine ev_icmp_ne 77 68 dX2_answer_65 rfl rfl (fun c7 => ?_) (fun c7 => ?_)
      · replace h := rx_if_f c7 h
        refine ev_iconst (v := 0) 78 dX2_answer_77 (by decide) rfl ?_
        exact ev_ireturn dX2_answer_78 rfl (rx_ret_i h)
      · replace h := rx_if_t c7 h
        refine ev_aload_n (i := 0) 69 dX2_answer_68 rfl rfl rfl ?_
        refine ev_get (v := .ref 6) 72 dX2_answer_69 dk_3 fl_2_18 (by decide) rfl rfl rfl ?_
        refine ev_iconst (v := 0) 73 dX2_answer_72 (by decide) rfl ?_
        refine ex_iald 0 74 dX2_answer_73 dk_6 (rx_vin (by decide)) (by decide) rfl ?_
        refine ev_goto 78 dX2_answer_74 rfl ?_
        exact ev_ireturn dX2_answer_78 rfl (rx_ret_i h)
    exact (em_X2_answer_L26_3 hJ63_2 _ _ _ _ _ h).fewer (rx_le_s (rx_le_n (rx_le_s (rx_le_s (rx_le_s (rx_le_n (rx_le_n (rx_le_n rx_le_0))))))))
  obtain ⟨J19_4, eJ19_4, h⟩ := rx_let_o h
  have hJ19_4 : ∀ (S64 : rx_S), J19_4 S64 = some (zr, zS) → EV gC d mX2_answer 19 [some (.ref 3), none, none, none, none, none, none, none] [] S64 (rx_pi zr zS) := by
    intro S64 h
    subst eJ19_4
    refine ev_iconst (v := (-1)) 20 dX2_answer_19 (by decide) rfl ?_
    exact (hJ20_1 _ _ h).fewer (rx_le_s (rx_le_n (rx_le_n (rx_le_n (rx_le_n (rx_le_n (rx_le_n (rx_le_n rx_le_0))))))))
  refine ev_if_lt 19 4 dX2_answer_1 rfl rfl (fun c65 => ?_) (fun c65 => ?_)
  · replace h := rx_if_t c65 h
    exact (hJ19_4 _ h).fewer (rx_le_s (rx_le_n (rx_le_n (rx_le_n (rx_le_n (rx_le_n (rx_le_n (rx_le_n rx_le_0))))))))
  · replace h := rx_if_f c65 h
    refine ev_iload_n (i := 1) 5 dX2_answer_4 rfl rfl rfl ?_
    refine ev_bipush (v := 7) 7 dX2_answer_5 (by decide) rfl ?_
    refine ev_icmp_ge 19 10 dX2_answer_7 rfl rfl (fun c66 => ?_) (fun c66 => ?_)
    · replace h := rx_if_t c66 h
      exact (hJ19_4 _ h).fewer (rx_le_s (rx_le_n (rx_le_n (rx_le_n (rx_le_n (rx_le_n (rx_le_n (rx_le_n rx_le_0))))))))
    · replace h := rx_if_f c66 h
      refine ev_aload_n (i := 0) 11 dX2_answer_10 rfl rfl rfl ?_
      refine ev_get (v := .ref 5) 14 dX2_answer_11 dk_3 fl_2_15 (by decide) rfl rfl rfl ?_
      refine ev_iload_n (i := 1) 15 dX2_answer_14 rfl rfl rfl ?_
      obtain ⟨g67, h⟩ := rx_gd_o h
      refine ex_iald _ 16 dX2_answer_15 dk_5 g67 rfl rfl ?_
      refine ev_goto 20 dX2_answer_16 rfl ?_
      exact (hJ20_1 _ _ h).fewer (rx_le_s (rx_le_n (rx_le_n (rx_le_n (rx_le_n (rx_le_n (rx_le_n (rx_le_n rx_le_0))))))))

set_option maxHeartbeats 4000000 in
set_option maxRecDepth 20000 in
theorem em_X2_answer_L26_20 {d N : Nat} {K63 : Int32 → rx_S → Option (Int32 × rx_S)} {zr : Int32} {zS : rx_S} (hK63 : ∀ (x12 : Int32) (S13 : rx_S), K63 x12 S13 = some (zr, zS) → EV gC d mX2_answer 63 [some (.ref 20), none, none, some (.int x12), none, none, none, none] [] S13 (rx_pi zr zS)) : ∀ (n : Nat) (x8 : Int32) (x9 : Int32) (x10 : Int32) (S11 : rx_S), f_X2_answer_L26 20 N K63 n x8 x9 x10 S11 = some (zr, zS) → EV gC d mX2_answer 26 [some (.ref 20), none, some (.int x8), some (.int x9), some (.int x10), none, none, none] [] S11 (rx_pi zr zS) := by
  intro n
  induction n with
  | zero => intro x8 x9 x10 S11 h; cases h
  | succ n ih =>
    intro x8 x9 x10 S11 h
    rw [f_X2_answer_L26] at h
    refine ev_iload 28 dX2_answer_26 rfl rfl ?_
    refine ev_sipush (v := 420) 31 dX2_answer_28 (by decide) rfl ?_
    refine ev_icmp_ge 281 34 dX2_answer_31 rfl rfl (fun c14 => ?_) (fun c14 => ?_)
    · replace h := rx_if_t c14 h
      refine ev_iconst (v := 0) 282 dX2_answer_281 (by decide) rfl ?_
      exact ev_ireturn dX2_answer_282 rfl (rx_ret_i h)
    · replace h := rx_if_f c14 h
      refine ev_iload_n (i := 2) 35 dX2_answer_34 rfl rfl rfl ?_
      refine ev_if_lt 281 38 dX2_answer_35 rfl rfl (fun c15 => ?_) (fun c15 => ?_)
      · replace h := rx_if_t c15 h
        refine ev_iconst (v := 0) 282 dX2_answer_281 (by decide) rfl ?_
        exact ev_ireturn dX2_answer_282 rfl (rx_ret_i h)
      · replace h := rx_if_f c15 h
        refine ev_iload_n (i := 2) 39 dX2_answer_38 rfl rfl rfl ?_
        refine ev_sipush (v := 420) 42 dX2_answer_39 (by decide) rfl ?_
        refine ev_icmp_ge 281 45 dX2_answer_42 rfl rfl (fun c16 => ?_) (fun c16 => ?_)
        · replace h := rx_if_t c16 h
          refine ev_iconst (v := 0) 282 dX2_answer_281 (by decide) rfl ?_
          exact ev_ireturn dX2_answer_282 rfl (rx_ret_i h)
        · replace h := rx_if_f c16 h
          refine ev_aload_n (i := 0) 46 dX2_answer_45 rfl rfl rfl ?_
          refine ev_get (v := .ref 21) 49 dX2_answer_46 dk_20 fl_2_9 (by decide) rfl rfl rfl ?_
          refine ev_iload_n (i := 2) 50 dX2_answer_49 rfl rfl rfl ?_
          obtain ⟨g17, h⟩ := rx_gd_o h
          refine ex_iald _ 51 dX2_answer_50 dk_21 g17 rfl rfl ?_
          obtain ⟨x18, ex18, h⟩ := rx_let_o h
          refine ev_nm ex18 ?_
          refine ev_istore (ls' := [some (.ref 20), none, some (.int x8), some (.int x9), some (.int x10), some (.int x18), none, none]) 53 dX2_answer_51 (Nat.le_of_ble_eq_true rfl) rfl rfl ?_
          obtain ⟨x19, ex19, h⟩ := rx_let_o h
          refine ev_iinc (v := x19) (ls' := [some (.ref 20), none, some (.int x19), some (.int x9), some (.int x10), some (.int x18), none, none]) 56 dX2_answer_53 rfl (by rw [ex19]; rfl) (Nat.le_of_ble_eq_true rfl) rfl rfl ?_
          refine ev_iload 58 dX2_answer_56 rfl rfl ?_
          refine ev_bipush (v := (-14)) 60 dX2_answer_58 (by decide) rfl ?_
          refine ev_icmp_ne 79 63 dX2_answer_60 rfl rfl (fun c20 => ?_) (fun c20 => ?_)
          · replace h := rx_if_f c20 h
            refine ev_iload 81 dX2_answer_79 rfl rfl ?_
            refine ev_bipush (v := (-10)) 83 dX2_answer_81 (by decide) rfl ?_
            refine ev_icmp_le 125 86 dX2_answer_83 rfl rfl (fun c21 => ?_) (fun c21 => ?_)
            · replace h := rx_if_t c21 h
              refine ev_iload_n (i := 3) 126 dX2_answer_125 rfl rfl rfl ?_
              refine ev_iconst (v := 2) 127 dX2_answer_126 (by decide) rfl ?_
              refine ev_icmp_ge 132 130 dX2_answer_127 rfl rfl (fun c22 => ?_) (fun c22 => ?_)
              · replace h := rx_if_t c22 h
                obtain ⟨x23, ex23, h⟩ := rx_let_o h
                refine ev_iinc (v := x23) (ls' := [some (.ref 20), none, some (.int x19), some (.int x23), some (.int x10), some (.int x18), none, none]) 135 dX2_answer_132 rfl (by rw [ex23]; rfl) (Nat.le_of_ble_eq_true rfl) rfl rfl ?_
                refine ev_aload_n (i := 0) 136 dX2_answer_135 rfl rfl rfl ?_
                refine ev_get (v := .ref 23) 139 dX2_answer_136 dk_20 fl_2_18 (by decide) rfl rfl rfl ?_
                refine ev_iload_n (i := 3) 140 dX2_answer_139 rfl rfl rfl ?_
                refine ev_iconst (v := 1) 141 dX2_answer_140 (by decide) rfl ?_
                refine ev_isub 142 dX2_answer_141 rfl ?_
                obtain ⟨g24, h⟩ := rx_gd_o h
                refine ex_iald _ 143 dX2_answer_142 dk_23 g24 rfl rfl ?_
                obtain ⟨x25, ex25, h⟩ := rx_let_o h
                refine ev_nm ex25 ?_
                refine ev_istore (ls' := [some (.ref 20), none, some (.int x19), some (.int x23), some (.int x10), some (.int x18), some (.int x25), none]) 145 dX2_answer_143 (Nat.le_of_ble_eq_true rfl) rfl rfl ?_
                refine ev_aload_n (i := 0) 146 dX2_answer_145 rfl rfl rfl ?_
                refine ev_get (v := .ref 23) 149 dX2_answer_146 dk_20 fl_2_18 (by decide) rfl rfl rfl ?_
                refine ev_iload_n (i := 3) 150 dX2_answer_149 rfl rfl rfl ?_
                obtain ⟨g26, h⟩ := rx_gd_o h
                refine ex_iald _ 151 dX2_answer_150 dk_23 g26 rfl rfl ?_
                obtain ⟨x27, ex27, h⟩ := rx_let_o h
                refine ev_nm ex27 ?_
                refine ev_istore (ls' := [some (.ref 20), none, some (.int x19), some (.int x23), some (.int x10), some (.int x18), some (.int x25), some (.int x27)]) 153 dX2_answer_151 (Nat.le_of_ble_eq_true rfl) rfl rfl ?_
                refine ev_iload 155 dX2_answer_153 rfl rfl ?_
                by_cases c28 : x18 = (-13)
                · replace h := rx_if_t c28 h
                  refine ev_tableIn 232 dX2_answer_155 (by rw [c28]; decide) (by rw [c28]; decide) (off := 77) (by rw [c28]; rfl) rfl ?_
                  refine ev_iload 234 dX2_answer_232 rfl rfl ?_
                  refine ev_if_ne 239 237 dX2_answer_234 rfl rfl (fun c29 => ?_) (fun c29 => ?_)
                  · replace h := rx_if_f c29 h
                    refine ev_aload_n (i := 0) 240 dX2_answer_239 rfl rfl rfl ?_
                    refine ev_get (v := .ref 23) 243 dX2_answer_240 dk_20 fl_2_18 (by decide) rfl rfl rfl ?_
                    refine ev_iload_n (i := 3) 244 dX2_answer_243 rfl rfl rfl ?_
                    refine ev_iconst (v := 1) 245 dX2_answer_244 (by decide) rfl ?_
                    refine ev_isub 246 dX2_answer_245 rfl ?_
                    refine ev_iload 248 dX2_answer_246 rfl rfl ?_
                    refine ev_iload 250 dX2_answer_248 rfl rfl ?_
                    obtain ⟨g30, h⟩ := rx_nz_o h
                    refine ev_idiv 251 dX2_answer_250 g30 rfl ?_
                    obtain ⟨g31, h⟩ := rx_gd_o h
                    obtain ⟨S32, eS32, h⟩ := rx_let_o h
                    refine ex_iast _ 252 dX2_answer_251 dk_23 g31 rfl rfl eS32 ?_
                    refine ev_goto 275 dX2_answer_252 rfl ?_
                    obtain ⟨x33, ex33, h⟩ := rx_let_o h
                    refine ev_iinc (v := x33) (ls' := [some (.ref 20), none, some (.int x19), some (.int x23), some (.int x33), some (.int x18), some (.int x25), some (.int x27)]) 278 dX2_answer_275 rfl (by rw [ex33]; rfl) (Nat.le_of_ble_eq_true rfl) rfl rfl ?_
                    refine ev_goto 26 dX2_answer_278 rfl ?_
                    exact (ih _ _ _ _ h).fewer (rx_le_s (rx_le_n (rx_le_s (rx_le_s (rx_le_s (rx_le_n (rx_le_n (rx_le_n rx_le_0))))))))
                  · replace h := rx_if_t c29 h
                    refine ev_iconst (v := 0) 238 dX2_answer_237 (by decide) rfl ?_
                    exact ev_ireturn dX2_answer_238 rfl (rx_ret_i h)
                · replace h := rx_if_f c28 h
                  by_cases c34 : x18 = (-12)
                  · replace h := rx_if_t c34 h
                    refine ev_tableIn 216 dX2_answer_155 (by rw [c34]; decide) (by rw [c34]; decide) (off := 61) (by rw [c34]; rfl) rfl ?_
                    refine ev_aload_n (i := 0) 217 dX2_answer_216 rfl rfl rfl ?_
                    refine ev_get (v := .ref 23) 220 dX2_answer_217 dk_20 fl_2_18 (by decide) rfl rfl rfl ?_
                    refine ev_iload_n (i := 3) 221 dX2_answer_220 rfl rfl rfl ?_
                    refine ev_iconst (v := 1) 222 dX2_answer_221 (by decide) rfl ?_
                    refine ev_isub 223 dX2_answer_222 rfl ?_
                    refine ev_iload 225 dX2_answer_223 rfl rfl ?_
                    refine ev_iload 227 dX2_answer_225 rfl rfl ?_
                    refine ev_imul 228 dX2_answer_227 rfl ?_
                    obtain ⟨g35, h⟩ := rx_gd_o h
                    obtain ⟨S36, eS36, h⟩ := rx_let_o h
                    refine ex_iast _ 229 dX2_answer_228 dk_23 g35 rfl rfl eS36 ?_
                    refine ev_goto 275 dX2_answer_229 rfl ?_
                    obtain ⟨x37, ex37, h⟩ := rx_let_o h
                    refine ev_iinc (v := x37) (ls' := [some (.ref 20), none, some (.int x19), some (.int x23), some (.int x37), some (.int x18), some (.int x25), some (.int x27)]) 278 dX2_answer_275 rfl (by rw [ex37]; rfl) (Nat.le_of_ble_eq_true rfl) rfl rfl ?_
                    refine ev_goto 26 dX2_answer_278 rfl ?_
                    exact (ih _ _ _ _ h).fewer (rx_le_s (rx_le_n (rx_le_s (rx_le_s (rx_le_s (rx_le_n (rx_le_n (rx_le_n rx_le_0))))))))
                  · replace h := rx_if_f c34 h
                    by_cases c38 : x18 = (-11)
                    · replace h := rx_if_t c38 h
                      refine ev_tableIn 200 dX2_answer_155 (by rw [c38]; decide) (by rw [c38]; decide) (off := 45) (by rw [c38]; rfl) rfl ?_
                      refine ev_aload_n (i := 0) 201 dX2_answer_200 rfl rfl rfl ?_
                      refine ev_get (v := .ref 23) 204 dX2_answer_201 dk_20 fl_2_18 (by decide) rfl rfl rfl ?_
                      refine ev_iload_n (i := 3) 205 dX2_answer_204 rfl rfl rfl ?_
                      refine ev_iconst (v := 1) 206 dX2_answer_205 (by decide) rfl ?_
                      refine ev_isub 207 dX2_answer_206 rfl ?_
                      refine ev_iload 209 dX2_answer_207 rfl rfl ?_
                      refine ev_iload 211 dX2_answer_209 rfl rfl ?_
                      refine ev_isub 212 dX2_answer_211 rfl ?_
                      obtain ⟨g39, h⟩ := rx_gd_o h
                      obtain ⟨S40, eS40, h⟩ := rx_let_o h
                      refine ex_iast _ 213 dX2_answer_212 dk_23 g39 rfl rfl eS40 ?_
                      refine ev_goto 275 dX2_answer_213 rfl ?_
                      obtain ⟨x41, ex41, h⟩ := rx_let_o h
                      refine ev_iinc (v := x41) (ls' := [some (.ref 20), none, some (.int x19), some (.int x23), some (.int x41), some (.int x18), some (.int x25), some (.int x27)]) 278 dX2_answer_275 rfl (by rw [ex41]; rfl) (Nat.le_of_ble_eq_true rfl) rfl rfl ?_
                      refine ev_goto 26 dX2_answer_278 rfl ?_
                      exact (ih _ _ _ _ h).fewer (rx_le_s (rx_le_n (rx_le_s (rx_le_s (rx_le_s (rx_le_n (rx_le_n (rx_le_n rx_le_0))))))))
                    · replace h := rx_if_f c38 h
                      by_cases c42 : x18 = (-10)
                      · replace h := rx_if_t c42 h
                        refine ev_tableIn 184 dX2_answer_155 (by rw [c42]; decide) (by rw [c42]; decide) (off := 29) (by rw [c42]; rfl) rfl ?_
                        refine ev_aload_n (i := 0) 185 dX2_answer_184 rfl rfl rfl ?_
                        refine ev_get (v := .ref 23) 188 dX2_answer_185 dk_20 fl_2_18 (by decide) rfl rfl rfl ?_
                        refine ev_iload_n (i := 3) 189 dX2_answer_188 rfl rfl rfl ?_
                        refine ev_iconst (v := 1) 190 dX2_answer_189 (by decide) rfl ?_
                        refine ev_isub 191 dX2_answer_190 rfl ?_
                        refine ev_iload 193 dX2_answer_191 rfl rfl ?_
                        refine ev_iload 195 dX2_answer_193 rfl rfl ?_
                        refine ev_iadd 196 dX2_answer_195 rfl ?_
                        obtain ⟨g43, h⟩ := rx_gd_o h
                        obtain ⟨S44, eS44, h⟩ := rx_let_o h
                        refine ex_iast _ 197 dX2_answer_196 dk_23 g43 rfl rfl eS44 ?_
                        refine ev_goto 275 dX2_answer_197 rfl ?_
                        obtain ⟨x45, ex45, h⟩ := rx_let_o h
                        refine ev_iinc (v := x45) (ls' := [some (.ref 20), none, some (.int x19), some (.int x23), some (.int x45), some (.int x18), some (.int x25), some (.int x27)]) 278 dX2_answer_275 rfl (by rw [ex45]; rfl) (Nat.le_of_ble_eq_true rfl) rfl rfl ?_
                        refine ev_goto 26 dX2_answer_278 rfl ?_
                        exact (ih _ _ _ _ h).fewer (rx_le_s (rx_le_n (rx_le_s (rx_le_s (rx_le_s (rx_le_n (rx_le_n (rx_le_n rx_le_0))))))))
                      · replace h := rx_if_f c42 h
                        refine ev_tableOut 255 dX2_answer_155 (by have q0 := rx_ne c28 (z := (-13)) (by decide); have q1 := rx_ne c34 (z := (-12)) (by decide); have q2 := rx_ne c38 (z := (-11)) (by decide); have q3 := rx_ne c42 (z := (-10)) (by decide); omega) rfl ?_
                        obtain ⟨x46, ex46, h⟩ := rx_let_o h
                        refine ev_iinc (v := x46) (ls' := [some (.ref 20), none, some (.int x19), some (.int x46), some (.int x10), some (.int x18), some (.int x25), some (.int x27)]) 258 dX2_answer_255 rfl (by rw [ex46]; rfl) (Nat.le_of_ble_eq_true rfl) rfl rfl ?_
                        refine ev_iload 260 dX2_answer_258 rfl rfl ?_
                        refine ev_iload 262 dX2_answer_260 rfl rfl ?_
                        refine ev_icmp_ge 269 265 dX2_answer_262 rfl rfl (fun c47 => ?_) (fun c47 => ?_)
                        · replace h := rx_if_t c47 h
                          refine ev_bipush (v := (-100)) 271 dX2_answer_269 (by decide) rfl ?_
                          refine ev_iload 273 dX2_answer_271 rfl rfl ?_
                          refine ev_isub 274 dX2_answer_273 rfl ?_
                          obtain ⟨x48, ex48, h⟩ := rx_let_o h
                          refine ev_nm ex48 ?_
                          refine ev_istore_n (ls' := [some (.ref 20), none, some (.int x48), some (.int x46), some (.int x10), some (.int x18), some (.int x25), some (.int x27)]) 275 dX2_answer_274 rfl (Nat.le_of_ble_eq_true rfl) rfl rfl ?_
                          obtain ⟨x49, ex49, h⟩ := rx_let_o h
                          refine ev_iinc (v := x49) (ls' := [some (.ref 20), none, some (.int x48), some (.int x46), some (.int x49), some (.int x18), some (.int x25), some (.int x27)]) 278 dX2_answer_275 rfl (by rw [ex49]; rfl) (Nat.le_of_ble_eq_true rfl) rfl rfl ?_
                          refine ev_goto 26 dX2_answer_278 rfl ?_
                          exact (ih _ _ _ _ h).fewer (rx_le_s (rx_le_n (rx_le_s (rx_le_s (rx_le_s (rx_le_n (rx_le_n (rx_le_n rx_le_0))))))))
                        · replace h := rx_if_f c47 h
                          refine ev_iload_n (i := 2) 266 dX2_answer_265 rfl rfl rfl ?_
                          refine ev_goto 274 dX2_answer_266 rfl ?_
                          refine ev_istore_n (ls' := [some (.ref 20), none, some (.int x19), some (.int x46), some (.int x10), some (.int x18), some (.int x25), some (.int x27)]) 275 dX2_answer_274 rfl (Nat.le_of_ble_eq_true rfl) rfl rfl ?_
                          obtain ⟨x50, ex50, h⟩ := rx_let_o h
                          refine ev_iinc (v := x50) (ls' := [some (.ref 20), none, some (.int x19), some (.int x46), some (.int x50), some (.int x18), some (.int x25), some (.int x27)]) 278 dX2_answer_275 rfl (by rw [ex50]; rfl) (Nat.le_of_ble_eq_true rfl) rfl rfl ?_
                          refine ev_goto 26 dX2_answer_278 rfl ?_
                          exact (ih _ _ _ _ h).fewer (rx_le_s (rx_le_n (rx_le_s (rx_le_s (rx_le_s (rx_le_n (rx_le_n (rx_le_n rx_le_0))))))))
              · replace h := rx_if_f c22 h
                refine ev_iconst (v := 0) 131 dX2_answer_130 (by decide) rfl ?_
                exact ev_ireturn dX2_answer_131 rfl (rx_ret_i h)
            · replace h := rx_if_f c21 h
              refine ev_iload_n (i := 3) 87 dX2_answer_86 rfl rfl rfl ?_
              refine ev_bipush (v := 20) 89 dX2_answer_87 (by decide) rfl ?_
              refine ev_icmp_lt 94 92 dX2_answer_89 rfl rfl (fun c51 => ?_) (fun c51 => ?_)
              · replace h := rx_if_t c51 h
                refine ev_aload_n (i := 0) 95 dX2_answer_94 rfl rfl rfl ?_
                refine ev_get (v := .ref 23) 98 dX2_answer_95 dk_20 fl_2_18 (by decide) rfl rfl rfl ?_
                refine ev_iload_n (i := 3) 99 dX2_answer_98 rfl rfl rfl ?_
                refine ev_iload 101 dX2_answer_99 rfl rfl ?_
                obtain ⟨J118_3, eJ118_3, h⟩ := rx_let_o h
                have hJ118_3 : ∀ (x52 : Int32) (x53 : Int32) (x54 : Int32) (x55 : Int32) (x56 : Int32) (S57 : rx_S), J118_3 x52 x53 x54 x55 x56 S57 = some (zr, zS) → EV gC d mX2_answer 118 [some (.ref 20), none, some (.int x52), some (.int x53), some (.int x54), none, none, none] [.int x56, .int x55, .ref 23] S57 (rx_pi zr zS) := by
                  intro x52 x53 x54 x55 x56 S57 h
                  subst eJ118_3
                  obtain ⟨g58, h⟩ := rx_gd_o h
                  obtain ⟨S59, eS59, h⟩ := rx_let_o h
                  refine ex_iast _ 119 dX2_answer_118 dk_23 g58 rfl rfl eS59 ?_
                  obtain ⟨x60, ex60, h⟩ := rx_let_o h
                  refine ev_iinc (v := x60) (ls' := [some (.ref 20), none, some (.int x52), some (.int x60), some (.int x54), none, none, none]) 122 dX2_answer_119 rfl (by rw [ex60]; rfl) (Nat.le_of_ble_eq_true rfl) rfl rfl ?_
                  refine ev_goto 275 dX2_answer_122 rfl ?_
                  obtain ⟨x61, ex61, h⟩ := rx_let_o h
                  refine ev_iinc (v := x61) (ls' := [some (.ref 20), none, some (.int x52), some (.int x60), some (.int x61), none, none, none]) 278 dX2_answer_275 rfl (by rw [ex61]; rfl) (Nat.le_of_ble_eq_true rfl) rfl rfl ?_
                  refine ev_goto 26 dX2_answer_278 rfl ?_
                  exact (ih _ _ _ _ h).fewer (rx_le_s (rx_le_n (rx_le_s (rx_le_s (rx_le_s (rx_le_n (rx_le_n (rx_le_n rx_le_0))))))))
                refine ev_if_lt 109 104 dX2_answer_101 rfl rfl (fun c62 => ?_) (fun c62 => ?_)
                · replace h := rx_if_t c62 h
                  refine ev_aload_n (i := 0) 110 dX2_answer_109 rfl rfl rfl ?_
                  refine ev_get (v := .ref 24) 113 dX2_answer_110 dk_20 fl_2_21 (by decide) rfl rfl rfl ?_
                  refine ev_iconst (v := (-1)) 114 dX2_answer_113 (by decide) rfl ?_
                  refine ev_iload 116 dX2_answer_114 rfl rfl ?_
                  refine ev_isub 117 dX2_answer_116 rfl ?_
                  obtain ⟨g63, h⟩ := rx_gd_o h
                  refine ex_iald _ 118 dX2_answer_117 dk_24 g63 rfl rfl ?_
                  exact (hJ118_3 _ _ _ _ _ _ h).fewer (rx_le_s (rx_le_n (rx_le_s (rx_le_s (rx_le_s (rx_le_n (rx_le_n (rx_le_n rx_le_0))))))))
                · replace h := rx_if_f c62 h
                  refine ev_iload 106 dX2_answer_104 rfl rfl ?_
                  refine ev_goto 118 dX2_answer_106 rfl ?_
                  exact (hJ118_3 _ _ _ _ _ _ h).fewer (rx_le_s (rx_le_n (rx_le_s (rx_le_s (rx_le_s (rx_le_n (rx_le_n (rx_le_n rx_le_0))))))))
              · replace h := rx_if_f c51 h
                refine ev_iconst (v := 0) 93 dX2_answer_92 (by decide) rfl ?_
                exact ev_ireturn dX2_answer_93 rfl (rx_ret_i h)
          · replace h := rx_if_t c20 h
            exact (hK63 _ _ h).fewer (rx_le_s (rx_le_n (rx_le_n (rx_le_s (rx_le_n (rx_le_n (rx_le_n (rx_le_n rx_le_0))))))))

set_option maxHeartbeats 4000000 in
set_option maxRecDepth 20000 in
theorem em_X2_answer_20 {d N : Nat} {x1 : Int32} {S0 : rx_S} {zr : Int32} {zS : rx_S} (h : f_X2_answer 20 N x1 S0 = some (zr, zS)) : EM gC d mX2_answer [.ref 20, .int x1] S0 (rx_pi zr zS) := by
  unfold f_X2_answer at h
  show EV gC d mX2_answer 0 [some (.ref 20), some (.int x1), none, none, none, none, none, none] [] S0 (rx_pi zr zS)
  refine ev_iload_n (i := 1) 1 dX2_answer_0 rfl rfl rfl ?_
  obtain ⟨J20_1, eJ20_1, h⟩ := rx_let_o h
  have hJ20_1 : ∀ (x3 : Int32) (S4 : rx_S), J20_1 x3 S4 = some (zr, zS) → EV gC d mX2_answer 20 [some (.ref 20), none, none, none, none, none, none, none] [.int x3] S4 (rx_pi zr zS) := by
    intro x3 S4 h
    subst eJ20_1
    refine ev_istore_n (ls' := [some (.ref 20), none, some (.int x3), none, none, none, none, none]) 21 dX2_answer_20 rfl (Nat.le_of_ble_eq_true rfl) rfl rfl ?_
    refine ev_iconst (v := 0) 22 dX2_answer_21 (by decide) rfl ?_
    refine ev_istore_n (ls' := [some (.ref 20), none, some (.int x3), some (.int 0), none, none, none, none]) 23 dX2_answer_22 rfl (Nat.le_of_ble_eq_true rfl) rfl rfl ?_
    refine ev_iconst (v := 0) 24 dX2_answer_23 (by decide) rfl ?_
    refine ev_istore (ls' := [some (.ref 20), none, some (.int x3), some (.int 0), some (.int 0), none, none, none]) 26 dX2_answer_24 (Nat.le_of_ble_eq_true rfl) rfl rfl ?_
    obtain ⟨J63_2, eJ63_2, h⟩ := rx_let_o h
    have hJ63_2 : ∀ (x5 : Int32) (S6 : rx_S), J63_2 x5 S6 = some (zr, zS) → EV gC d mX2_answer 63 [some (.ref 20), none, none, some (.int x5), none, none, none, none] [] S6 (rx_pi zr zS) := by
      intro x5 S6 h
      subst eJ63_2
      refine ev_iload_n (i := 3) 64 dX2_answer_63 rfl rfl rfl ?_
      refine ev_iconst (v := 1) 65 dX2_answer_64 (by decide) rfl ?_
      refine ev_icmp_ne 77 68 dX2_answer_65 rfl rfl (fun c7 => ?_) (fun c7 => ?_)
      · replace h := rx_if_f c7 h
        refine ev_iconst (v := 0) 78 dX2_answer_77 (by decide) rfl ?_
        exact ev_ireturn dX2_answer_78 rfl (rx_ret_i h)
      · replace h := rx_if_t c7 h
        refine ev_aload_n (i := 0) 69 dX2_answer_68 rfl rfl rfl ?_
        refine ev_get (v := .ref 23) 72 dX2_answer_69 dk_20 fl_2_18 (by decide) rfl rfl rfl ?_
        refine ev_iconst (v := 0) 73 dX2_answer_72 (by decide) rfl ?_
        refine ex_iald 0 74 dX2_answer_73 dk_23 (rx_vin (by decide)) (by decide) rfl ?_
        refine ev_goto 78 dX2_answer_74 rfl ?_
        exact ev_ireturn dX2_answer_78 rfl (rx_ret_i h)
    exact (em_X2_answer_L26_20 hJ63_2 _ _ _ _ _ h).fewer (rx_le_s (rx_le_n (rx_le_s (rx_le_s (rx_le_s (rx_le_n (rx_le_n (rx_le_n rx_le_0))))))))
  obtain ⟨J19_4, eJ19_4, h⟩ := rx_let_o h
  have hJ19_4 : ∀ (S64 : rx_S), J19_4 S64 = some (zr, zS) → EV gC d mX2_answer 19 [some (.ref 20), none, none, none, none, none, none, none] [] S64 (rx_pi zr zS) := by
    intro S64 h
    subst eJ19_4
    refine ev_iconst (v := (-1)) 20 dX2_answer_19 (by decide) rfl ?_
    exact (hJ20_1 _ _ h).fewer (rx_le_s (rx_le_n (rx_le_n (rx_le_n (rx_le_n (rx_le_n (rx_le_n (rx_le_n rx_le_0))))))))
  refine ev_if_lt 19 4 dX2_answer_1 rfl rfl (fun c65 => ?_) (fun c65 => ?_)
  · replace h := rx_if_t c65 h
    exact (hJ19_4 _ h).fewer (rx_le_s (rx_le_n (rx_le_n (rx_le_n (rx_le_n (rx_le_n (rx_le_n (rx_le_n rx_le_0))))))))
  · replace h := rx_if_f c65 h
    refine ev_iload_n (i := 1) 5 dX2_answer_4 rfl rfl rfl ?_
    refine ev_bipush (v := 7) 7 dX2_answer_5 (by decide) rfl ?_
    refine ev_icmp_ge 19 10 dX2_answer_7 rfl rfl (fun c66 => ?_) (fun c66 => ?_)
    · replace h := rx_if_t c66 h
      exact (hJ19_4 _ h).fewer (rx_le_s (rx_le_n (rx_le_n (rx_le_n (rx_le_n (rx_le_n (rx_le_n (rx_le_n rx_le_0))))))))
    · replace h := rx_if_f c66 h
      refine ev_aload_n (i := 0) 11 dX2_answer_10 rfl rfl rfl ?_
      refine ev_get (v := .ref 22) 14 dX2_answer_11 dk_20 fl_2_15 (by decide) rfl rfl rfl ?_
      refine ev_iload_n (i := 1) 15 dX2_answer_14 rfl rfl rfl ?_
      obtain ⟨g67, h⟩ := rx_gd_o h
      refine ex_iald _ 16 dX2_answer_15 dk_22 g67 rfl rfl ?_
      refine ev_goto 20 dX2_answer_16 rfl ?_
      exact (hJ20_1 _ _ h).fewer (rx_le_s (rx_le_n (rx_le_n (rx_le_n (rx_le_n (rx_le_n (rx_le_n (rx_le_n rx_le_0))))))))

def f_X10_within (x0 : Int32) (x1 : Int32) (x2 : Int32) (S0 : rx_S) : Option (Int32 × rx_S) := some ((if x1 < (if x0 < x2 then x0 else x2) then (if x0 < x2 then x0 else x2) else x1), S0)
set_option maxHeartbeats 4000000 in
set_option maxRecDepth 20000 in
theorem em_X10_within {G : Nat × Nat} {d : Nat} {x0 : Int32} {x1 : Int32} {x2 : Int32} {S0 : rx_S} {zr : Int32} {zS : rx_S} (h : f_X10_within x0 x1 x2 S0 = some (zr, zS)) : EM G (d + 1) mX10_within [.int x0, .int x1, .int x2] S0 (rx_pi zr zS) := by
  unfold f_X10_within at h
  show EV G (d + 1) mX10_within 0 [some (.int x0), some (.int x1), some (.int x2)] [] S0 (rx_pi zr zS)
  refine ev_iload_n (i := 1) 1 dX10_within_0 rfl rfl rfl ?_
  refine ev_iload_n (i := 2) 2 dX10_within_1 rfl rfl rfl ?_
  refine ev_iload_n (i := 0) 3 dX10_within_2 rfl rfl rfl ?_
  refine ev_min 6 dX10_within_3 lk_10_257 w_min (Nat.le_of_ble_eq_true rfl) rfl ?_
  refine ev_max 9 dX10_within_6 lk_10_262 w_max (Nat.le_of_ble_eq_true rfl) rfl ?_
  exact ev_ireturn dX10_within_9 rfl (rx_ret_i h)

def f_X7_restOf (x0 : Int32) (x1 : Int32) (S0 : rx_S) : Option (Int32 × rx_S) := if x0 < 0 then (some (0, S0)) else (if (0 : Int32) < x1 then (rx_nz x1 (some ((rx_rem x0 x1), S0))) else (some (0, S0)))
set_option maxHeartbeats 4000000 in
set_option maxRecDepth 20000 in
theorem em_X7_restOf {G : Nat × Nat} {d : Nat} {x0 : Int32} {x1 : Int32} {S0 : rx_S} {zr : Int32} {zS : rx_S} (h : f_X7_restOf x0 x1 S0 = some (zr, zS)) : EM G d mX7_restOf [.int x0, .int x1] S0 (rx_pi zr zS) := by
  unfold f_X7_restOf at h
  show EV G d mX7_restOf 0 [some (.int x0), some (.int x1)] [] S0 (rx_pi zr zS)
  refine ev_iload_n (i := 0) 1 dX7_restOf_0 rfl rfl rfl ?_
  refine ev_if_lt 8 4 dX7_restOf_1 rfl rfl (fun c3 => ?_) (fun c3 => ?_)
  · replace h := rx_if_t c3 h
    refine ev_iconst (v := 0) 9 dX7_restOf_8 (by decide) rfl ?_
    refine ev_goto 15 dX7_restOf_9 rfl ?_
    exact ev_ireturn dX7_restOf_15 rfl (rx_ret_i h)
  · replace h := rx_if_f c3 h
    refine ev_iload_n (i := 1) 5 dX7_restOf_4 rfl rfl rfl ?_
    refine ev_if_gt 12 8 dX7_restOf_5 rfl rfl (fun c4 => ?_) (fun c4 => ?_)
    · replace h := rx_if_t c4 h
      refine ev_iload_n (i := 0) 13 dX7_restOf_12 rfl rfl rfl ?_
      refine ev_iload_n (i := 1) 14 dX7_restOf_13 rfl rfl rfl ?_
      obtain ⟨g5, h⟩ := rx_nz_o h
      refine ev_rem 15 dX7_restOf_14 g5 rfl ?_
      exact ev_ireturn dX7_restOf_15 rfl (rx_ret_i h)
    · replace h := rx_if_f c4 h
      refine ev_iconst (v := 0) 9 dX7_restOf_8 (by decide) rfl ?_
      refine ev_goto 15 dX7_restOf_9 rfl ?_
      exact ev_ireturn dX7_restOf_15 rfl (rx_ret_i h)

def f_X5_with (x0 : Int32) (x1 : Int32) (S0 : rx_S) : Option (Int32 × rx_S) := some (((x0 * 8) + x1), S0)
set_option maxHeartbeats 4000000 in
set_option maxRecDepth 20000 in
theorem em_X5_with {G : Nat × Nat} {d : Nat} {x0 : Int32} {x1 : Int32} {S0 : rx_S} {zr : Int32} {zS : rx_S} (h : f_X5_with x0 x1 S0 = some (zr, zS)) : EM G d mX5_with [.int x0, .int x1] S0 (rx_pi zr zS) := by
  unfold f_X5_with at h
  show EV G d mX5_with 0 [some (.int x0), some (.int x1)] [] S0 (rx_pi zr zS)
  refine ev_iload_n (i := 0) 1 dX5_with_0 rfl rfl rfl ?_
  refine ev_bipush (v := 8) 3 dX5_with_1 (by decide) rfl ?_
  refine ev_imul 4 dX5_with_3 rfl ?_
  refine ev_iload_n (i := 1) 5 dX5_with_4 rfl rfl rfl ?_
  refine ev_iadd 6 dX5_with_5 rfl ?_
  exact ev_ireturn dX5_with_6 rfl (rx_ret_i h)

def f_X7_rowOf_L52 (k : Nat) (N : Nat) : Nat → Int32 → Int32 → Int32 → rx_S → Option (Int32 × rx_S)
  | 0, _, _, _, _ => none
  | n + 1, x20, x21, x22, S23 => if x20 ≤ x22 then (some (x21, S23)) else (rx_bd (f_X2_let 3 1 x22 S23) (fun x26 S25 => rx_bd (f_X2_answer 3 N 1 S25) (fun x29 S28 => rx_bd (f_X7_restOf x29 8 S28) (fun x32 S31 => rx_bd (f_X5_with x21 x32 S31) (fun x35 S34 => rx_let (x22 + 1) (fun x37 => f_X7_rowOf_L52 k N n x20 x35 x37 S34))))))
def f_X7_rowOf (k : Nat) (N : Nat) (x2 : Int32) (S0 : rx_S) : Option (Int32 × rx_S) := rx_bd (f_X2_askIn 3 N (S0.1 k 0) S0) (fun x5 S4 => rx_gd ((4 : Int32) + x2) 48 (rx_bd (f_X2_let 3 2 (S4.1 k (Int32.toNatClampNeg ((4 : Int32) + x2))) S4) (fun x9 S8 => rx_bd (f_X2_let 3 5 x2 S8) (fun x12 S11 => rx_bd (f_X2_answer 3 N 0 S11) (fun x15 S14 => rx_bd (f_X10_within x15 0 5 S14) (fun x18 S17 => f_X7_rowOf_L52 k N N x18 1 0 S17))))))
set_option maxHeartbeats 4000000 in
set_option maxRecDepth 20000 in
theorem em_X7_rowOf_L52_32 {d N : Nat} {zr : Int32} {zS : rx_S} : ∀ (n : Nat) (x20 : Int32) (x21 : Int32) (x22 : Int32) (S23 : rx_S), f_X7_rowOf_L52 32 N n x20 x21 x22 S23 = some (zr, zS) → EV gC (d + 2) mX7_rowOf 52 [some (.ref 80), some (.ref 32), none, some (.int x20), some (.int x21), some (.int x22)] [] S23 (rx_pi zr zS) := by
  intro n
  induction n with
  | zero => intro x20 x21 x22 S23 h; cases h
  | succ n ih =>
    intro x20 x21 x22 S23 h
    rw [f_X7_rowOf_L52] at h
    refine ev_iload 54 dX7_rowOf_52 rfl rfl ?_
    refine ev_iload_n (i := 3) 55 dX7_rowOf_54 rfl rfl rfl ?_
    refine ev_icmp_ge 94 58 dX7_rowOf_55 rfl rfl (fun c24 => ?_) (fun c24 => ?_)
    · replace h := rx_if_t c24 h
      refine ev_iload 96 dX7_rowOf_94 rfl rfl ?_
      exact ev_ireturn dX7_rowOf_96 rfl (rx_ret_i h)
    · replace h := rx_if_f c24 h
      refine ev_aload_n (i := 0) 59 dX7_rowOf_58 rfl rfl rfl ?_
      refine ev_get (v := .ref 3) 62 dX7_rowOf_59 dk_80 fl_7_21 (by decide) rfl rfl rfl ?_
      refine ev_iconst (v := 1) 63 dX7_rowOf_62 (by decide) rfl ?_
      refine ev_iload 65 dX7_rowOf_63 rfl rfl ?_
      obtain ⟨x26, S25, g27, h⟩ := rx_bd_o h
      refine ev_cVv2 68 dX7_rowOf_65 (em_X2_let_3 g27) mm_X2_let mv_X2_let lk_7_28 dk_3 (by decide) rfl (Nat.le_of_ble_eq_true rfl) (Nat.le_of_ble_eq_true rfl) rfl ?_
      refine ev_iload 70 dX7_rowOf_68 rfl rfl ?_
      refine ev_aload_n (i := 0) 71 dX7_rowOf_70 rfl rfl rfl ?_
      refine ev_get (v := .ref 3) 74 dX7_rowOf_71 dk_80 fl_7_21 (by decide) rfl rfl rfl ?_
      refine ev_iconst (v := 1) 75 dX7_rowOf_74 (by decide) rfl ?_
      obtain ⟨x29, S28, g30, h⟩ := rx_bd_o h
      refine ev_cVi1 78 dX7_rowOf_75 (em_X2_answer_3 g30) mm_X2_answer mv_X2_answer lk_7_32 dk_3 (by decide) rfl (Nat.le_of_ble_eq_true rfl) (Nat.le_of_ble_eq_true rfl) rfl ?_
      refine ev_bipush (v := 8) 80 dX7_rowOf_78 (by decide) rfl ?_
      obtain ⟨x32, S31, g33, h⟩ := rx_bd_o h
      refine ev_cSi2 83 dX7_rowOf_80 (em_X7_restOf g33) mm_X7_restOf ms_X7_restOf lk_7_40 (Nat.le_of_ble_eq_true rfl) (Nat.le_of_ble_eq_true rfl) rfl ?_
      obtain ⟨x35, S34, g36, h⟩ := rx_bd_o h
      refine ev_cSi2 86 dX7_rowOf_83 (em_X5_with g36) mm_X5_with ms_X5_with lk_7_44 (Nat.le_of_ble_eq_true rfl) (Nat.le_of_ble_eq_true rfl) rfl ?_
      refine ev_istore (ls' := [some (.ref 80), some (.ref 32), none, some (.int x20), some (.int x35), some (.int x22)]) 88 dX7_rowOf_86 (Nat.le_of_ble_eq_true rfl) rfl rfl ?_
      obtain ⟨x37, ex37, h⟩ := rx_let_o h
      refine ev_iinc (v := x37) (ls' := [some (.ref 80), some (.ref 32), none, some (.int x20), some (.int x35), some (.int x37)]) 91 dX7_rowOf_88 rfl (by rw [ex37]; rfl) (Nat.le_of_ble_eq_true rfl) rfl rfl ?_
      refine ev_goto 52 dX7_rowOf_91 rfl ?_
      exact (ih _ _ _ _ h).fewer (rx_le_s (rx_le_s (rx_le_n (rx_le_s (rx_le_s (rx_le_s rx_le_0))))))

set_option maxHeartbeats 4000000 in
set_option maxRecDepth 20000 in
theorem em_X7_rowOf_32 {d N : Nat} {x2 : Int32} {S0 : rx_S} {zr : Int32} {zS : rx_S} (h : f_X7_rowOf 32 N x2 S0 = some (zr, zS)) : EM gC (d + 2) mX7_rowOf [.ref 80, .ref 32, .int x2] S0 (rx_pi zr zS) := by
  unfold f_X7_rowOf at h
  show EV gC (d + 2) mX7_rowOf 0 [some (.ref 80), some (.ref 32), some (.int x2), none, none, none] [] S0 (rx_pi zr zS)
  refine ev_aload_n (i := 0) 1 dX7_rowOf_0 rfl rfl rfl ?_
  refine ev_get (v := .ref 3) 4 dX7_rowOf_1 dk_80 fl_7_21 (by decide) rfl rfl rfl ?_
  refine ev_aload_n (i := 1) 5 dX7_rowOf_4 rfl rfl rfl ?_
  refine ev_iconst (v := 0) 6 dX7_rowOf_5 (by decide) rfl ?_
  refine ex_iald 0 7 dX7_rowOf_6 dk_32 (rx_vin (by decide)) (by decide) rfl ?_
  obtain ⟨x5, S4, g6, h⟩ := rx_bd_o h
  refine ev_cVv1 10 dX7_rowOf_7 (em_X2_askIn_3 g6) mm_X2_askIn mv_X2_askIn lk_7_22 dk_3 (by decide) rfl (Nat.le_of_ble_eq_true rfl) (Nat.le_of_ble_eq_true rfl) rfl ?_
  refine ev_aload_n (i := 0) 11 dX7_rowOf_10 rfl rfl rfl ?_
  refine ev_get (v := .ref 3) 14 dX7_rowOf_11 dk_80 fl_7_21 (by decide) rfl rfl rfl ?_
  refine ev_iconst (v := 2) 15 dX7_rowOf_14 (by decide) rfl ?_
  refine ev_aload_n (i := 1) 16 dX7_rowOf_15 rfl rfl rfl ?_
  refine ev_iconst (v := 4) 17 dX7_rowOf_16 (by decide) rfl ?_
  refine ev_iload_n (i := 2) 18 dX7_rowOf_17 rfl rfl rfl ?_
  refine ev_iadd 19 dX7_rowOf_18 rfl ?_
  obtain ⟨g7, h⟩ := rx_gd_o h
  refine ex_iald _ 20 dX7_rowOf_19 dk_32 g7 rfl rfl ?_
  obtain ⟨x9, S8, g10, h⟩ := rx_bd_o h
  refine ev_cVv2 23 dX7_rowOf_20 (em_X2_let_3 g10) mm_X2_let mv_X2_let lk_7_28 dk_3 (by decide) rfl (Nat.le_of_ble_eq_true rfl) (Nat.le_of_ble_eq_true rfl) rfl ?_
  refine ev_aload_n (i := 0) 24 dX7_rowOf_23 rfl rfl rfl ?_
  refine ev_get (v := .ref 3) 27 dX7_rowOf_24 dk_80 fl_7_21 (by decide) rfl rfl rfl ?_
  refine ev_iconst (v := 5) 28 dX7_rowOf_27 (by decide) rfl ?_
  refine ev_iload_n (i := 2) 29 dX7_rowOf_28 rfl rfl rfl ?_
  obtain ⟨x12, S11, g13, h⟩ := rx_bd_o h
  refine ev_cVv2 32 dX7_rowOf_29 (em_X2_let_3 g13) mm_X2_let mv_X2_let lk_7_28 dk_3 (by decide) rfl (Nat.le_of_ble_eq_true rfl) (Nat.le_of_ble_eq_true rfl) rfl ?_
  refine ev_aload_n (i := 0) 33 dX7_rowOf_32 rfl rfl rfl ?_
  refine ev_get (v := .ref 3) 36 dX7_rowOf_33 dk_80 fl_7_21 (by decide) rfl rfl rfl ?_
  refine ev_iconst (v := 0) 37 dX7_rowOf_36 (by decide) rfl ?_
  obtain ⟨x15, S14, g16, h⟩ := rx_bd_o h
  refine ev_cVi1 40 dX7_rowOf_37 (em_X2_answer_3 g16) mm_X2_answer mv_X2_answer lk_7_32 dk_3 (by decide) rfl (Nat.le_of_ble_eq_true rfl) (Nat.le_of_ble_eq_true rfl) rfl ?_
  refine ev_iconst (v := 0) 41 dX7_rowOf_40 (by decide) rfl ?_
  refine ev_iconst (v := 5) 42 dX7_rowOf_41 (by decide) rfl ?_
  obtain ⟨x18, S17, g19, h⟩ := rx_bd_o h
  refine ev_cSi3 45 dX7_rowOf_42 (em_X10_within g19) mm_X10_within ms_X10_within lk_7_36 (Nat.le_of_ble_eq_true rfl) (Nat.le_of_ble_eq_true rfl) rfl ?_
  refine ev_istore_n (ls' := [some (.ref 80), some (.ref 32), some (.int x2), some (.int x18), none, none]) 46 dX7_rowOf_45 rfl (Nat.le_of_ble_eq_true rfl) rfl rfl ?_
  refine ev_iconst (v := 1) 47 dX7_rowOf_46 (by decide) rfl ?_
  refine ev_istore (ls' := [some (.ref 80), some (.ref 32), some (.int x2), some (.int x18), some (.int 1), none]) 49 dX7_rowOf_47 (Nat.le_of_ble_eq_true rfl) rfl rfl ?_
  refine ev_iconst (v := 0) 50 dX7_rowOf_49 (by decide) rfl ?_
  refine ev_istore (ls' := [some (.ref 80), some (.ref 32), some (.int x2), some (.int x18), some (.int 1), some (.int 0)]) 52 dX7_rowOf_50 (Nat.le_of_ble_eq_true rfl) rfl rfl ?_
  exact (em_X7_rowOf_L52_32 _ _ _ _ _ h).fewer (rx_le_s (rx_le_s (rx_le_n (rx_le_s (rx_le_s (rx_le_s rx_le_0))))))

set_option maxHeartbeats 4000000 in
set_option maxRecDepth 20000 in
theorem em_X7_rowOf_L52_89 {d N : Nat} {zr : Int32} {zS : rx_S} : ∀ (n : Nat) (x20 : Int32) (x21 : Int32) (x22 : Int32) (S23 : rx_S), f_X7_rowOf_L52 89 N n x20 x21 x22 S23 = some (zr, zS) → EV gC (d + 2) mX7_rowOf 52 [some (.ref 80), some (.ref 89), none, some (.int x20), some (.int x21), some (.int x22)] [] S23 (rx_pi zr zS) := by
  intro n
  induction n with
  | zero => intro x20 x21 x22 S23 h; cases h
  | succ n ih =>
    intro x20 x21 x22 S23 h
    rw [f_X7_rowOf_L52] at h
    refine ev_iload 54 dX7_rowOf_52 rfl rfl ?_
    refine ev_iload_n (i := 3) 55 dX7_rowOf_54 rfl rfl rfl ?_
    refine ev_icmp_ge 94 58 dX7_rowOf_55 rfl rfl (fun c24 => ?_) (fun c24 => ?_)
    · replace h := rx_if_t c24 h
      refine ev_iload 96 dX7_rowOf_94 rfl rfl ?_
      exact ev_ireturn dX7_rowOf_96 rfl (rx_ret_i h)
    · replace h := rx_if_f c24 h
      refine ev_aload_n (i := 0) 59 dX7_rowOf_58 rfl rfl rfl ?_
      refine ev_get (v := .ref 3) 62 dX7_rowOf_59 dk_80 fl_7_21 (by decide) rfl rfl rfl ?_
      refine ev_iconst (v := 1) 63 dX7_rowOf_62 (by decide) rfl ?_
      refine ev_iload 65 dX7_rowOf_63 rfl rfl ?_
      obtain ⟨x26, S25, g27, h⟩ := rx_bd_o h
      refine ev_cVv2 68 dX7_rowOf_65 (em_X2_let_3 g27) mm_X2_let mv_X2_let lk_7_28 dk_3 (by decide) rfl (Nat.le_of_ble_eq_true rfl) (Nat.le_of_ble_eq_true rfl) rfl ?_
      refine ev_iload 70 dX7_rowOf_68 rfl rfl ?_
      refine ev_aload_n (i := 0) 71 dX7_rowOf_70 rfl rfl rfl ?_
      refine ev_get (v := .ref 3) 74 dX7_rowOf_71 dk_80 fl_7_21 (by decide) rfl rfl rfl ?_
      refine ev_iconst (v := 1) 75 dX7_rowOf_74 (by decide) rfl ?_
      obtain ⟨x29, S28, g30, h⟩ := rx_bd_o h
      refine ev_cVi1 78 dX7_rowOf_75 (em_X2_answer_3 g30) mm_X2_answer mv_X2_answer lk_7_32 dk_3 (by decide) rfl (Nat.le_of_ble_eq_true rfl) (Nat.le_of_ble_eq_true rfl) rfl ?_
      refine ev_bipush (v := 8) 80 dX7_rowOf_78 (by decide) rfl ?_
      obtain ⟨x32, S31, g33, h⟩ := rx_bd_o h
      refine ev_cSi2 83 dX7_rowOf_80 (em_X7_restOf g33) mm_X7_restOf ms_X7_restOf lk_7_40 (Nat.le_of_ble_eq_true rfl) (Nat.le_of_ble_eq_true rfl) rfl ?_
      obtain ⟨x35, S34, g36, h⟩ := rx_bd_o h
      refine ev_cSi2 86 dX7_rowOf_83 (em_X5_with g36) mm_X5_with ms_X5_with lk_7_44 (Nat.le_of_ble_eq_true rfl) (Nat.le_of_ble_eq_true rfl) rfl ?_
      refine ev_istore (ls' := [some (.ref 80), some (.ref 89), none, some (.int x20), some (.int x35), some (.int x22)]) 88 dX7_rowOf_86 (Nat.le_of_ble_eq_true rfl) rfl rfl ?_
      obtain ⟨x37, ex37, h⟩ := rx_let_o h
      refine ev_iinc (v := x37) (ls' := [some (.ref 80), some (.ref 89), none, some (.int x20), some (.int x35), some (.int x37)]) 91 dX7_rowOf_88 rfl (by rw [ex37]; rfl) (Nat.le_of_ble_eq_true rfl) rfl rfl ?_
      refine ev_goto 52 dX7_rowOf_91 rfl ?_
      exact (ih _ _ _ _ h).fewer (rx_le_s (rx_le_s (rx_le_n (rx_le_s (rx_le_s (rx_le_s rx_le_0))))))

set_option maxHeartbeats 4000000 in
set_option maxRecDepth 20000 in
theorem em_X7_rowOf_89 {d N : Nat} {x2 : Int32} {S0 : rx_S} {zr : Int32} {zS : rx_S} (h : f_X7_rowOf 89 N x2 S0 = some (zr, zS)) : EM gC (d + 2) mX7_rowOf [.ref 80, .ref 89, .int x2] S0 (rx_pi zr zS) := by
  unfold f_X7_rowOf at h
  show EV gC (d + 2) mX7_rowOf 0 [some (.ref 80), some (.ref 89), some (.int x2), none, none, none] [] S0 (rx_pi zr zS)
  refine ev_aload_n (i := 0) 1 dX7_rowOf_0 rfl rfl rfl ?_
  refine ev_get (v := .ref 3) 4 dX7_rowOf_1 dk_80 fl_7_21 (by decide) rfl rfl rfl ?_
  refine ev_aload_n (i := 1) 5 dX7_rowOf_4 rfl rfl rfl ?_
  refine ev_iconst (v := 0) 6 dX7_rowOf_5 (by decide) rfl ?_
  refine ex_iald 0 7 dX7_rowOf_6 dk_89 (rx_vin (by decide)) (by decide) rfl ?_
  obtain ⟨x5, S4, g6, h⟩ := rx_bd_o h
  refine ev_cVv1 10 dX7_rowOf_7 (em_X2_askIn_3 g6) mm_X2_askIn mv_X2_askIn lk_7_22 dk_3 (by decide) rfl (Nat.le_of_ble_eq_true rfl) (Nat.le_of_ble_eq_true rfl) rfl ?_
  refine ev_aload_n (i := 0) 11 dX7_rowOf_10 rfl rfl rfl ?_
  refine ev_get (v := .ref 3) 14 dX7_rowOf_11 dk_80 fl_7_21 (by decide) rfl rfl rfl ?_
  refine ev_iconst (v := 2) 15 dX7_rowOf_14 (by decide) rfl ?_
  refine ev_aload_n (i := 1) 16 dX7_rowOf_15 rfl rfl rfl ?_
  refine ev_iconst (v := 4) 17 dX7_rowOf_16 (by decide) rfl ?_
  refine ev_iload_n (i := 2) 18 dX7_rowOf_17 rfl rfl rfl ?_
  refine ev_iadd 19 dX7_rowOf_18 rfl ?_
  obtain ⟨g7, h⟩ := rx_gd_o h
  refine ex_iald _ 20 dX7_rowOf_19 dk_89 g7 rfl rfl ?_
  obtain ⟨x9, S8, g10, h⟩ := rx_bd_o h
  refine ev_cVv2 23 dX7_rowOf_20 (em_X2_let_3 g10) mm_X2_let mv_X2_let lk_7_28 dk_3 (by decide) rfl (Nat.le_of_ble_eq_true rfl) (Nat.le_of_ble_eq_true rfl) rfl ?_
  refine ev_aload_n (i := 0) 24 dX7_rowOf_23 rfl rfl rfl ?_
  refine ev_get (v := .ref 3) 27 dX7_rowOf_24 dk_80 fl_7_21 (by decide) rfl rfl rfl ?_
  refine ev_iconst (v := 5) 28 dX7_rowOf_27 (by decide) rfl ?_
  refine ev_iload_n (i := 2) 29 dX7_rowOf_28 rfl rfl rfl ?_
  obtain ⟨x12, S11, g13, h⟩ := rx_bd_o h
  refine ev_cVv2 32 dX7_rowOf_29 (em_X2_let_3 g13) mm_X2_let mv_X2_let lk_7_28 dk_3 (by decide) rfl (Nat.le_of_ble_eq_true rfl) (Nat.le_of_ble_eq_true rfl) rfl ?_
  refine ev_aload_n (i := 0) 33 dX7_rowOf_32 rfl rfl rfl ?_
  refine ev_get (v := .ref 3) 36 dX7_rowOf_33 dk_80 fl_7_21 (by decide) rfl rfl rfl ?_
  refine ev_iconst (v := 0) 37 dX7_rowOf_36 (by decide) rfl ?_
  obtain ⟨x15, S14, g16, h⟩ := rx_bd_o h
  refine ev_cVi1 40 dX7_rowOf_37 (em_X2_answer_3 g16) mm_X2_answer mv_X2_answer lk_7_32 dk_3 (by decide) rfl (Nat.le_of_ble_eq_true rfl) (Nat.le_of_ble_eq_true rfl) rfl ?_
  refine ev_iconst (v := 0) 41 dX7_rowOf_40 (by decide) rfl ?_
  refine ev_iconst (v := 5) 42 dX7_rowOf_41 (by decide) rfl ?_
  obtain ⟨x18, S17, g19, h⟩ := rx_bd_o h
  refine ev_cSi3 45 dX7_rowOf_42 (em_X10_within g19) mm_X10_within ms_X10_within lk_7_36 (Nat.le_of_ble_eq_true rfl) (Nat.le_of_ble_eq_true rfl) rfl ?_
  refine ev_istore_n (ls' := [some (.ref 80), some (.ref 89), some (.int x2), some (.int x18), none, none]) 46 dX7_rowOf_45 rfl (Nat.le_of_ble_eq_true rfl) rfl rfl ?_
  refine ev_iconst (v := 1) 47 dX7_rowOf_46 (by decide) rfl ?_
  refine ev_istore (ls' := [some (.ref 80), some (.ref 89), some (.int x2), some (.int x18), some (.int 1), none]) 49 dX7_rowOf_47 (Nat.le_of_ble_eq_true rfl) rfl rfl ?_
  refine ev_iconst (v := 0) 50 dX7_rowOf_49 (by decide) rfl ?_
  refine ev_istore (ls' := [some (.ref 80), some (.ref 89), some (.int x2), some (.int x18), some (.int 1), some (.int 0)]) 52 dX7_rowOf_50 (Nat.le_of_ble_eq_true rfl) rfl rfl ?_
  exact (em_X7_rowOf_L52_89 _ _ _ _ _ h).fewer (rx_le_s (rx_le_s (rx_le_n (rx_le_s (rx_le_s (rx_le_s rx_le_0))))))

def f_X7_askAboutThird (k : Nat) (N : Nat) (x2 : Int32) (S0 : rx_S) : Option (Unit × rx_S) := rx_bd (f_X2_askIn 3 N (S0.1 k 0) S0) (fun x5 S4 => rx_gd ((28 : Int32) + x2) 48 (rx_bd (f_X2_let 3 3 (S4.1 k (Int32.toNatClampNeg ((28 : Int32) + x2))) S4) (fun x9 S8 => rx_gd ((32 : Int32) + x2) 48 (rx_bd (f_X2_let 3 4 (S8.1 k (Int32.toNatClampNeg ((32 : Int32) + x2))) S8) (fun x13 S12 => rx_bd (f_X2_let 3 5 x2 S12) (fun x16 S15 => some ((), S15)))))))
set_option maxHeartbeats 4000000 in
set_option maxRecDepth 20000 in
theorem em_X7_askAboutThird_32 {d N : Nat} {x2 : Int32} {S0 : rx_S} {zr : Unit} {zS : rx_S} (h : f_X7_askAboutThird 32 N x2 S0 = some (zr, zS)) : EM gC (d + 1) mX7_askAboutThird [.ref 80, .ref 32, .int x2] S0 (rx_pv zS) := by
  unfold f_X7_askAboutThird at h
  show EV gC (d + 1) mX7_askAboutThird 0 [some (.ref 80), some (.ref 32), some (.int x2)] [] S0 (rx_pv zS)
  refine ev_aload_n (i := 0) 1 dX7_askAboutThird_0 rfl rfl rfl ?_
  refine ev_get (v := .ref 3) 4 dX7_askAboutThird_1 dk_80 fl_7_21 (by decide) rfl rfl rfl ?_
  refine ev_aload_n (i := 1) 5 dX7_askAboutThird_4 rfl rfl rfl ?_
  refine ev_iconst (v := 0) 6 dX7_askAboutThird_5 (by decide) rfl ?_
  refine ex_iald 0 7 dX7_askAboutThird_6 dk_32 (rx_vin (by decide)) (by decide) rfl ?_
  obtain ⟨x5, S4, g6, h⟩ := rx_bd_o h
  refine ev_cVv1 10 dX7_askAboutThird_7 (em_X2_askIn_3 g6) mm_X2_askIn mv_X2_askIn lk_7_22 dk_3 (by decide) rfl (Nat.le_of_ble_eq_true rfl) (Nat.le_of_ble_eq_true rfl) rfl ?_
  refine ev_aload_n (i := 0) 11 dX7_askAboutThird_10 rfl rfl rfl ?_
  refine ev_get (v := .ref 3) 14 dX7_askAboutThird_11 dk_80 fl_7_21 (by decide) rfl rfl rfl ?_
  refine ev_iconst (v := 3) 15 dX7_askAboutThird_14 (by decide) rfl ?_
  refine ev_aload_n (i := 1) 16 dX7_askAboutThird_15 rfl rfl rfl ?_
  refine ev_bipush (v := 28) 18 dX7_askAboutThird_16 (by decide) rfl ?_
  refine ev_iload_n (i := 2) 19 dX7_askAboutThird_18 rfl rfl rfl ?_
  refine ev_iadd 20 dX7_askAboutThird_19 rfl ?_
  obtain ⟨g7, h⟩ := rx_gd_o h
  refine ex_iald _ 21 dX7_askAboutThird_20 dk_32 g7 rfl rfl ?_
  obtain ⟨x9, S8, g10, h⟩ := rx_bd_o h
  refine ev_cVv2 24 dX7_askAboutThird_21 (em_X2_let_3 g10) mm_X2_let mv_X2_let lk_7_28 dk_3 (by decide) rfl (Nat.le_of_ble_eq_true rfl) (Nat.le_of_ble_eq_true rfl) rfl ?_
  refine ev_aload_n (i := 0) 25 dX7_askAboutThird_24 rfl rfl rfl ?_
  refine ev_get (v := .ref 3) 28 dX7_askAboutThird_25 dk_80 fl_7_21 (by decide) rfl rfl rfl ?_
  refine ev_iconst (v := 4) 29 dX7_askAboutThird_28 (by decide) rfl ?_
  refine ev_aload_n (i := 1) 30 dX7_askAboutThird_29 rfl rfl rfl ?_
  refine ev_bipush (v := 32) 32 dX7_askAboutThird_30 (by decide) rfl ?_
  refine ev_iload_n (i := 2) 33 dX7_askAboutThird_32 rfl rfl rfl ?_
  refine ev_iadd 34 dX7_askAboutThird_33 rfl ?_
  obtain ⟨g11, h⟩ := rx_gd_o h
  refine ex_iald _ 35 dX7_askAboutThird_34 dk_32 g11 rfl rfl ?_
  obtain ⟨x13, S12, g14, h⟩ := rx_bd_o h
  refine ev_cVv2 38 dX7_askAboutThird_35 (em_X2_let_3 g14) mm_X2_let mv_X2_let lk_7_28 dk_3 (by decide) rfl (Nat.le_of_ble_eq_true rfl) (Nat.le_of_ble_eq_true rfl) rfl ?_
  refine ev_aload_n (i := 0) 39 dX7_askAboutThird_38 rfl rfl rfl ?_
  refine ev_get (v := .ref 3) 42 dX7_askAboutThird_39 dk_80 fl_7_21 (by decide) rfl rfl rfl ?_
  refine ev_iconst (v := 5) 43 dX7_askAboutThird_42 (by decide) rfl ?_
  refine ev_iload_n (i := 2) 44 dX7_askAboutThird_43 rfl rfl rfl ?_
  obtain ⟨x16, S15, g17, h⟩ := rx_bd_o h
  refine ev_cVv2 47 dX7_askAboutThird_44 (em_X2_let_3 g17) mm_X2_let mv_X2_let lk_7_28 dk_3 (by decide) rfl (Nat.le_of_ble_eq_true rfl) (Nat.le_of_ble_eq_true rfl) rfl ?_
  exact ev_return dX7_askAboutThird_47 rfl (rx_ret_v h)

set_option maxHeartbeats 4000000 in
set_option maxRecDepth 20000 in
theorem em_X7_askAboutThird_89 {d N : Nat} {x2 : Int32} {S0 : rx_S} {zr : Unit} {zS : rx_S} (h : f_X7_askAboutThird 89 N x2 S0 = some (zr, zS)) : EM gC (d + 1) mX7_askAboutThird [.ref 80, .ref 89, .int x2] S0 (rx_pv zS) := by
  unfold f_X7_askAboutThird at h
  show EV gC (d + 1) mX7_askAboutThird 0 [some (.ref 80), some (.ref 89), some (.int x2)] [] S0 (rx_pv zS)
  refine ev_aload_n (i := 0) 1 dX7_askAboutThird_0 rfl rfl rfl ?_
  refine ev_get (v := .ref 3) 4 dX7_askAboutThird_1 dk_80 fl_7_21 (by decide) rfl rfl rfl ?_
  refine ev_aload_n (i := 1) 5 dX7_askAboutThird_4 rfl rfl rfl ?_
  refine ev_iconst (v := 0) 6 dX7_askAboutThird_5 (by decide) rfl ?_
  refine ex_iald 0 7 dX7_askAboutThird_6 dk_89 (rx_vin (by decide)) (by decide) rfl ?_
  obtain ⟨x5, S4, g6, h⟩ := rx_bd_o h
  refine ev_cVv1 10 dX7_askAboutThird_7 (em_X2_askIn_3 g6) mm_X2_askIn mv_X2_askIn lk_7_22 dk_3 (by decide) rfl (Nat.le_of_ble_eq_true rfl) (Nat.le_of_ble_eq_true rfl) rfl ?_
  refine ev_aload_n (i := 0) 11 dX7_askAboutThird_10 rfl rfl rfl ?_
  refine ev_get (v := .ref 3) 14 dX7_askAboutThird_11 dk_80 fl_7_21 (by decide) rfl rfl rfl ?_
  refine ev_iconst (v := 3) 15 dX7_askAboutThird_14 (by decide) rfl ?_
  refine ev_aload_n (i := 1) 16 dX7_askAboutThird_15 rfl rfl rfl ?_
  refine ev_bipush (v := 28) 18 dX7_askAboutThird_16 (by decide) rfl ?_
  refine ev_iload_n (i := 2) 19 dX7_askAboutThird_18 rfl rfl rfl ?_
  refine ev_iadd 20 dX7_askAboutThird_19 rfl ?_
  obtain ⟨g7, h⟩ := rx_gd_o h
  refine ex_iald _ 21 dX7_askAboutThird_20 dk_89 g7 rfl rfl ?_
  obtain ⟨x9, S8, g10, h⟩ := rx_bd_o h
  refine ev_cVv2 24 dX7_askAboutThird_21 (em_X2_let_3 g10) mm_X2_let mv_X2_let lk_7_28 dk_3 (by decide) rfl (Nat.le_of_ble_eq_true rfl) (Nat.le_of_ble_eq_true rfl) rfl ?_
  refine ev_aload_n (i := 0) 25 dX7_askAboutThird_24 rfl rfl rfl ?_
  refine ev_get (v := .ref 3) 28 dX7_askAboutThird_25 dk_80 fl_7_21 (by decide) rfl rfl rfl ?_
  refine ev_iconst (v := 4) 29 dX7_askAboutThird_28 (by decide) rfl ?_
  refine ev_aload_n (i := 1) 30 dX7_askAboutThird_29 rfl rfl rfl ?_
  refine ev_bipush (v := 32) 32 dX7_askAboutThird_30 (by decide) rfl ?_
  refine ev_iload_n (i := 2) 33 dX7_askAboutThird_32 rfl rfl rfl ?_
  refine ev_iadd 34 dX7_askAboutThird_33 rfl ?_
  obtain ⟨g11, h⟩ := rx_gd_o h
  refine ex_iald _ 35 dX7_askAboutThird_34 dk_89 g11 rfl rfl ?_
  obtain ⟨x13, S12, g14, h⟩ := rx_bd_o h
  refine ev_cVv2 38 dX7_askAboutThird_35 (em_X2_let_3 g14) mm_X2_let mv_X2_let lk_7_28 dk_3 (by decide) rfl (Nat.le_of_ble_eq_true rfl) (Nat.le_of_ble_eq_true rfl) rfl ?_
  refine ev_aload_n (i := 0) 39 dX7_askAboutThird_38 rfl rfl rfl ?_
  refine ev_get (v := .ref 3) 42 dX7_askAboutThird_39 dk_80 fl_7_21 (by decide) rfl rfl rfl ?_
  refine ev_iconst (v := 5) 43 dX7_askAboutThird_42 (by decide) rfl ?_
  refine ev_iload_n (i := 2) 44 dX7_askAboutThird_43 rfl rfl rfl ?_
  obtain ⟨x16, S15, g17, h⟩ := rx_bd_o h
  refine ev_cVv2 47 dX7_askAboutThird_44 (em_X2_let_3 g17) mm_X2_let mv_X2_let lk_7_28 dk_3 (by decide) rfl (Nat.le_of_ble_eq_true rfl) (Nat.le_of_ble_eq_true rfl) rfl ?_
  exact ev_return dX7_askAboutThird_47 rfl (rx_ret_v h)

def f_X7_dropsOf (k : Nat) (N : Nat) (x2 : Int32) (S0 : rx_S) : Option (Int32 × rx_S) := rx_bd (f_X7_askAboutThird k N x2 S0) (fun x5 S4 => rx_bd (f_X2_answer 3 N 3 S4) (fun x8 S7 => rx_bd (f_X10_within x8 0 100 S7) (fun x11 S10 => some (x11, S10))))
set_option maxHeartbeats 4000000 in
set_option maxRecDepth 20000 in
theorem em_X7_dropsOf_32 {d N : Nat} {x2 : Int32} {S0 : rx_S} {zr : Int32} {zS : rx_S} (h : f_X7_dropsOf 32 N x2 S0 = some (zr, zS)) : EM gC (d + 2) mX7_dropsOf [.ref 80, .ref 32, .int x2] S0 (rx_pi zr zS) := by
  unfold f_X7_dropsOf at h
  show EV gC (d + 2) mX7_dropsOf 0 [some (.ref 80), some (.ref 32), some (.int x2)] [] S0 (rx_pi zr zS)
  refine ev_aload_n (i := 0) 1 dX7_dropsOf_0 rfl rfl rfl ?_
  refine ev_aload_n (i := 1) 2 dX7_dropsOf_1 rfl rfl rfl ?_
  refine ev_iload_n (i := 2) 3 dX7_dropsOf_2 rfl rfl rfl ?_
  obtain ⟨x5, S4, g6, h⟩ := rx_bd_o h
  refine ev_cVv2 6 dX7_dropsOf_3 (em_X7_askAboutThird_32 g6) mm_X7_askAboutThird mv_X7_askAboutThird lk_7_49 dk_80 (by decide) rfl (Nat.le_of_ble_eq_true rfl) (Nat.le_of_ble_eq_true rfl) rfl ?_
  refine ev_aload_n (i := 0) 7 dX7_dropsOf_6 rfl rfl rfl ?_
  refine ev_get (v := .ref 3) 10 dX7_dropsOf_7 dk_80 fl_7_21 (by decide) rfl rfl rfl ?_
  refine ev_iconst (v := 3) 11 dX7_dropsOf_10 (by decide) rfl ?_
  obtain ⟨x8, S7, g9, h⟩ := rx_bd_o h
  refine ev_cVi1 14 dX7_dropsOf_11 (em_X2_answer_3 g9) mm_X2_answer mv_X2_answer lk_7_32 dk_3 (by decide) rfl (Nat.le_of_ble_eq_true rfl) (Nat.le_of_ble_eq_true rfl) rfl ?_
  refine ev_iconst (v := 0) 15 dX7_dropsOf_14 (by decide) rfl ?_
  refine ev_bipush (v := 100) 17 dX7_dropsOf_15 (by decide) rfl ?_
  obtain ⟨x11, S10, g12, h⟩ := rx_bd_o h
  refine ev_cSi3 20 dX7_dropsOf_17 (em_X10_within g12) mm_X10_within ms_X10_within lk_7_36 (Nat.le_of_ble_eq_true rfl) (Nat.le_of_ble_eq_true rfl) rfl ?_
  exact ev_ireturn dX7_dropsOf_20 rfl (rx_ret_i h)

set_option maxHeartbeats 4000000 in
set_option maxRecDepth 20000 in
theorem em_X7_dropsOf_89 {d N : Nat} {x2 : Int32} {S0 : rx_S} {zr : Int32} {zS : rx_S} (h : f_X7_dropsOf 89 N x2 S0 = some (zr, zS)) : EM gC (d + 2) mX7_dropsOf [.ref 80, .ref 89, .int x2] S0 (rx_pi zr zS) := by
  unfold f_X7_dropsOf at h
  show EV gC (d + 2) mX7_dropsOf 0 [some (.ref 80), some (.ref 89), some (.int x2)] [] S0 (rx_pi zr zS)
  refine ev_aload_n (i := 0) 1 dX7_dropsOf_0 rfl rfl rfl ?_
  refine ev_aload_n (i := 1) 2 dX7_dropsOf_1 rfl rfl rfl ?_
  refine ev_iload_n (i := 2) 3 dX7_dropsOf_2 rfl rfl rfl ?_
  obtain ⟨x5, S4, g6, h⟩ := rx_bd_o h
  refine ev_cVv2 6 dX7_dropsOf_3 (em_X7_askAboutThird_89 g6) mm_X7_askAboutThird mv_X7_askAboutThird lk_7_49 dk_80 (by decide) rfl (Nat.le_of_ble_eq_true rfl) (Nat.le_of_ble_eq_true rfl) rfl ?_
  refine ev_aload_n (i := 0) 7 dX7_dropsOf_6 rfl rfl rfl ?_
  refine ev_get (v := .ref 3) 10 dX7_dropsOf_7 dk_80 fl_7_21 (by decide) rfl rfl rfl ?_
  refine ev_iconst (v := 3) 11 dX7_dropsOf_10 (by decide) rfl ?_
  obtain ⟨x8, S7, g9, h⟩ := rx_bd_o h
  refine ev_cVi1 14 dX7_dropsOf_11 (em_X2_answer_3 g9) mm_X2_answer mv_X2_answer lk_7_32 dk_3 (by decide) rfl (Nat.le_of_ble_eq_true rfl) (Nat.le_of_ble_eq_true rfl) rfl ?_
  refine ev_iconst (v := 0) 15 dX7_dropsOf_14 (by decide) rfl ?_
  refine ev_bipush (v := 100) 17 dX7_dropsOf_15 (by decide) rfl ?_
  obtain ⟨x11, S10, g12, h⟩ := rx_bd_o h
  refine ev_cSi3 20 dX7_dropsOf_17 (em_X10_within g12) mm_X10_within ms_X10_within lk_7_36 (Nat.le_of_ble_eq_true rfl) (Nat.le_of_ble_eq_true rfl) rfl ?_
  exact ev_ireturn dX7_dropsOf_20 rfl (rx_ret_i h)

def f_X7_isDaring (k : Nat) (N : Nat) (x2 : Int32) (S0 : rx_S) : Option (Int32 × rx_S) := rx_bd (f_X7_askAboutThird k N x2 S0) (fun x5 S4 => rx_gd ((44 : Int32) + x2) 48 (rx_bd (f_X2_let 3 8 (S4.1 k (Int32.toNatClampNeg ((44 : Int32) + x2))) S4) (fun x9 S8 => rx_bd (f_X2_answer 3 N 6 S8) (fun x12 S11 => if x12 ≤ 0 then (some (0, S11)) else (some (1, S11))))))
set_option maxHeartbeats 4000000 in
set_option maxRecDepth 20000 in
theorem em_X7_isDaring_32 {d N : Nat} {x2 : Int32} {S0 : rx_S} {zr : Int32} {zS : rx_S} (h : f_X7_isDaring 32 N x2 S0 = some (zr, zS)) : EM gC (d + 2) mX7_isDaring [.ref 80, .ref 32, .int x2] S0 (rx_pi zr zS) := by
  unfold f_X7_isDaring at h
  show EV gC (d + 2) mX7_isDaring 0 [some (.ref 80), some (.ref 32), some (.int x2)] [] S0 (rx_pi zr zS)
  refine ev_aload_n (i := 0) 1 dX7_isDaring_0 rfl rfl rfl ?_
  refine ev_aload_n (i := 1) 2 dX7_isDaring_1 rfl rfl rfl ?_
  refine ev_iload_n (i := 2) 3 dX7_isDaring_2 rfl rfl rfl ?_
  obtain ⟨x5, S4, g6, h⟩ := rx_bd_o h
  refine ev_cVv2 6 dX7_isDaring_3 (em_X7_askAboutThird_32 g6) mm_X7_askAboutThird mv_X7_askAboutThird lk_7_49 dk_80 (by decide) rfl (Nat.le_of_ble_eq_true rfl) (Nat.le_of_ble_eq_true rfl) rfl ?_
  refine ev_aload_n (i := 0) 7 dX7_isDaring_6 rfl rfl rfl ?_
  refine ev_get (v := .ref 3) 10 dX7_isDaring_7 dk_80 fl_7_21 (by decide) rfl rfl rfl ?_
  refine ev_bipush (v := 8) 12 dX7_isDaring_10 (by decide) rfl ?_
  refine ev_aload_n (i := 1) 13 dX7_isDaring_12 rfl rfl rfl ?_
  refine ev_bipush (v := 44) 15 dX7_isDaring_13 (by decide) rfl ?_
  refine ev_iload_n (i := 2) 16 dX7_isDaring_15 rfl rfl rfl ?_
  refine ev_iadd 17 dX7_isDaring_16 rfl ?_
  obtain ⟨g7, h⟩ := rx_gd_o h
  refine ex_iald _ 18 dX7_isDaring_17 dk_32 g7 rfl rfl ?_
  obtain ⟨x9, S8, g10, h⟩ := rx_bd_o h
  refine ev_cVv2 21 dX7_isDaring_18 (em_X2_let_3 g10) mm_X2_let mv_X2_let lk_7_28 dk_3 (by decide) rfl (Nat.le_of_ble_eq_true rfl) (Nat.le_of_ble_eq_true rfl) rfl ?_
  refine ev_aload_n (i := 0) 22 dX7_isDaring_21 rfl rfl rfl ?_
  refine ev_get (v := .ref 3) 25 dX7_isDaring_22 dk_80 fl_7_21 (by decide) rfl rfl rfl ?_
  refine ev_bipush (v := 6) 27 dX7_isDaring_25 (by decide) rfl ?_
  obtain ⟨x12, S11, g13, h⟩ := rx_bd_o h
  refine ev_cVi1 30 dX7_isDaring_27 (em_X2_answer_3 g13) mm_X2_answer mv_X2_answer lk_7_32 dk_3 (by decide) rfl (Nat.le_of_ble_eq_true rfl) (Nat.le_of_ble_eq_true rfl) rfl ?_
  refine ev_if_le 37 33 dX7_isDaring_30 rfl rfl (fun c14 => ?_) (fun c14 => ?_)
  · replace h := rx_if_t c14 h
    refine ev_iconst (v := 0) 38 dX7_isDaring_37 (by decide) rfl ?_
    exact ev_zreturn dX7_isDaring_38 rfl (by decide) (rx_ret_i h)
  · replace h := rx_if_f c14 h
    refine ev_iconst (v := 1) 34 dX7_isDaring_33 (by decide) rfl ?_
    refine ev_goto 38 dX7_isDaring_34 rfl ?_
    exact ev_zreturn dX7_isDaring_38 rfl (by decide) (rx_ret_i h)

set_option maxHeartbeats 4000000 in
set_option maxRecDepth 20000 in
theorem em_X7_isDaring_89 {d N : Nat} {x2 : Int32} {S0 : rx_S} {zr : Int32} {zS : rx_S} (h : f_X7_isDaring 89 N x2 S0 = some (zr, zS)) : EM gC (d + 2) mX7_isDaring [.ref 80, .ref 89, .int x2] S0 (rx_pi zr zS) := by
  unfold f_X7_isDaring at h
  show EV gC (d + 2) mX7_isDaring 0 [some (.ref 80), some (.ref 89), some (.int x2)] [] S0 (rx_pi zr zS)
  refine ev_aload_n (i := 0) 1 dX7_isDaring_0 rfl rfl rfl ?_
  refine ev_aload_n (i := 1) 2 dX7_isDaring_1 rfl rfl rfl ?_
  refine ev_iload_n (i := 2) 3 dX7_isDaring_2 rfl rfl rfl ?_
  obtain ⟨x5, S4, g6, h⟩ := rx_bd_o h
  refine ev_cVv2 6 dX7_isDaring_3 (em_X7_askAboutThird_89 g6) mm_X7_askAboutThird mv_X7_askAboutThird lk_7_49 dk_80 (by decide) rfl (Nat.le_of_ble_eq_true rfl) (Nat.le_of_ble_eq_true rfl) rfl ?_
  refine ev_aload_n (i := 0) 7 dX7_isDaring_6 rfl rfl rfl ?_
  refine ev_get (v := .ref 3) 10 dX7_isDaring_7 dk_80 fl_7_21 (by decide) rfl rfl rfl ?_
  refine ev_bipush (v := 8) 12 dX7_isDaring_10 (by decide) rfl ?_
  refine ev_aload_n (i := 1) 13 dX7_isDaring_12 rfl rfl rfl ?_
  refine ev_bipush (v := 44) 15 dX7_isDaring_13 (by decide) rfl ?_
  refine ev_iload_n (i := 2) 16 dX7_isDaring_15 rfl rfl rfl ?_
  refine ev_iadd 17 dX7_isDaring_16 rfl ?_
  obtain ⟨g7, h⟩ := rx_gd_o h
  refine ex_iald _ 18 dX7_isDaring_17 dk_89 g7 rfl rfl ?_
  obtain ⟨x9, S8, g10, h⟩ := rx_bd_o h
  refine ev_cVv2 21 dX7_isDaring_18 (em_X2_let_3 g10) mm_X2_let mv_X2_let lk_7_28 dk_3 (by decide) rfl (Nat.le_of_ble_eq_true rfl) (Nat.le_of_ble_eq_true rfl) rfl ?_
  refine ev_aload_n (i := 0) 22 dX7_isDaring_21 rfl rfl rfl ?_
  refine ev_get (v := .ref 3) 25 dX7_isDaring_22 dk_80 fl_7_21 (by decide) rfl rfl rfl ?_
  refine ev_bipush (v := 6) 27 dX7_isDaring_25 (by decide) rfl ?_
  obtain ⟨x12, S11, g13, h⟩ := rx_bd_o h
  refine ev_cVi1 30 dX7_isDaring_27 (em_X2_answer_3 g13) mm_X2_answer mv_X2_answer lk_7_32 dk_3 (by decide) rfl (Nat.le_of_ble_eq_true rfl) (Nat.le_of_ble_eq_true rfl) rfl ?_
  refine ev_if_le 37 33 dX7_isDaring_30 rfl rfl (fun c14 => ?_) (fun c14 => ?_)
  · replace h := rx_if_t c14 h
    refine ev_iconst (v := 0) 38 dX7_isDaring_37 (by decide) rfl ?_
    exact ev_zreturn dX7_isDaring_38 rfl (by decide) (rx_ret_i h)
  · replace h := rx_if_f c14 h
    refine ev_iconst (v := 1) 34 dX7_isDaring_33 (by decide) rfl ?_
    refine ev_goto 38 dX7_isDaring_34 rfl ?_
    exact ev_zreturn dX7_isDaring_38 rfl (by decide) (rx_ret_i h)

