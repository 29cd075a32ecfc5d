def f_X9_isDigit (x0 : Int32) (S0 : rx_S) : Option (Int32 × rx_S) := if x0 < 48 then (some (0, S0)) else (if (57 : Int32) < x0 then (some (0, S0)) else (some (1, S0)))
set_option maxHeartbeats 4000000 in
set_option maxRecDepth 20000 in
theorem em_X9_isDigit {d : Nat} {x0 : Int32} {S0 : rx_S} {zr : Int32} {zS : rx_S} (h : f_X9_isDigit x0 S0 = some (zr, zS)) : EM gC d mX9_isDigit [.int x0] S0 (rx_pi zr zS) := by
  unfold f_X9_isDigit at h
  show EV gC d mX9_isDigit 0 [some (.int x0)] [] S0 (rx_pi zr zS)
  refine ev_iload_n (i := 0) 1 dX9_isDigit_0 rfl rfl rfl ?_
  refine ev_bipush (v := 48) 3 dX9_isDigit_1 (by decide) rfl ?_
  refine ev_icmp_lt 16 6 dX9_isDigit_3 rfl rfl (fun c2 => ?_) (fun c2 => ?_)
  · replace h := rx_if_t c2 h
    refine ev_iconst (v := 0) 17 dX9_isDigit_16 (by decide) rfl ?_
    exact ev_zreturn dX9_isDigit_17 rfl (by decide) (rx_ret_i h)
  · replace h := rx_if_f c2 h
    refine ev_iload_n (i := 0) 7 dX9_isDigit_6 rfl rfl rfl ?_
    refine ev_bipush (v := 57) 9 dX9_isDigit_7 (by decide) rfl ?_
    refine ev_icmp_gt 16 12 dX9_isDigit_9 rfl rfl (fun c3 => ?_) (fun c3 => ?_)
    · replace h := rx_if_t c3 h
      refine ev_iconst (v := 0) 17 dX9_isDigit_16 (by decide) rfl ?_
      exact ev_zreturn dX9_isDigit_17 rfl (by decide) (rx_ret_i h)
    · replace h := rx_if_f c3 h
      refine ev_iconst (v := 1) 13 dX9_isDigit_12 (by decide) rfl ?_
      refine ev_goto 17 dX9_isDigit_13 rfl ?_
      exact ev_zreturn dX9_isDigit_17 rfl (by decide) (rx_ret_i h)

def f_X9_tokenEnd_L50 (N : Nat) : Nat → Int32 → Int32 → rx_S → Option (Int32 × rx_S)
  | 0, _, _, _ => none
  | n + 1, x20, x21, S22 => if x20 ≤ x21 then (some (x21, S22)) else (rx_gd x21 2000 (rx_bd (f_X9_isDigit (S22.1 1 (Int32.toNatClampNeg x21)) S22) (fun x26 S25 => if x26 = 0 then (some (x21, S25)) else (rx_let (x21 + 1) (fun x29 => f_X9_tokenEnd_L50 N n x20 x29 S25)))))
def f_X9_tokenEnd_L16 (N : Nat) : Nat → Int32 → Int32 → rx_S → Option (Int32 × rx_S)
  | 0, _, _, _ => none
  | n + 1, x36, x37, S38 => if x36 ≤ x37 then (some (x37, S38)) else (rx_gd x37 2000 (rx_bd (f_X9_isLetter (S38.1 1 (Int32.toNatClampNeg x37)) S38) (fun x42 S41 => if x42 = 0 then (some (x37, S41)) else (rx_let (x37 + 1) (fun x45 => f_X9_tokenEnd_L16 N n x36 x45 S41)))))
def f_X9_tokenEnd (N : Nat) (x1 : Int32) (x2 : Int32) (S0 : rx_S) : Option (Int32 × rx_S) := rx_let (fun (x4 : Int32) (x5 : Int32) (x6 : Int32) (S7 : rx_S) => rx_let (fun (x8 : Int32) (x9 : Int32) (x10 : Int32) (S11 : rx_S) => if x9 ≤ x8 then (some (x10, S11)) else (rx_let (x10 + 1) (fun x13 => some (x13, S11)))) (fun J70_2 => if x5 ≤ x4 then (J70_2 x4 x5 x6 S7) else (rx_gd x4 2000 (rx_bd (f_X9_isDigit (S7.1 1 (Int32.toNatClampNeg x4)) S7) (fun x17 S16 => if x17 = 0 then (J70_2 x4 x5 x6 S16) else (f_X9_tokenEnd_L50 N N x5 x6 S16)))))) (fun J36_1 => if x2 ≤ x1 then (J36_1 x1 x2 x1 S0) else (rx_gd x1 2000 (rx_bd (f_X9_isLetter (S0.1 1 (Int32.toNatClampNeg x1)) S0) (fun x33 S32 => if x33 = 0 then (J36_1 x1 x2 x1 S32) else (f_X9_tokenEnd_L16 N N x2 x1 S32)))))
set_option maxHeartbeats 4000000 in
set_option maxRecDepth 20000 in
theorem em_X9_tokenEnd_L50 {d N : Nat} {zr : Int32} {zS : rx_S} : ∀ (n : Nat) (x20 : Int32) (x21 : Int32) (S22 : rx_S), f_X9_tokenEnd_L50 N n x20 x21 S22 = some (zr, zS) → EV gC (d + 1) mX9_tokenEnd 50 [some (.ref 1), none, some (.int x20), some (.int x21)] [] S22 (rx_pi zr zS) := by
  intro n
  induction n with
  | zero => intro x20 x21 S22 h; cases h
  | succ n ih =>
    intro x20 x21 S22 h
    rw [f_X9_tokenEnd_L50] at h
    refine ev_iload_n (i := 3) 51 dX9_tokenEnd_50 rfl rfl rfl ?_
    refine ev_iload_n (i := 2) 52 dX9_tokenEnd_51 rfl rfl rfl ?_
    refine ev_icmp_ge 78 55 dX9_tokenEnd_52 rfl rfl (fun c23 => ?_) (fun c23 => ?_)
    · replace h := rx_if_t c23 h
      refine ev_iload_n (i := 3) 79 dX9_tokenEnd_78 rfl rfl rfl ?_
      exact ev_ireturn dX9_tokenEnd_79 rfl (rx_ret_i h)
    · replace h := rx_if_f c23 h
      refine ev_aload_n (i := 0) 56 dX9_tokenEnd_55 rfl rfl rfl ?_
      refine ev_iload_n (i := 3) 57 dX9_tokenEnd_56 rfl rfl rfl ?_
      obtain ⟨g24, h⟩ := rx_gd_o h
      refine ex_bald _ 58 dX9_tokenEnd_57 dk_1 g24 rfl rfl ?_
      obtain ⟨x26, S25, g27, h⟩ := rx_bd_o h
      refine ev_cSi1 61 dX9_tokenEnd_58 (em_X9_isDigit g27) mm_X9_isDigit ms_X9_isDigit lk_9_70 (Nat.le_of_ble_eq_true rfl) (Nat.le_of_ble_eq_true rfl) rfl ?_
      refine ev_if_eq 78 64 dX9_tokenEnd_61 rfl rfl (fun c28 => ?_) (fun c28 => ?_)
      · replace h := rx_if_t c28 h
        refine ev_iload_n (i := 3) 79 dX9_tokenEnd_78 rfl rfl rfl ?_
        exact ev_ireturn dX9_tokenEnd_79 rfl (rx_ret_i h)
      · replace h := rx_if_f c28 h
        obtain ⟨x29, ex29, h⟩ := rx_let_o h
        refine ev_iinc (v := x29) (ls' := [some (.ref 1), none, some (.int x20), some (.int x29)]) 67 dX9_tokenEnd_64 rfl (by rw [ex29]; rfl) (Nat.le_of_ble_eq_true rfl) rfl rfl ?_
        refine ev_goto 50 dX9_tokenEnd_67 rfl ?_
        exact (ih _ _ _ h).fewer (rx_le_s (rx_le_n (rx_le_s (rx_le_s rx_le_0))))

set_option maxHeartbeats 4000000 in
set_option maxRecDepth 20000 in
theorem em_X9_tokenEnd_L16 {d N : Nat} {zr : Int32} {zS : rx_S} : ∀ (n : Nat) (x36 : Int32) (x37 : Int32) (S38 : rx_S), f_X9_tokenEnd_L16 N n x36 x37 S38 = some (zr, zS) → EV gC (d + 1) mX9_tokenEnd 16 [some (.ref 1), none, some (.int x36), some (.int x37)] [] S38 (rx_pi zr zS) := by
  intro n
  induction n with
  | zero => intro x36 x37 S38 h; cases h
  | succ n ih =>
    intro x36 x37 S38 h
    rw [f_X9_tokenEnd_L16] at h
    refine ev_iload_n (i := 3) 17 dX9_tokenEnd_16 rfl rfl rfl ?_
    refine ev_iload_n (i := 2) 18 dX9_tokenEnd_17 rfl rfl rfl ?_
    refine ev_icmp_ge 78 21 dX9_tokenEnd_18 rfl rfl (fun c39 => ?_) (fun c39 => ?_)
    · replace h := rx_if_t c39 h
      refine ev_iload_n (i := 3) 79 dX9_tokenEnd_78 rfl rfl rfl ?_
      exact ev_ireturn dX9_tokenEnd_79 rfl (rx_ret_i h)
    · replace h := rx_if_f c39 h
      refine ev_aload_n (i := 0) 22 dX9_tokenEnd_21 rfl rfl rfl ?_
      refine ev_iload_n (i := 3) 23 dX9_tokenEnd_22 rfl rfl rfl ?_
      obtain ⟨g40, h⟩ := rx_gd_o h
      refine ex_bald _ 24 dX9_tokenEnd_23 dk_1 g40 rfl rfl ?_
      obtain ⟨x42, S41, g43, h⟩ := rx_bd_o h
      refine ev_cSi1 27 dX9_tokenEnd_24 (em_X9_isLetter g43) mm_X9_isLetter ms_X9_isLetter lk_9_67 (Nat.le_of_ble_eq_true rfl) (Nat.le_of_ble_eq_true rfl) rfl ?_
      refine ev_if_eq 78 30 dX9_tokenEnd_27 rfl rfl (fun c44 => ?_) (fun c44 => ?_)
      · replace h := rx_if_t c44 h
        refine ev_iload_n (i := 3) 79 dX9_tokenEnd_78 rfl rfl rfl ?_
        exact ev_ireturn dX9_tokenEnd_79 rfl (rx_ret_i h)
      · replace h := rx_if_f c44 h
        obtain ⟨x45, ex45, h⟩ := rx_let_o h
        refine ev_iinc (v := x45) (ls' := [some (.ref 1), none, some (.int x36), some (.int x45)]) 33 dX9_tokenEnd_30 rfl (by rw [ex45]; rfl) (Nat.le_of_ble_eq_true rfl) rfl rfl ?_
        refine ev_goto 16 dX9_tokenEnd_33 rfl ?_
        exact (ih _ _ _ h).fewer (rx_le_s (rx_le_n (rx_le_s (rx_le_s rx_le_0))))

set_option maxHeartbeats 4000000 in
set_option maxRecDepth 20000 in
theorem em_X9_tokenEnd {d N : Nat} {x1 : Int32} {x2 : Int32} {S0 : rx_S} {zr : Int32} {zS : rx_S} (h : f_X9_tokenEnd N x1 x2 S0 = some (zr, zS)) : EM gC (d + 1) mX9_tokenEnd [.ref 1, .int x1, .int x2] S0 (rx_pi zr zS) := by
  unfold f_X9_tokenEnd at h
  show EV gC (d + 1) mX9_tokenEnd 0 [some (.ref 1), some (.int x1), some (.int x2), none] [] S0 (rx_pi zr zS)
  refine ev_iload_n (i := 1) 1 dX9_tokenEnd_0 rfl rfl rfl ?_
  refine ev_istore_n (ls' := [some (.ref 1), some (.int x1), some (.int x2), some (.int x1)]) 2 dX9_tokenEnd_1 rfl (Nat.le_of_ble_eq_true rfl) rfl rfl ?_
  refine ev_iload_n (i := 1) 3 dX9_tokenEnd_2 rfl rfl rfl ?_
  refine ev_iload_n (i := 2) 4 dX9_tokenEnd_3 rfl rfl rfl ?_
  obtain ⟨J36_1, eJ36_1, h⟩ := rx_let_o h
  have hJ36_1 : ∀ (x4 : Int32) (x5 : Int32) (x6 : Int32) (S7 : rx_S), J36_1 x4 x5 x6 S7 = some (zr, zS) → EV gC (d + 1) mX9_tokenEnd 36 [some (.ref 1), some (.int x4), some (.int x5), some (.int x6)] [] S7 (rx_pi zr zS) := by
    intro x4 x5 x6 S7 h
    subst eJ36_1
    refine ev_iload_n (i := 1) 37 dX9_tokenEnd_36 rfl rfl rfl ?_
    refine ev_iload_n (i := 2) 38 dX9_tokenEnd_37 rfl rfl rfl ?_
    obtain ⟨J70_2, eJ70_2, h⟩ := rx_let_o h
    have hJ70_2 : ∀ (x8 : Int32) (x9 : Int32) (x10 : Int32) (S11 : rx_S), J70_2 x8 x9 x10 S11 = some (zr, zS) → EV gC (d + 1) mX9_tokenEnd 70 [some (.ref 1), some (.int x8), some (.int x9), some (.int x10)] [] S11 (rx_pi zr zS) := by
      intro x8 x9 x10 S11 h
      subst eJ70_2
      refine ev_iload_n (i := 1) 71 dX9_tokenEnd_70 rfl rfl rfl ?_
      refine ev_iload_n (i := 2) 72 dX9_tokenEnd_71 rfl rfl rfl ?_
      refine ev_icmp_ge 78 75 dX9_tokenEnd_72 rfl rfl (fun c12 => ?_) (fun c12 => ?_)
      · replace h := rx_if_t c12 h
        refine ev_iload_n (i := 3) 79 dX9_tokenEnd_78 rfl rfl rfl ?_
        exact ev_ireturn dX9_tokenEnd_79 rfl (rx_ret_i h)
      · replace h := rx_if_f c12 h
        obtain ⟨x13, ex13, h⟩ := rx_let_o h
        refine ev_iinc (v := x13) (ls' := [some (.ref 1), some (.int x8), some (.int x9), some (.int x13)]) 78 dX9_tokenEnd_75 rfl (by rw [ex13]; rfl) (Nat.le_of_ble_eq_true rfl) rfl rfl ?_
        refine ev_iload_n (i := 3) 79 dX9_tokenEnd_78 rfl rfl rfl ?_
        exact ev_ireturn dX9_tokenEnd_79 rfl (rx_ret_i h)
    refine ev_icmp_ge 70 41 dX9_tokenEnd_38 rfl rfl (fun c14 => ?_) (fun c14 => ?_)
    · replace h := rx_if_t c14 h
      exact (hJ70_2 _ _ _ _ h).fewer (rx_le_s (rx_le_s (rx_le_s (rx_le_s rx_le_0))))
    · replace h := rx_if_f c14 h
      refine ev_aload_n (i := 0) 42 dX9_tokenEnd_41 rfl rfl rfl ?_
      refine ev_iload_n (i := 1) 43 dX9_tokenEnd_42 rfl rfl rfl ?_
      obtain ⟨g15, h⟩ := rx_gd_o h
      refine ex_bald _ 44 dX9_tokenEnd_43 dk_1 g15 rfl rfl ?_
      obtain ⟨x17, S16, g18, h⟩ := rx_bd_o h
      refine ev_cSi1 47 dX9_tokenEnd_44 (em_X9_isDigit g18) mm_X9_isDigit ms_X9_isDigit lk_9_70 (Nat.le_of_ble_eq_true rfl) (Nat.le_of_ble_eq_true rfl) rfl ?_
      refine ev_if_eq 70 50 dX9_tokenEnd_47 rfl rfl (fun c19 => ?_) (fun c19 => ?_)
      · replace h := rx_if_t c19 h
        exact (hJ70_2 _ _ _ _ h).fewer (rx_le_s (rx_le_s (rx_le_s (rx_le_s rx_le_0))))
      · replace h := rx_if_f c19 h
        exact (em_X9_tokenEnd_L50 _ _ _ _ h).fewer (rx_le_s (rx_le_n (rx_le_s (rx_le_s rx_le_0))))
  refine ev_icmp_ge 36 7 dX9_tokenEnd_4 rfl rfl (fun c30 => ?_) (fun c30 => ?_)
  · replace h := rx_if_t c30 h
    exact (hJ36_1 _ _ _ _ h).fewer (rx_le_s (rx_le_s (rx_le_s (rx_le_s rx_le_0))))
  · replace h := rx_if_f c30 h
    refine ev_aload_n (i := 0) 8 dX9_tokenEnd_7 rfl rfl rfl ?_
    refine ev_iload_n (i := 1) 9 dX9_tokenEnd_8 rfl rfl rfl ?_
    obtain ⟨g31, h⟩ := rx_gd_o h
    refine ex_bald _ 10 dX9_tokenEnd_9 dk_1 g31 rfl rfl ?_
    obtain ⟨x33, S32, g34, h⟩ := rx_bd_o h
    refine ev_cSi1 13 dX9_tokenEnd_10 (em_X9_isLetter g34) mm_X9_isLetter ms_X9_isLetter lk_9_67 (Nat.le_of_ble_eq_true rfl) (Nat.le_of_ble_eq_true rfl) rfl ?_
    refine ev_if_eq 36 16 dX9_tokenEnd_13 rfl rfl (fun c35 => ?_) (fun c35 => ?_)
    · replace h := rx_if_t c35 h
      exact (hJ36_1 _ _ _ _ h).fewer (rx_le_s (rx_le_s (rx_le_s (rx_le_s rx_le_0))))
    · replace h := rx_if_f c35 h
      exact (em_X9_tokenEnd_L16 _ _ _ _ h).fewer (rx_le_s (rx_le_n (rx_le_s (rx_le_s rx_le_0))))

def f_X9_wordKind_L43 (N : Nat) : Nat → Int64 → Int32 → rx_S → Option (Int32 × rx_S)
  | 0, _, _, _ => none
  | n + 1, x9, x10, S11 => if (24 : Int32) ≤ x10 then (some (2, S11)) else (rx_gd x10 24 (if (lg_cmp (S11.2 15 (Int32.toNatClampNeg x10)) x9) = 0 then (some (((128 : Int32) + x10), S11)) else (rx_let (x10 + 1) (fun x15 => f_X9_wordKind_L43 N n x9 x15 S11))))
def f_X9_wordKind_L6 (N : Nat) (K29 : Int64 → rx_S → Option (Int32 × rx_S)) : Nat → Int32 → Int64 → Int32 → rx_S → Option (Int32 × rx_S)
  | 0, _, _, _, _ => none
  | n + 1, x16, x17, x18, S19 => if x16 ≤ x18 then (K29 x17 S19) else (rx_gd x18 2000 (rx_bd (f_X9_withLetter x17 (S19.1 1 (Int32.toNatClampNeg x18)) S19) (fun x25 S24 => rx_let (x18 + 1) (fun x27 => f_X9_wordKind_L6 N K29 n x16 x25 x27 S24))))
def f_X9_wordKind (N : Nat) (x2 : Int32) (x3 : Int32) (S0 : rx_S) : Option (Int32 × rx_S) := rx_let (fun (x5 : Int64) (S6 : rx_S) => rx_gd (S6.1 14 4) 401 (rx_let (rx_uj S6 18 (Int32.toNatClampNeg (S6.1 14 4)) x5) (fun S8 => f_X9_wordKind_L43 N N x5 0 S8))) (fun J29_1 => f_X9_wordKind_L6 N J29_1 N x3 (0 : Int64) x2 S0)
set_option maxHeartbeats 4000000 in
set_option maxRecDepth 20000 in
theorem em_X9_wordKind_L43 {d N : Nat} {zr : Int32} {zS : rx_S} : ∀ (n : Nat) (x9 : Int64) (x10 : Int32) (S11 : rx_S), f_X9_wordKind_L43 N n x9 x10 S11 = some (zr, zS) → EV gC (d + 1) mX9_wordKind 43 [some (.ref 14), some (.ref 1), none, none, some (.long x9), none, some (.int x10)] [] S11 (rx_pi zr zS) := by
  intro n
  induction n with
  | zero => intro x9 x10 S11 h; cases h
  | succ n ih =>
    intro x9 x10 S11 h
    rw [f_X9_wordKind_L43] at h
    refine ev_iload 45 dX9_wordKind_43 rfl rfl ?_
    refine ev_bipush (v := 24) 47 dX9_wordKind_45 (by decide) rfl ?_
    refine ev_icmp_ge 76 50 dX9_wordKind_47 rfl rfl (fun c12 => ?_) (fun c12 => ?_)
    · replace h := rx_if_t c12 h
      refine ev_iconst (v := 2) 77 dX9_wordKind_76 (by decide) rfl ?_
      exact ev_ireturn dX9_wordKind_77 rfl (rx_ret_i h)
    · replace h := rx_if_f c12 h
      refine ev_aload_n (i := 0) 51 dX9_wordKind_50 rfl rfl rfl ?_
      refine ev_get (v := .ref 15) 54 dX9_wordKind_51 dk_14 fl_9_9 (by decide) rfl rfl rfl ?_
      refine ev_iload 56 dX9_wordKind_54 rfl rfl ?_
      obtain ⟨g13, h⟩ := rx_gd_o h
      refine ex_lald _ 57 dX9_wordKind_56 dk_15 g13 rfl rfl ?_
      refine ev_lload 59 dX9_wordKind_57 rfl rfl ?_
      refine ev_lcmp 60 dX9_wordKind_59 rfl ?_
      refine ev_if_ne 70 63 dX9_wordKind_60 rfl rfl (fun c14 => ?_) (fun c14 => ?_)
      · replace h := rx_if_f c14 h
        obtain ⟨x15, ex15, h⟩ := rx_let_o h
        refine ev_iinc (v := x15) (ls' := [some (.ref 14), some (.ref 1), none, none, some (.long x9), none, some (.int x15)]) 73 dX9_wordKind_70 rfl (by rw [ex15]; rfl) (Nat.le_of_ble_eq_true rfl) rfl rfl ?_
        refine ev_goto 43 dX9_wordKind_73 rfl ?_
        exact (ih _ _ _ h).fewer (rx_le_s (rx_le_s (rx_le_n (rx_le_n (rx_le_s (rx_le_n (rx_le_s rx_le_0)))))))
      · replace h := rx_if_t c14 h
        refine ev_sipush (v := 128) 66 dX9_wordKind_63 (by decide) rfl ?_
        refine ev_iload 68 dX9_wordKind_66 rfl rfl ?_
        refine ev_iadd 69 dX9_wordKind_68 rfl ?_
        exact ev_ireturn dX9_wordKind_69 rfl (rx_ret_i h)

set_option maxHeartbeats 4000000 in
set_option maxRecDepth 20000 in
theorem em_X9_wordKind_L6 {d N : Nat} {K29 : Int64 → rx_S → Option (Int32 × rx_S)} {zr : Int32} {zS : rx_S} (hK29 : ∀ (x20 : Int64) (S21 : rx_S), K29 x20 S21 = some (zr, zS) → EV gC (d + 1) mX9_wordKind 29 [some (.ref 14), some (.ref 1), none, none, some (.long x20), none, none] [] S21 (rx_pi zr zS)) : ∀ (n : Nat) (x16 : Int32) (x17 : Int64) (x18 : Int32) (S19 : rx_S), f_X9_wordKind_L6 N K29 n x16 x17 x18 S19 = some (zr, zS) → EV gC (d + 1) mX9_wordKind 6 [some (.ref 14), some (.ref 1), none, some (.int x16), some (.long x17), none, some (.int x18)] [] S19 (rx_pi zr zS) := by
  intro n
  induction n with
  | zero => intro x16 x17 x18 S19 h; cases h
  | succ n ih =>
    intro x16 x17 x18 S19 h
    rw [f_X9_wordKind_L6] at h
    refine ev_iload 8 dX9_wordKind_6 rfl rfl ?_
    refine ev_iload_n (i := 3) 9 dX9_wordKind_8 rfl rfl rfl ?_
    refine ev_icmp_ge 29 12 dX9_wordKind_9 rfl rfl (fun c22 => ?_) (fun c22 => ?_)
    · replace h := rx_if_t c22 h
      exact (hK29 _ _ h).fewer (rx_le_s (rx_le_s (rx_le_n (rx_le_n (rx_le_s (rx_le_n (rx_le_n rx_le_0)))))))
    · replace h := rx_if_f c22 h
      refine ev_lload 14 dX9_wordKind_12 rfl rfl ?_
      refine ev_aload_n (i := 1) 15 dX9_wordKind_14 rfl rfl rfl ?_
      refine ev_iload 17 dX9_wordKind_15 rfl rfl ?_
      obtain ⟨g23, h⟩ := rx_gd_o h
      refine ex_bald _ 18 dX9_wordKind_17 dk_1 g23 rfl rfl ?_
      obtain ⟨x25, S24, g26, h⟩ := rx_bd_o h
      refine ev_cSl2 21 dX9_wordKind_18 (em_X9_withLetter g26) mm_X9_withLetter ms_X9_withLetter lk_9_37 (Nat.le_of_ble_eq_true rfl) (Nat.le_of_ble_eq_true rfl) rfl ?_
      refine ev_lstore (ls' := [some (.ref 14), some (.ref 1), none, some (.int x16), some (.long x25), none, some (.int x18)]) 23 dX9_wordKind_21 (Nat.le_of_ble_eq_true rfl) rfl rfl ?_
      obtain ⟨x27, ex27, h⟩ := rx_let_o h
      refine ev_iinc (v := x27) (ls' := [some (.ref 14), some (.ref 1), none, some (.int x16), some (.long x25), none, some (.int x27)]) 26 dX9_wordKind_23 rfl (by rw [ex27]; rfl) (Nat.le_of_ble_eq_true rfl) rfl rfl ?_
      refine ev_goto 6 dX9_wordKind_26 rfl ?_
      exact (ih _ _ _ _ h).fewer (rx_le_s (rx_le_s (rx_le_n (rx_le_s (rx_le_s (rx_le_n (rx_le_s rx_le_0)))))))

set_option maxHeartbeats 4000000 in
set_option maxRecDepth 20000 in
theorem em_X9_wordKind {d N : Nat} {x2 : Int32} {x3 : Int32} {S0 : rx_S} {zr : Int32} {zS : rx_S} (h : f_X9_wordKind N x2 x3 S0 = some (zr, zS)) : EM gC (d + 1) mX9_wordKind [.ref 14, .ref 1, .int x2, .int x3] S0 (rx_pi zr zS) := by
  unfold f_X9_wordKind at h
  show EV gC (d + 1) mX9_wordKind 0 [some (.ref 14), some (.ref 1), some (.int x2), some (.int x3), none, none, none] [] S0 (rx_pi zr zS)
  refine ev_lconst (v := 0) 1 dX9_wordKind_0 (by decide) rfl ?_
  refine ev_lstore (ls' := [some (.ref 14), some (.ref 1), some (.int x2), some (.int x3), some (.long (0 : Int64)), none, none]) 3 dX9_wordKind_1 (Nat.le_of_ble_eq_true rfl) rfl rfl ?_
  refine ev_iload_n (i := 2) 4 dX9_wordKind_3 rfl rfl rfl ?_
  refine ev_istore (ls' := [some (.ref 14), some (.ref 1), some (.int x2), some (.int x3), some (.long (0 : Int64)), none, some (.int x2)]) 6 dX9_wordKind_4 (Nat.le_of_ble_eq_true rfl) rfl rfl ?_
  obtain ⟨J29_1, eJ29_1, h⟩ := rx_let_o h
  have hJ29_1 : ∀ (x5 : Int64) (S6 : rx_S), J29_1 x5 S6 = some (zr, zS) → EV gC (d + 1) mX9_wordKind 29 [some (.ref 14), some (.ref 1), none, none, some (.long x5), none, none] [] S6 (rx_pi zr zS) := by
    intro x5 S6 h
    subst eJ29_1
    refine ev_aload_n (i := 0) 30 dX9_wordKind_29 rfl rfl rfl ?_
    refine ev_get (v := .ref 18) 33 dX9_wordKind_30 dk_14 fl_9_22 (by decide) rfl rfl rfl ?_
    refine ev_aload_n (i := 0) 34 dX9_wordKind_33 rfl rfl rfl ?_
    refine ev_get (v := .int (S6.1 14 4)) 37 dX9_wordKind_34 dk_14 fl_9_49 (by decide) rfl rfl rfl ?_
    refine ev_lload 39 dX9_wordKind_37 rfl rfl ?_
    obtain ⟨g7, h⟩ := rx_gd_o h
    obtain ⟨S8, eS8, h⟩ := rx_let_o h
    refine ex_last _ 40 dX9_wordKind_39 dk_18 g7 rfl rfl eS8 ?_
    refine ev_iconst (v := 0) 41 dX9_wordKind_40 (by decide) rfl ?_
    refine ev_istore (ls' := [some (.ref 14), some (.ref 1), none, none, some (.long x5), none, some (.int 0)]) 43 dX9_wordKind_41 (Nat.le_of_ble_eq_true rfl) rfl rfl ?_
    exact (em_X9_wordKind_L43 _ _ _ _ h).fewer (rx_le_s (rx_le_s (rx_le_n (rx_le_n (rx_le_s (rx_le_n (rx_le_s rx_le_0)))))))
  exact (em_X9_wordKind_L6 hJ29_1 _ _ _ _ _ h).fewer (rx_le_s (rx_le_s (rx_le_n (rx_le_s (rx_le_s (rx_le_n (rx_le_s rx_le_0)))))))

def f_X9_numberKind_L6 (N : Nat) (K33 : Int32 → rx_S → Option (Int32 × rx_S)) : Nat → Int32 → Int32 → Int32 → rx_S → Option (Int32 × rx_S)
  | 0, _, _, _, _ => none
  | n + 1, x9, x10, x11, S12 => if x9 ≤ x11 then (K33 x10 S12) else (rx_gd x11 2000 (rx_let ((x10 * 10) + ((S12.1 1 (Int32.toNatClampNeg x11)) - 48)) (fun x17 => rx_let (x11 + 1) (fun x18 => f_X9_numberKind_L6 N K33 n x9 x17 x18 S12))))
def f_X9_numberKind (N : Nat) (x2 : Int32) (x3 : Int32) (S0 : rx_S) : Option (Int32 × rx_S) := rx_let (fun (x5 : Int32) (S6 : rx_S) => rx_gd (S6.1 14 4) 401 (rx_let (rx_uj S6 18 (Int32.toNatClampNeg (S6.1 14 4)) (Int32.toInt64 x5)) (fun S8 => some (3, S8)))) (fun J33_1 => f_X9_numberKind_L6 N J33_1 N x3 0 x2 S0)
set_option maxHeartbeats 4000000 in
set_option maxRecDepth 20000 in
theorem em_X9_numberKind_L6 {d N : Nat} {K33 : Int32 → rx_S → Option (Int32 × rx_S)} {zr : Int32} {zS : rx_S} (hK33 : ∀ (x13 : Int32) (S14 : rx_S), K33 x13 S14 = some (zr, zS) → EV gC d mX9_numberKind 33 [some (.ref 14), some (.ref 1), none, none, some (.int x13), none] [] S14 (rx_pi zr zS)) : ∀ (n : Nat) (x9 : Int32) (x10 : Int32) (x11 : Int32) (S12 : rx_S), f_X9_numberKind_L6 N K33 n x9 x10 x11 S12 = some (zr, zS) → EV gC d mX9_numberKind 6 [some (.ref 14), some (.ref 1), none, some (.int x9), some (.int x10), some (.int x11)] [] S12 (rx_pi zr zS) := by
  intro n
  induction n with
  | zero => intro x9 x10 x11 S12 h; cases h
  | succ n ih =>
    intro x9 x10 x11 S12 h
    rw [f_X9_numberKind_L6] at h
    refine ev_iload 8 dX9_numberKind_6 rfl rfl ?_
    refine ev_iload_n (i := 3) 9 dX9_numberKind_8 rfl rfl rfl ?_
    refine ev_icmp_ge 33 12 dX9_numberKind_9 rfl rfl (fun c15 => ?_) (fun c15 => ?_)
    · replace h := rx_if_t c15 h
      exact (hK33 _ _ h).fewer (rx_le_s (rx_le_s (rx_le_n (rx_le_n (rx_le_s (rx_le_n rx_le_0))))))
    · replace h := rx_if_f c15 h
      refine ev_iload 14 dX9_numberKind_12 rfl rfl ?_
      refine ev_bipush (v := 10) 16 dX9_numberKind_14 (by decide) rfl ?_
      refine ev_imul 17 dX9_numberKind_16 rfl ?_
      refine ev_aload_n (i := 1) 18 dX9_numberKind_17 rfl rfl rfl ?_
      refine ev_iload 20 dX9_numberKind_18 rfl rfl ?_
      obtain ⟨g16, h⟩ := rx_gd_o h
      refine ex_bald _ 21 dX9_numberKind_20 dk_1 g16 rfl rfl ?_
      refine ev_bipush (v := 48) 23 dX9_numberKind_21 (by decide) rfl ?_
      refine ev_isub 24 dX9_numberKind_23 rfl ?_
      refine ev_iadd 25 dX9_numberKind_24 rfl ?_
      obtain ⟨x17, ex17, h⟩ := rx_let_o h
      refine ev_nm ex17 ?_
      refine ev_istore (ls' := [some (.ref 14), some (.ref 1), none, some (.int x9), some (.int x17), some (.int x11)]) 27 dX9_numberKind_25 (Nat.le_of_ble_eq_true rfl) rfl rfl ?_
      obtain ⟨x18, ex18, h⟩ := rx_let_o h
      refine ev_iinc (v := x18) (ls' := [some (.ref 14), some (.ref 1), none, some (.int x9), some (.int x17), some (.int x18)]) 30 dX9_numberKind_27 rfl (by rw [ex18]; rfl) (Nat.le_of_ble_eq_true rfl) rfl rfl ?_
      refine ev_goto 6 dX9_numberKind_30 rfl ?_
      exact (ih _ _ _ _ h).fewer (rx_le_s (rx_le_s (rx_le_n (rx_le_s (rx_le_s (rx_le_s rx_le_0))))))

set_option maxHeartbeats 4000000 in
set_option maxRecDepth 20000 in
theorem em_X9_numberKind {d N : Nat} {x2 : Int32} {x3 : Int32} {S0 : rx_S} {zr : Int32} {zS : rx_S} (h : f_X9_numberKind N x2 x3 S0 = some (zr, zS)) : EM gC d mX9_numberKind [.ref 14, .ref 1, .int x2, .int x3] S0 (rx_pi zr zS) := by
  unfold f_X9_numberKind at h
  show EV gC d mX9_numberKind 0 [some (.ref 14), some (.ref 1), some (.int x2), some (.int x3), none, none] [] S0 (rx_pi zr zS)
  refine ev_iconst (v := 0) 1 dX9_numberKind_0 (by decide) rfl ?_
  refine ev_istore (ls' := [some (.ref 14), some (.ref 1), some (.int x2), some (.int x3), some (.int 0), none]) 3 dX9_numberKind_1 (Nat.le_of_ble_eq_true rfl) rfl rfl ?_
  refine ev_iload_n (i := 2) 4 dX9_numberKind_3 rfl rfl rfl ?_
  refine ev_istore (ls' := [some (.ref 14), some (.ref 1), some (.int x2), some (.int x3), some (.int 0), some (.int x2)]) 6 dX9_numberKind_4 (Nat.le_of_ble_eq_true rfl) rfl rfl ?_
  obtain ⟨J33_1, eJ33_1, h⟩ := rx_let_o h
  have hJ33_1 : ∀ (x5 : Int32) (S6 : rx_S), J33_1 x5 S6 = some (zr, zS) → EV gC d mX9_numberKind 33 [some (.ref 14), some (.ref 1), none, none, some (.int x5), none] [] S6 (rx_pi zr zS) := by
    intro x5 S6 h
    subst eJ33_1
    refine ev_aload_n (i := 0) 34 dX9_numberKind_33 rfl rfl rfl ?_
    refine ev_get (v := .ref 18) 37 dX9_numberKind_34 dk_14 fl_9_22 (by decide) rfl rfl rfl ?_
    refine ev_aload_n (i := 0) 38 dX9_numberKind_37 rfl rfl rfl ?_
    refine ev_get (v := .int (S6.1 14 4)) 41 dX9_numberKind_38 dk_14 fl_9_49 (by decide) rfl rfl rfl ?_
    refine ev_iload 43 dX9_numberKind_41 rfl rfl ?_
    refine ev_i2l 44 dX9_numberKind_43 rfl ?_
    obtain ⟨g7, h⟩ := rx_gd_o h
    obtain ⟨S8, eS8, h⟩ := rx_let_o h
    refine ex_last _ 45 dX9_numberKind_44 dk_18 g7 rfl rfl eS8 ?_
    refine ev_iconst (v := 3) 46 dX9_numberKind_45 (by decide) rfl ?_
    exact ev_ireturn dX9_numberKind_46 rfl (rx_ret_i h)
  exact (em_X9_numberKind_L6 hJ33_1 _ _ _ _ _ h).fewer (rx_le_s (rx_le_s (rx_le_n (rx_le_s (rx_le_s (rx_le_s rx_le_0))))))

def f_X10_addBytes_L3 (N : Nat) : Nat → Int32 → Int32 → rx_S → Option (Unit × rx_S)
  | 0, _, _, _ => none
  | n + 1, x3, x4, S5 => if x4 < 0 then (some ((), S5)) else (if (S5.1 0 1) < 0 then (rx_let (x4 + (-8)) (fun x8 => f_X10_addBytes_L3 N n x3 x8 S5)) else (if (2000 : Int32) ≤ (S5.1 0 1) then (rx_let (x4 + (-8)) (fun x10 => f_X10_addBytes_L3 N n x3 x10 S5)) else (rx_gd (S5.1 0 1) 2000 (rx_let (rx_ui S5 1 (Int32.toNatClampNeg (S5.1 0 1)) (vp_nar .byte (rx_i2b (rx_ushr x3 x4)))) (fun S12 => rx_let (rx_ui S12 0 1 ((S12.1 0 1) + 1)) (fun S13 => rx_let (x4 + (-8)) (fun x14 => f_X10_addBytes_L3 N n x3 x14 S13)))))))
def f_X10_addBytes (N : Nat) (x1 : Int32) (S0 : rx_S) : Option (Unit × rx_S) := f_X10_addBytes_L3 N N x1 24 S0
set_option maxHeartbeats 4000000 in
set_option maxRecDepth 20000 in
theorem em_X10_addBytes_L3 {d N : Nat} {zr : Unit} {zS : rx_S} : ∀ (n : Nat) (x3 : Int32) (x4 : Int32) (S5 : rx_S), f_X10_addBytes_L3 N n x3 x4 S5 = some (zr, zS) → EV gC d mX10_addBytes 3 [some (.ref 0), some (.int x3), some (.int x4)] [] S5 (rx_pv zS) := by
  intro n
  induction n with
  | zero => intro x3 x4 S5 h; cases h
  | succ n ih =>
    intro x3 x4 S5 h
    rw [f_X10_addBytes_L3] at h
    refine ev_iload_n (i := 2) 4 dX10_addBytes_3 rfl rfl rfl ?_
    refine ev_if_lt 53 7 dX10_addBytes_4 rfl rfl (fun c6 => ?_) (fun c6 => ?_)
    · replace h := rx_if_t c6 h
      exact ev_return dX10_addBytes_53 rfl (rx_ret_v h)
    · replace h := rx_if_f c6 h
      refine ev_aload_n (i := 0) 8 dX10_addBytes_7 rfl rfl rfl ?_
      refine ev_get (v := .int (S5.1 0 1)) 11 dX10_addBytes_8 dk_0 fl_10_81 (by decide) rfl rfl rfl ?_
      refine ev_if_lt 47 14 dX10_addBytes_11 rfl rfl (fun c7 => ?_) (fun c7 => ?_)
      · replace h := rx_if_t c7 h
        obtain ⟨x8, ex8, h⟩ := rx_let_o h
        refine ev_iinc (v := x8) (ls' := [some (.ref 0), some (.int x3), some (.int x8)]) 50 dX10_addBytes_47 rfl (by rw [ex8]; rfl) (Nat.le_of_ble_eq_true rfl) rfl rfl ?_
        refine ev_goto 3 dX10_addBytes_50 rfl ?_
        exact (ih _ _ _ h).fewer (rx_le_s (rx_le_s (rx_le_s rx_le_0)))
      · replace h := rx_if_f c7 h
        refine ev_aload_n (i := 0) 15 dX10_addBytes_14 rfl rfl rfl ?_
        refine ev_get (v := .int (S5.1 0 1)) 18 dX10_addBytes_15 dk_0 fl_10_81 (by decide) rfl rfl rfl ?_
        refine ev_sipush (v := 2000) 21 dX10_addBytes_18 (by decide) rfl ?_
        refine ev_icmp_ge 47 24 dX10_addBytes_21 rfl rfl (fun c9 => ?_) (fun c9 => ?_)
        · replace h := rx_if_t c9 h
          obtain ⟨x10, ex10, h⟩ := rx_let_o h
          refine ev_iinc (v := x10) (ls' := [some (.ref 0), some (.int x3), some (.int x10)]) 50 dX10_addBytes_47 rfl (by rw [ex10]; rfl) (Nat.le_of_ble_eq_true rfl) rfl rfl ?_
          refine ev_goto 3 dX10_addBytes_50 rfl ?_
          exact (ih _ _ _ h).fewer (rx_le_s (rx_le_s (rx_le_s rx_le_0)))
        · replace h := rx_if_f c9 h
          refine ev_aload_n (i := 0) 25 dX10_addBytes_24 rfl rfl rfl ?_
          refine ev_get (v := .ref 1) 28 dX10_addBytes_25 dk_0 fl_10_9 (by decide) rfl rfl rfl ?_
          refine ev_aload_n (i := 0) 29 dX10_addBytes_28 rfl rfl rfl ?_
          refine ev_get (v := .int (S5.1 0 1)) 32 dX10_addBytes_29 dk_0 fl_10_81 (by decide) rfl rfl rfl ?_
          refine ev_iload_n (i := 1) 33 dX10_addBytes_32 rfl rfl rfl ?_
          refine ev_iload_n (i := 2) 34 dX10_addBytes_33 rfl rfl rfl ?_
          refine ev_ushr 35 dX10_addBytes_34 rfl ?_
          refine ev_tob 36 dX10_addBytes_35 rfl ?_
          obtain ⟨g11, h⟩ := rx_gd_o h
          obtain ⟨S12, eS12, h⟩ := rx_let_o h
          refine ex_bast _ 37 dX10_addBytes_36 dk_1 g11 rfl rfl eS12 ?_
          refine ev_aload_n (i := 0) 38 dX10_addBytes_37 rfl rfl rfl ?_
          refine ev_dup 39 dX10_addBytes_38 rfl rfl ?_
          refine ev_get (v := .int (S12.1 0 1)) 42 dX10_addBytes_39 dk_0 fl_10_81 (by decide) rfl rfl rfl ?_
          refine ev_iconst (v := 1) 43 dX10_addBytes_42 (by decide) rfl ?_
          refine ev_iadd 44 dX10_addBytes_43 rfl ?_
          obtain ⟨S13, eS13, h⟩ := rx_let_o h
          refine ex_put 47 dX10_addBytes_44 dk_0 fl_10_81 pp_10_1 (by decide) rfl rfl rfl rfl eS13 ?_
          obtain ⟨x14, ex14, h⟩ := rx_let_o h
          refine ev_iinc (v := x14) (ls' := [some (.ref 0), some (.int x3), some (.int x14)]) 50 dX10_addBytes_47 rfl (by rw [ex14]; rfl) (Nat.le_of_ble_eq_true rfl) rfl rfl ?_
          refine ev_goto 3 dX10_addBytes_50 rfl ?_
          exact (ih _ _ _ h).fewer (rx_le_s (rx_le_s (rx_le_s rx_le_0)))

set_option maxHeartbeats 4000000 in
set_option maxRecDepth 20000 in
theorem em_X10_addBytes {d N : Nat} {x1 : Int32} {S0 : rx_S} {zr : Unit} {zS : rx_S} (h : f_X10_addBytes N x1 S0 = some (zr, zS)) : EM gC d mX10_addBytes [.ref 0, .int x1] S0 (rx_pv zS) := by
  unfold f_X10_addBytes at h
  show EV gC d mX10_addBytes 0 [some (.ref 0), some (.int x1), none] [] S0 (rx_pv zS)
  refine ev_bipush (v := 24) 2 dX10_addBytes_0 (by decide) rfl ?_
  refine ev_istore_n (ls' := [some (.ref 0), some (.int x1), some (.int 24)]) 3 dX10_addBytes_2 rfl (Nat.le_of_ble_eq_true rfl) rfl rfl ?_
  exact (em_X10_addBytes_L3 _ _ _ _ h).fewer (rx_le_s (rx_le_s (rx_le_s rx_le_0)))

def f_X10_feed (N : Nat) (x1 : Int32) (x2 : Int32) (x3 : Int32) (x4 : Int32) (x5 : Int32) (S0 : rx_S) : Option (Int32 × rx_S) := if (S0.1 0 1) ≤ 1980 then (rx_bd (f_X10_addBytes N x1 S0) (fun x9 S8 => rx_bd (f_X10_addBytes N x2 S8) (fun x12 S11 => rx_bd (f_X10_addBytes N x3 S11) (fun x15 S14 => rx_bd (f_X10_addBytes N x4 S14) (fun x18 S17 => rx_bd (f_X10_addBytes N x5 S17) (fun x21 S20 => some ((S20.1 0 1), S20))))))) else (some ((-1), S0))
set_option maxHeartbeats 4000000 in
set_option maxRecDepth 20000 in
theorem em_X10_feed {d N : Nat} {x1 : Int32} {x2 : Int32} {x3 : Int32} {x4 : Int32} {x5 : Int32} {S0 : rx_S} {zr : Int32} {zS : rx_S} (h : f_X10_feed N x1 x2 x3 x4 x5 S0 = some (zr, zS)) : EM gC (d + 1) mX10_feed [.ref 0, .int x1, .int x2, .int x3, .int x4, .int x5] S0 (rx_pi zr zS) := by
  unfold f_X10_feed at h
  show EV gC (d + 1) mX10_feed 0 [some (.ref 0), some (.int x1), some (.int x2), some (.int x3), some (.int x4), some (.int x5)] [] S0 (rx_pi zr zS)
  refine ev_aload_n (i := 0) 1 dX10_feed_0 rfl rfl rfl ?_
  refine ev_get (v := .int (S0.1 0 1)) 4 dX10_feed_1 dk_0 fl_10_81 (by decide) rfl rfl rfl ?_
  refine ev_sipush (v := 1980) 7 dX10_feed_4 (by decide) rfl ?_
  refine ev_icmp_le 12 10 dX10_feed_7 rfl rfl (fun c7 => ?_) (fun c7 => ?_)
  · replace h := rx_if_t c7 h
    refine ev_aload_n (i := 0) 13 dX10_feed_12 rfl rfl rfl ?_
    refine ev_iload_n (i := 1) 14 dX10_feed_13 rfl rfl rfl ?_
    obtain ⟨x9, S8, g10, h⟩ := rx_bd_o h
    refine ev_cVv1 17 dX10_feed_14 (em_X10_addBytes g10) mm_X10_addBytes mv_X10_addBytes lk_10_84 dk_0 (by decide) rfl (Nat.le_of_ble_eq_true rfl) (Nat.le_of_ble_eq_true rfl) rfl ?_
    refine ev_aload_n (i := 0) 18 dX10_feed_17 rfl rfl rfl ?_
    refine ev_iload_n (i := 2) 19 dX10_feed_18 rfl rfl rfl ?_
    obtain ⟨x12, S11, g13, h⟩ := rx_bd_o h
    refine ev_cVv1 22 dX10_feed_19 (em_X10_addBytes g13) mm_X10_addBytes mv_X10_addBytes lk_10_84 dk_0 (by decide) rfl (Nat.le_of_ble_eq_true rfl) (Nat.le_of_ble_eq_true rfl) rfl ?_
    refine ev_aload_n (i := 0) 23 dX10_feed_22 rfl rfl rfl ?_
    refine ev_iload_n (i := 3) 24 dX10_feed_23 rfl rfl rfl ?_
    obtain ⟨x15, S14, g16, h⟩ := rx_bd_o h
    refine ev_cVv1 27 dX10_feed_24 (em_X10_addBytes g16) mm_X10_addBytes mv_X10_addBytes lk_10_84 dk_0 (by decide) rfl (Nat.le_of_ble_eq_true rfl) (Nat.le_of_ble_eq_true rfl) rfl ?_
    refine ev_aload_n (i := 0) 28 dX10_feed_27 rfl rfl rfl ?_
    refine ev_iload 30 dX10_feed_28 rfl rfl ?_
    obtain ⟨x18, S17, g19, h⟩ := rx_bd_o h
    refine ev_cVv1 33 dX10_feed_30 (em_X10_addBytes g19) mm_X10_addBytes mv_X10_addBytes lk_10_84 dk_0 (by decide) rfl (Nat.le_of_ble_eq_true rfl) (Nat.le_of_ble_eq_true rfl) rfl ?_
    refine ev_aload_n (i := 0) 34 dX10_feed_33 rfl rfl rfl ?_
    refine ev_iload 36 dX10_feed_34 rfl rfl ?_
    obtain ⟨x21, S20, g22, h⟩ := rx_bd_o h
    refine ev_cVv1 39 dX10_feed_36 (em_X10_addBytes g22) mm_X10_addBytes mv_X10_addBytes lk_10_84 dk_0 (by decide) rfl (Nat.le_of_ble_eq_true rfl) (Nat.le_of_ble_eq_true rfl) rfl ?_
    refine ev_aload_n (i := 0) 40 dX10_feed_39 rfl rfl rfl ?_
    refine ev_get (v := .int (S20.1 0 1)) 43 dX10_feed_40 dk_0 fl_10_81 (by decide) rfl rfl rfl ?_
    exact ev_ireturn dX10_feed_43 rfl (rx_ret_i h)
  · replace h := rx_if_f c7 h
    refine ev_iconst (v := (-1)) 11 dX10_feed_10 (by decide) rfl ?_
    exact ev_ireturn dX10_feed_11 rfl (rx_ret_i h)

def f_X10_back (x1 : Int32) (S0 : rx_S) : Option (Int32 × rx_S) := if x1 < 0 then (some ((-1), S0)) else (if x1 ≤ (S0.1 0 1) then (rx_let (rx_ui S0 0 1 ((S0.1 0 1) - x1)) (fun S5 => some ((S5.1 0 1), S5))) else (some ((-1), S0)))
set_option maxHeartbeats 4000000 in
set_option maxRecDepth 20000 in
theorem em_X10_back {d : Nat} {x1 : Int32} {S0 : rx_S} {zr : Int32} {zS : rx_S} (h : f_X10_back x1 S0 = some (zr, zS)) : EM gC d mX10_back [.ref 0, .int x1] S0 (rx_pi zr zS) := by
  unfold f_X10_back at h
  show EV gC d mX10_back 0 [some (.ref 0), some (.int x1)] [] S0 (rx_pi zr zS)
  refine ev_iload_n (i := 1) 1 dX10_back_0 rfl rfl rfl ?_
  refine ev_if_lt 12 4 dX10_back_1 rfl rfl (fun c3 => ?_) (fun c3 => ?_)
  · replace h := rx_if_t c3 h
    refine ev_iconst (v := (-1)) 13 dX10_back_12 (by decide) rfl ?_
    exact ev_ireturn dX10_back_13 rfl (rx_ret_i h)
  · replace h := rx_if_f c3 h
    refine ev_iload_n (i := 1) 5 dX10_back_4 rfl rfl rfl ?_
    refine ev_aload_n (i := 0) 6 dX10_back_5 rfl rfl rfl ?_
    refine ev_get (v := .int (S0.1 0 1)) 9 dX10_back_6 dk_0 fl_10_81 (by decide) rfl rfl rfl ?_
    refine ev_icmp_le 14 12 dX10_back_9 rfl rfl (fun c4 => ?_) (fun c4 => ?_)
    · replace h := rx_if_t c4 h
      refine ev_aload_n (i := 0) 15 dX10_back_14 rfl rfl rfl ?_
      refine ev_dup 16 dX10_back_15 rfl rfl ?_
      refine ev_get (v := .int (S0.1 0 1)) 19 dX10_back_16 dk_0 fl_10_81 (by decide) rfl rfl rfl ?_
      refine ev_iload_n (i := 1) 20 dX10_back_19 rfl rfl rfl ?_
      refine ev_isub 21 dX10_back_20 rfl ?_
      obtain ⟨S5, eS5, h⟩ := rx_let_o h
      refine ex_put 24 dX10_back_21 dk_0 fl_10_81 pp_10_1 (by decide) rfl rfl rfl rfl eS5 ?_
      refine ev_aload_n (i := 0) 25 dX10_back_24 rfl rfl rfl ?_
      refine ev_get (v := .int (S5.1 0 1)) 28 dX10_back_25 dk_0 fl_10_81 (by decide) rfl rfl rfl ?_
      exact ev_ireturn dX10_back_28 rfl (rx_ret_i h)
    · replace h := rx_if_f c4 h
      refine ev_iconst (v := (-1)) 13 dX10_back_12 (by decide) rfl ?_
      exact ev_ireturn dX10_back_13 rfl (rx_ret_i h)

def f_X10_place (S0 : rx_S) : Option (Int32 × rx_S) := some ((S0.1 0 2), S0)
set_option maxHeartbeats 4000000 in
set_option maxRecDepth 20000 in
theorem em_X10_place {d : Nat} {S0 : rx_S} {zr : Int32} {zS : rx_S} (h : f_X10_place S0 = some (zr, zS)) : EM gC d mX10_place [.ref 0] S0 (rx_pi zr zS) := by
  unfold f_X10_place at h
  show EV gC d mX10_place 0 [some (.ref 0)] [] S0 (rx_pi zr zS)
  refine ev_aload_n (i := 0) 1 dX10_place_0 rfl rfl rfl ?_
  refine ev_get (v := .int (S0.1 0 2)) 4 dX10_place_1 dk_0 fl_10_13 (by decide) rfl rfl rfl ?_
  exact ev_ireturn dX10_place_4 rfl (rx_ret_i h)

def f_X10_spouse (N : Nat) (x1 : Int32) (x2 : Int32) (S0 : rx_S) : Option (Int32 × rx_S) := rx_bd (f_X8_hasSpouse 2 x1 S0) (fun x5 S4 => if x5 = 0 then (some ((-1), S4)) else (if x2 = 0 then (rx_gd ((4 : Int32) + x1) 48 (some ((S4.1 32 (Int32.toNatClampNeg ((4 : Int32) + x1))), S4))) else (if x2 = 1 then (rx_gd x1 6 (some ((S4.1 9 (Int32.toNatClampNeg x1)), S4))) else (if x2 = 2 then (rx_bd (f_X7_rowOf 32 N x1 S4) (fun x14 S13 => some (x14, S13))) else (if x2 = 3 then (rx_gd ((10 : Int32) + x1) 48 (some ((S4.1 32 (Int32.toNatClampNeg ((10 : Int32) + x1))), S4))) else (some ((-1), S4)))))))
set_option maxHeartbeats 4000000 in
set_option maxRecDepth 20000 in
theorem em_X10_spouse {d N : Nat} {x1 : Int32} {x2 : Int32} {S0 : rx_S} {zr : Int32} {zS : rx_S} (h : f_X10_spouse N x1 x2 S0 = some (zr, zS)) : EM gC (d + 3) mX10_spouse [.ref 0, .int x1, .int x2] S0 (rx_pi zr zS) := by
  unfold f_X10_spouse at h
  show EV gC (d + 3) mX10_spouse 0 [some (.ref 0), some (.int x1), some (.int x2)] [] S0 (rx_pi zr zS)
  refine ev_aload_n (i := 0) 1 dX10_spouse_0 rfl rfl rfl ?_
  refine ev_get (v := .ref 2) 4 dX10_spouse_1 dk_0 fl_10_20 (by decide) rfl rfl rfl ?_
  refine ev_iload_n (i := 1) 5 dX10_spouse_4 rfl rfl rfl ?_
  obtain ⟨x5, S4, g6, h⟩ := rx_bd_o h
  refine ev_cVi1 8 dX10_spouse_5 (em_X8_hasSpouse_2 g6) mm_X8_hasSpouse mv_X8_hasSpouse lk_10_106 dk_2 (by decide) rfl (Nat.le_of_ble_eq_true rfl) (Nat.le_of_ble_eq_true rfl) rfl ?_
  refine ev_if_ne 13 11 dX10_spouse_8 rfl rfl (fun c7 => ?_) (fun c7 => ?_)
  · replace h := rx_if_f c7 h
    refine ev_iload_n (i := 2) 14 dX10_spouse_13 rfl rfl rfl ?_
    by_cases c8 : x2 = 0
    · replace h := rx_if_t c8 h
      refine ev_tableIn 44 dX10_spouse_14 (by rw [c8]; decide) (by rw [c8]; decide) (off := 30) (by rw [c8]; rfl) rfl ?_
      refine ev_aload_n (i := 0) 45 dX10_spouse_44 rfl rfl rfl ?_
      refine ev_get (v := .ref 32) 48 dX10_spouse_45 dk_0 fl_10_31 (by decide) rfl rfl rfl ?_
      refine ev_iconst (v := 4) 49 dX10_spouse_48 (by decide) rfl ?_
      refine ev_iload_n (i := 1) 50 dX10_spouse_49 rfl rfl rfl ?_
      refine ev_iadd 51 dX10_spouse_50 rfl ?_
      obtain ⟨g9, h⟩ := rx_gd_o h
      refine ex_iald _ 52 dX10_spouse_51 dk_32 g9 rfl rfl ?_
      exact ev_ireturn dX10_spouse_52 rfl (rx_ret_i h)
    · replace h := rx_if_f c8 h
      by_cases c10 : x2 = 1
      · replace h := rx_if_t c10 h
        refine ev_tableIn 53 dX10_spouse_14 (by rw [c10]; decide) (by rw [c10]; decide) (off := 39) (by rw [c10]; rfl) rfl ?_
        refine ev_aload_n (i := 0) 54 dX10_spouse_53 rfl rfl rfl ?_
        refine ev_get (v := .ref 2) 57 dX10_spouse_54 dk_0 fl_10_20 (by decide) rfl rfl rfl ?_
        refine ev_get (v := .ref 9) 60 dX10_spouse_57 dk_2 fl_10_110 (by decide) rfl rfl rfl ?_
        refine ev_iload_n (i := 1) 61 dX10_spouse_60 rfl rfl rfl ?_
        obtain ⟨g11, h⟩ := rx_gd_o h
        refine ex_iald _ 62 dX10_spouse_61 dk_9 g11 rfl rfl ?_
        exact ev_ireturn dX10_spouse_62 rfl (rx_ret_i h)
      · replace h := rx_if_f c10 h
        by_cases c12 : x2 = 2
        · replace h := rx_if_t c12 h
          refine ev_tableIn 63 dX10_spouse_14 (by rw [c12]; decide) (by rw [c12]; decide) (off := 49) (by rw [c12]; rfl) rfl ?_
          refine ev_aload_n (i := 0) 64 dX10_spouse_63 rfl rfl rfl ?_
          refine ev_get (v := .ref 80) 67 dX10_spouse_64 dk_0 fl_10_47 (by decide) rfl rfl rfl ?_
          refine ev_aload_n (i := 0) 68 dX10_spouse_67 rfl rfl rfl ?_
          refine ev_get (v := .ref 32) 71 dX10_spouse_68 dk_0 fl_10_31 (by decide) rfl rfl rfl ?_
          refine ev_iload_n (i := 1) 72 dX10_spouse_71 rfl rfl rfl ?_
          obtain ⟨x14, S13, g15, h⟩ := rx_bd_o h
          refine ev_cVi2 75 dX10_spouse_72 (em_X7_rowOf_32 g15) mm_X7_rowOf mv_X7_rowOf lk_10_113 dk_80 (by decide) rfl (Nat.le_of_ble_eq_true rfl) (Nat.le_of_ble_eq_true rfl) rfl ?_
          exact ev_ireturn dX10_spouse_75 rfl (rx_ret_i h)
        · replace h := rx_if_f c12 h
          by_cases c16 : x2 = 3
          · replace h := rx_if_t c16 h
            refine ev_tableIn 76 dX10_spouse_14 (by rw [c16]; decide) (by rw [c16]; decide) (off := 62) (by rw [c16]; rfl) rfl ?_
            refine ev_aload_n (i := 0) 77 dX10_spouse_76 rfl rfl rfl ?_
            refine ev_get (v := .ref 32) 80 dX10_spouse_77 dk_0 fl_10_31 (by decide) rfl rfl rfl ?_
            refine ev_bipush (v := 10) 82 dX10_spouse_80 (by decide) rfl ?_
            refine ev_iload_n (i := 1) 83 dX10_spouse_82 rfl rfl rfl ?_
            refine ev_iadd 84 dX10_spouse_83 rfl ?_
            obtain ⟨g17, h⟩ := rx_gd_o h
            refine ex_iald _ 85 dX10_spouse_84 dk_32 g17 rfl rfl ?_
            exact ev_ireturn dX10_spouse_85 rfl (rx_ret_i h)
          · replace h := rx_if_f c16 h
            refine ev_tableOut 86 dX10_spouse_14 (by have q0 := rx_ne c8 (z := 0) (by decide); have q1 := rx_ne c10 (z := 1) (by decide); have q2 := rx_ne c12 (z := 2) (by decide); have q3 := rx_ne c16 (z := 3) (by decide); omega) rfl ?_
            refine ev_iconst (v := (-1)) 87 dX10_spouse_86 (by decide) rfl ?_
            exact ev_ireturn dX10_spouse_87 rfl (rx_ret_i h)
  · replace h := rx_if_t c7 h
    refine ev_iconst (v := (-1)) 12 dX10_spouse_11 (by decide) rfl ?_
    exact ev_ireturn dX10_spouse_12 rfl (rx_ret_i h)

def f_X10_couple (x1 : Int32) (x2 : Int32) (S0 : rx_S) : Option (Int32 × rx_S) := rx_bd (f_X8_hasCouple 2 x1 S0) (fun x5 S4 => if x5 = 0 then (some ((-1), S4)) else (rx_let (fun (x8 : Int32) (x9 : Int32) (S10 : rx_S) => rx_gd (((2 : Int32) * x8) + x9) 6 (some ((S10.1 10 (Int32.toNatClampNeg (((2 : Int32) * x8) + x9))), S10))) (fun J52_1 => if x2 = 0 then (J52_1 x1 x2 S4) else (if x2 = 1 then (J52_1 x1 x2 S4) else (if x2 = 2 then (rx_gd ((16 : Int32) + x1) 48 (if (S4.1 32 (Int32.toNatClampNeg ((16 : Int32) + x1))) = (-1) then (some ((-2), S4)) else (rx_gd ((16 : Int32) + x1) 48 (some ((S4.1 32 (Int32.toNatClampNeg ((16 : Int32) + x1))), S4))))) else (if x2 = 3 then (rx_gd ((19 : Int32) + x1) 48 (some ((S4.1 32 (Int32.toNatClampNeg ((19 : Int32) + x1))), S4))) else (if x2 = 4 then (rx_gd ((22 : Int32) + x1) 48 (some ((S4.1 32 (Int32.toNatClampNeg ((22 : Int32) + x1))), S4))) else (if x2 = 5 then (rx_gd ((25 : Int32) + x1) 48 (some ((S4.1 32 (Int32.toNatClampNeg ((25 : Int32) + x1))), S4))) else (some ((-1), S4))))))))))
set_option maxHeartbeats 4000000 in
set_option maxRecDepth 20000 in
theorem em_X10_couple {d : Nat} {x1 : Int32} {x2 : Int32} {S0 : rx_S} {zr : Int32} {zS : rx_S} (h : f_X10_couple x1 x2 S0 = some (zr, zS)) : EM gC (d + 1) mX10_couple [.ref 0, .int x1, .int x2] S0 (rx_pi zr zS) := by
  unfold f_X10_couple at h
  show EV gC (d + 1) mX10_couple 0 [some (.ref 0), some (.int x1), some (.int x2)] [] S0 (rx_pi zr zS)
  refine ev_aload_n (i := 0) 1 dX10_couple_0 rfl rfl rfl ?_
  refine ev_get (v := .ref 2) 4 dX10_couple_1 dk_0 fl_10_20 (by decide) rfl rfl rfl ?_
  refine ev_iload_n (i := 1) 5 dX10_couple_4 rfl rfl rfl ?_
  obtain ⟨x5, S4, g6, h⟩ := rx_bd_o h
  refine ev_cVi1 8 dX10_couple_5 (em_X8_hasCouple_2 g6) mm_X8_hasCouple mv_X8_hasCouple lk_10_117 dk_2 (by decide) rfl (Nat.le_of_ble_eq_true rfl) (Nat.le_of_ble_eq_true rfl) rfl ?_
  refine ev_if_ne 13 11 dX10_couple_8 rfl rfl (fun c7 => ?_) (fun c7 => ?_)
  · replace h := rx_if_f c7 h
    refine ev_iload_n (i := 2) 14 dX10_couple_13 rfl rfl rfl ?_
    obtain ⟨J52_1, eJ52_1, h⟩ := rx_let_o h
    have hJ52_1 : ∀ (x8 : Int32) (x9 : Int32) (S10 : rx_S), J52_1 x8 x9 S10 = some (zr, zS) → EV gC (d + 1) mX10_couple 52 [some (.ref 0), some (.int x8), some (.int x9)] [] S10 (rx_pi zr zS) := by
      intro x8 x9 S10 h
      subst eJ52_1
      refine ev_aload_n (i := 0) 53 dX10_couple_52 rfl rfl rfl ?_
      refine ev_get (v := .ref 2) 56 dX10_couple_53 dk_0 fl_10_20 (by decide) rfl rfl rfl ?_
      refine ev_get (v := .ref 10) 59 dX10_couple_56 dk_2 fl_10_120 (by decide) rfl rfl rfl ?_
      refine ev_iconst (v := 2) 60 dX10_couple_59 (by decide) rfl ?_
      refine ev_iload_n (i := 1) 61 dX10_couple_60 rfl rfl rfl ?_
      refine ev_imul 62 dX10_couple_61 rfl ?_
      refine ev_iload_n (i := 2) 63 dX10_couple_62 rfl rfl rfl ?_
      refine ev_iadd 64 dX10_couple_63 rfl ?_
      obtain ⟨g11, h⟩ := rx_gd_o h
      refine ex_iald _ 65 dX10_couple_64 dk_10 g11 rfl rfl ?_
      exact ev_ireturn dX10_couple_65 rfl (rx_ret_i h)
    by_cases c12 : x2 = 0
    · replace h := rx_if_t c12 h
      refine ev_tableIn 52 dX10_couple_14 (by rw [c12]; decide) (by rw [c12]; decide) (off := 38) (by rw [c12]; rfl) rfl ?_
      exact (hJ52_1 _ _ _ h).fewer (rx_le_s (rx_le_s (rx_le_s rx_le_0)))
    · replace h := rx_if_f c12 h
      by_cases c13 : x2 = 1
      · replace h := rx_if_t c13 h
        refine ev_tableIn 52 dX10_couple_14 (by rw [c13]; decide) (by rw [c13]; decide) (off := 38) (by rw [c13]; rfl) rfl ?_
        exact (hJ52_1 _ _ _ h).fewer (rx_le_s (rx_le_s (rx_le_s rx_le_0)))
      · replace h := rx_if_f c13 h
        by_cases c14 : x2 = 2
        · replace h := rx_if_t c14 h
          refine ev_tableIn 66 dX10_couple_14 (by rw [c14]; decide) (by rw [c14]; decide) (off := 52) (by rw [c14]; rfl) rfl ?_
          refine ev_aload_n (i := 0) 67 dX10_couple_66 rfl rfl rfl ?_
          refine ev_get (v := .ref 32) 70 dX10_couple_67 dk_0 fl_10_31 (by decide) rfl rfl rfl ?_
          refine ev_bipush (v := 16) 72 dX10_couple_70 (by decide) rfl ?_
          refine ev_iload_n (i := 1) 73 dX10_couple_72 rfl rfl rfl ?_
          refine ev_iadd 74 dX10_couple_73 rfl ?_
          obtain ⟨g15, h⟩ := rx_gd_o h
          refine ex_iald _ 75 dX10_couple_74 dk_32 g15 rfl rfl ?_
          refine ev_iconst (v := (-1)) 76 dX10_couple_75 (by decide) rfl ?_
          refine ev_icmp_ne 84 79 dX10_couple_76 rfl rfl (fun c16 => ?_) (fun c16 => ?_)
          · replace h := rx_if_f c16 h
            refine ev_aload_n (i := 0) 85 dX10_couple_84 rfl rfl rfl ?_
            refine ev_get (v := .ref 32) 88 dX10_couple_85 dk_0 fl_10_31 (by decide) rfl rfl rfl ?_
            refine ev_bipush (v := 16) 90 dX10_couple_88 (by decide) rfl ?_
            refine ev_iload_n (i := 1) 91 dX10_couple_90 rfl rfl rfl ?_
            refine ev_iadd 92 dX10_couple_91 rfl ?_
            obtain ⟨g17, h⟩ := rx_gd_o h
            refine ex_iald _ 93 dX10_couple_92 dk_32 g17 rfl rfl ?_
            exact ev_ireturn dX10_couple_93 rfl (rx_ret_i h)
          · replace h := rx_if_t c16 h
            refine ev_bipush (v := (-2)) 81 dX10_couple_79 (by decide) rfl ?_
            refine ev_goto 93 dX10_couple_81 rfl ?_
            exact ev_ireturn dX10_couple_93 rfl (rx_ret_i h)
        · replace h := rx_if_f c14 h
          by_cases c18 : x2 = 3
          · replace h := rx_if_t c18 h
            refine ev_tableIn 94 dX10_couple_14 (by rw [c18]; decide) (by rw [c18]; decide) (off := 80) (by rw [c18]; rfl) rfl ?_
            refine ev_aload_n (i := 0) 95 dX10_couple_94 rfl rfl rfl ?_
            refine ev_get (v := .ref 32) 98 dX10_couple_95 dk_0 fl_10_31 (by decide) rfl rfl rfl ?_
            refine ev_bipush (v := 19) 100 dX10_couple_98 (by decide) rfl ?_
            refine ev_iload_n (i := 1) 101 dX10_couple_100 rfl rfl rfl ?_
            refine ev_iadd 102 dX10_couple_101 rfl ?_
            obtain ⟨g19, h⟩ := rx_gd_o h
            refine ex_iald _ 103 dX10_couple_102 dk_32 g19 rfl rfl ?_
            exact ev_ireturn dX10_couple_103 rfl (rx_ret_i h)
          · replace h := rx_if_f c18 h
            by_cases c20 : x2 = 4
            · replace h := rx_if_t c20 h
              refine ev_tableIn 104 dX10_couple_14 (by rw [c20]; decide) (by rw [c20]; decide) (off := 90) (by rw [c20]; rfl) rfl ?_
              refine ev_aload_n (i := 0) 105 dX10_couple_104 rfl rfl rfl ?_
              refine ev_get (v := .ref 32) 108 dX10_couple_105 dk_0 fl_10_31 (by decide) rfl rfl rfl ?_
              refine ev_bipush (v := 22) 110 dX10_couple_108 (by decide) rfl ?_
              refine ev_iload_n (i := 1) 111 dX10_couple_110 rfl rfl rfl ?_
              refine ev_iadd 112 dX10_couple_111 rfl ?_
              obtain ⟨g21, h⟩ := rx_gd_o h
              refine ex_iald _ 113 dX10_couple_112 dk_32 g21 rfl rfl ?_
              exact ev_ireturn dX10_couple_113 rfl (rx_ret_i h)
            · replace h := rx_if_f c20 h
              by_cases c22 : x2 = 5
              · replace h := rx_if_t c22 h
                refine ev_tableIn 114 dX10_couple_14 (by rw [c22]; decide) (by rw [c22]; decide) (off := 100) (by rw [c22]; rfl) rfl ?_
                refine ev_aload_n (i := 0) 115 dX10_couple_114 rfl rfl rfl ?_
                refine ev_get (v := .ref 32) 118 dX10_couple_115 dk_0 fl_10_31 (by decide) rfl rfl rfl ?_
                refine ev_bipush (v := 25) 120 dX10_couple_118 (by decide) rfl ?_
                refine ev_iload_n (i := 1) 121 dX10_couple_120 rfl rfl rfl ?_
                refine ev_iadd 122 dX10_couple_121 rfl ?_
                obtain ⟨g23, h⟩ := rx_gd_o h
                refine ex_iald _ 123 dX10_couple_122 dk_32 g23 rfl rfl ?_
                exact ev_ireturn dX10_couple_123 rfl (rx_ret_i h)
              · replace h := rx_if_f c22 h
                refine ev_tableOut 124 dX10_couple_14 (by have q0 := rx_ne c12 (z := 0) (by decide); have q1 := rx_ne c13 (z := 1) (by decide); have q2 := rx_ne c14 (z := 2) (by decide); have q3 := rx_ne c18 (z := 3) (by decide); have q4 := rx_ne c20 (z := 4) (by decide); have q5 := rx_ne c22 (z := 5) (by decide); omega) rfl ?_
                refine ev_iconst (v := (-1)) 125 dX10_couple_124 (by decide) rfl ?_
                exact ev_ireturn dX10_couple_125 rfl (rx_ret_i h)
  · replace h := rx_if_t c7 h
    refine ev_iconst (v := (-1)) 12 dX10_couple_11 (by decide) rfl ?_
    exact ev_ireturn dX10_couple_12 rfl (rx_ret_i h)

def f_X10_couplesOf_L4 (N : Nat) : Nat → Int32 → Int32 → Int32 → rx_S → Option (Int32 × rx_S)
  | 0, _, _, _, _ => none
  | n + 1, x3, x4, x5, S6 => if (S6.1 2 7) ≤ x5 then (some (x4, S6)) else (rx_gd ((16 : Int32) + x5) 48 (if (S6.1 32 (Int32.toNatClampNeg ((16 : Int32) + x5))) = x3 then (rx_let (x4 ||| ((1 : Int32) <<< (x5 &&& 31))) (fun x11 => rx_let (x5 + 1) (fun x12 => f_X10_couplesOf_L4 N n x3 x11 x12 S6))) else (rx_let (x5 + 1) (fun x10 => f_X10_couplesOf_L4 N n x3 x4 x10 S6))))
def f_X10_couplesOf (N : Nat) (x1 : Int32) (S0 : rx_S) : Option (Int32 × rx_S) := f_X10_couplesOf_L4 N N x1 0 0 S0
set_option maxHeartbeats 4000000 in
set_option maxRecDepth 20000 in
theorem em_X10_couplesOf_L4 {d N : Nat} {zr : Int32} {zS : rx_S} : ∀ (n : Nat) (x3 : Int32) (x4 : Int32) (x5 : Int32) (S6 : rx_S), f_X10_couplesOf_L4 N n x3 x4 x5 S6 = some (zr, zS) → EV gC d mX10_couplesOf 4 [some (.ref 0), some (.int x3), some (.int x4), some (.int x5)] [] S6 (rx_pi zr zS) := by
  intro n
  induction n with
  | zero => intro x3 x4 x5 S6 h; cases h
  | succ n ih =>
    intro x3 x4 x5 S6 h
    rw [f_X10_couplesOf_L4] at h
    refine ev_iload_n (i := 3) 5 dX10_couplesOf_4 rfl rfl rfl ?_
    refine ev_aload_n (i := 0) 6 dX10_couplesOf_5 rfl rfl rfl ?_
    refine ev_get (v := .ref 2) 9 dX10_couplesOf_6 dk_0 fl_10_20 (by decide) rfl rfl rfl ?_
    refine ev_get (v := .int (S6.1 2 7)) 12 dX10_couplesOf_9 dk_2 fl_10_138 (by decide) rfl rfl rfl ?_
    refine ev_icmp_ge 40 15 dX10_couplesOf_12 rfl rfl (fun c7 => ?_) (fun c7 => ?_)
    · replace h := rx_if_t c7 h
      refine ev_iload_n (i := 2) 41 dX10_couplesOf_40 rfl rfl rfl ?_
      exact ev_ireturn dX10_couplesOf_41 rfl (rx_ret_i h)
    · replace h := rx_if_f c7 h
      refine ev_aload_n (i := 0) 16 dX10_couplesOf_15 rfl rfl rfl ?_
      refine ev_get (v := .ref 32) 19 dX10_couplesOf_16 dk_0 fl_10_31 (by decide) rfl rfl rfl ?_
      refine ev_bipush (v := 16) 21 dX10_couplesOf_19 (by decide) rfl ?_
      refine ev_iload_n (i := 3) 22 dX10_couplesOf_21 rfl rfl rfl ?_
      refine ev_iadd 23 dX10_couplesOf_22 rfl ?_
      obtain ⟨g8, h⟩ := rx_gd_o h
      refine ex_iald _ 24 dX10_couplesOf_23 dk_32 g8 rfl rfl ?_
      refine ev_iload_n (i := 1) 25 dX10_couplesOf_24 rfl rfl rfl ?_
      refine ev_icmp_ne 34 28 dX10_couplesOf_25 rfl rfl (fun c9 => ?_) (fun c9 => ?_)
      · replace h := rx_if_f c9 h
        obtain ⟨x10, ex10, h⟩ := rx_let_o h
        refine ev_iinc (v := x10) (ls' := [some (.ref 0), some (.int x3), some (.int x4), some (.int x10)]) 37 dX10_couplesOf_34 rfl (by rw [ex10]; rfl) (Nat.le_of_ble_eq_true rfl) rfl rfl ?_
        refine ev_goto 4 dX10_couplesOf_37 rfl ?_
        exact (ih _ _ _ _ h).fewer (rx_le_s (rx_le_s (rx_le_s (rx_le_s rx_le_0))))
      · replace h := rx_if_t c9 h
        refine ev_iload_n (i := 2) 29 dX10_couplesOf_28 rfl rfl rfl ?_
        refine ev_iconst (v := 1) 30 dX10_couplesOf_29 (by decide) rfl ?_
        refine ev_iload_n (i := 3) 31 dX10_couplesOf_30 rfl rfl rfl ?_
        refine ev_ishl 32 dX10_couplesOf_31 rfl ?_
        refine ev_ior 33 dX10_couplesOf_32 rfl ?_
        obtain ⟨x11, ex11, h⟩ := rx_let_o h
        refine ev_nm ex11 ?_
        refine ev_istore_n (ls' := [some (.ref 0), some (.int x3), some (.int x11), some (.int x5)]) 34 dX10_couplesOf_33 rfl (Nat.le_of_ble_eq_true rfl) rfl rfl ?_
        obtain ⟨x12, ex12, h⟩ := rx_let_o h
        refine ev_iinc (v := x12) (ls' := [some (.ref 0), some (.int x3), some (.int x11), some (.int x12)]) 37 dX10_couplesOf_34 rfl (by rw [ex12]; rfl) (Nat.le_of_ble_eq_true rfl) rfl rfl ?_
        refine ev_goto 4 dX10_couplesOf_37 rfl ?_
        exact (ih _ _ _ _ h).fewer (rx_le_s (rx_le_s (rx_le_s (rx_le_s rx_le_0))))

set_option maxHeartbeats 4000000 in
set_option maxRecDepth 20000 in
theorem em_X10_couplesOf {d N : Nat} {x1 : Int32} {S0 : rx_S} {zr : Int32} {zS : rx_S} (h : f_X10_couplesOf N x1 S0 = some (zr, zS)) : EM gC d mX10_couplesOf [.ref 0, .int x1] S0 (rx_pi zr zS) := by
  unfold f_X10_couplesOf at h
  show EV gC d mX10_couplesOf 0 [some (.ref 0), some (.int x1), none, none] [] S0 (rx_pi zr zS)
  refine ev_iconst (v := 0) 1 dX10_couplesOf_0 (by decide) rfl ?_
  refine ev_istore_n (ls' := [some (.ref 0), some (.int x1), some (.int 0), none]) 2 dX10_couplesOf_1 rfl (Nat.le_of_ble_eq_true rfl) rfl rfl ?_
  refine ev_iconst (v := 0) 3 dX10_couplesOf_2 (by decide) rfl ?_
  refine ev_istore_n (ls' := [some (.ref 0), some (.int x1), some (.int 0), some (.int 0)]) 4 dX10_couplesOf_3 rfl (Nat.le_of_ble_eq_true rfl) rfl rfl ?_
  exact (em_X10_couplesOf_L4 _ _ _ _ _ h).fewer (rx_le_s (rx_le_s (rx_le_s (rx_le_s rx_le_0))))

def f_X10_third (N : Nat) (x1 : Int32) (x2 : Int32) (S0 : rx_S) : Option (Int32 × rx_S) := rx_bd (f_X8_hasThird 2 x1 S0) (fun x5 S4 => if x5 = 0 then (some ((-100000), S4)) else (if x2 = 0 then (rx_gd x1 4 (some ((S4.1 11 (Int32.toNatClampNeg x1)), S4))) else (if x2 = 1 then (rx_gd ((28 : Int32) + x1) 48 (some ((S4.1 32 (Int32.toNatClampNeg ((28 : Int32) + x1))), S4))) else (if x2 = 2 then (rx_gd ((32 : Int32) + x1) 48 (some ((S4.1 32 (Int32.toNatClampNeg ((32 : Int32) + x1))), S4))) else (if x2 = 3 then (rx_gd ((36 : Int32) + x1) 48 (some ((S4.1 32 (Int32.toNatClampNeg ((36 : Int32) + x1))), S4))) else (if x2 = 4 then (rx_gd ((40 : Int32) + x1) 48 (some ((S4.1 32 (Int32.toNatClampNeg ((40 : Int32) + x1))), S4))) else (if x2 = 5 then (rx_gd ((44 : Int32) + x1) 48 (some ((S4.1 32 (Int32.toNatClampNeg ((44 : Int32) + x1))), S4))) else (if x2 = 6 then (rx_bd (f_X10_couplesOf N x1 S4) (fun x22 S21 => some (x22, S21))) else (if x2 = 7 then (rx_bd (f_X7_isDaring 32 N x1 S4) (fun x26 S25 => if x26 = 0 then (some (0, S25)) else (some (1, S25)))) else (some ((-100000), S4)))))))))))
set_option maxHeartbeats 4000000 in
set_option maxRecDepth 20000 in
theorem em_X10_third {d N : Nat} {x1 : Int32} {x2 : Int32} {S0 : rx_S} {zr : Int32} {zS : rx_S} (h : f_X10_third N x1 x2 S0 = some (zr, zS)) : EM gC (d + 3) mX10_third [.ref 0, .int x1, .int x2] S0 (rx_pi zr zS) := by
  unfold f_X10_third at h
  show EV gC (d + 3) mX10_third 0 [some (.ref 0), some (.int x1), some (.int x2)] [] S0 (rx_pi zr zS)
  refine ev_aload_n (i := 0) 1 dX10_third_0 rfl rfl rfl ?_
  refine ev_get (v := .ref 2) 4 dX10_third_1 dk_0 fl_10_20 (by decide) rfl rfl rfl ?_
  refine ev_iload_n (i := 1) 5 dX10_third_4 rfl rfl rfl ?_
  obtain ⟨x5, S4, g6, h⟩ := rx_bd_o h
  refine ev_cVi1 8 dX10_third_5 (em_X8_hasThird_2 g6) mm_X8_hasThird mv_X8_hasThird lk_10_123 dk_2 (by decide) rfl (Nat.le_of_ble_eq_true rfl) (Nat.le_of_ble_eq_true rfl) rfl ?_
  refine ev_if_ne 14 11 dX10_third_8 rfl rfl (fun c7 => ?_) (fun c7 => ?_)
  · replace h := rx_if_f c7 h
    refine ev_iload_n (i := 2) 15 dX10_third_14 rfl rfl rfl ?_
    by_cases c8 : x2 = 0
    · replace h := rx_if_t c8 h
      refine ev_tableIn 60 dX10_third_15 (by rw [c8]; decide) (by rw [c8]; decide) (off := 45) (by rw [c8]; rfl) rfl ?_
      refine ev_aload_n (i := 0) 61 dX10_third_60 rfl rfl rfl ?_
      refine ev_get (v := .ref 2) 64 dX10_third_61 dk_0 fl_10_20 (by decide) rfl rfl rfl ?_
      refine ev_get (v := .ref 11) 67 dX10_third_64 dk_2 fl_10_127 (by decide) rfl rfl rfl ?_
      refine ev_iload_n (i := 1) 68 dX10_third_67 rfl rfl rfl ?_
      obtain ⟨g9, h⟩ := rx_gd_o h
      refine ex_iald _ 69 dX10_third_68 dk_11 g9 rfl rfl ?_
      exact ev_ireturn dX10_third_69 rfl (rx_ret_i h)
    · replace h := rx_if_f c8 h
      by_cases c10 : x2 = 1
      · replace h := rx_if_t c10 h
        refine ev_tableIn 70 dX10_third_15 (by rw [c10]; decide) (by rw [c10]; decide) (off := 55) (by rw [c10]; rfl) rfl ?_
        refine ev_aload_n (i := 0) 71 dX10_third_70 rfl rfl rfl ?_
        refine ev_get (v := .ref 32) 74 dX10_third_71 dk_0 fl_10_31 (by decide) rfl rfl rfl ?_
        refine ev_bipush (v := 28) 76 dX10_third_74 (by decide) rfl ?_
        refine ev_iload_n (i := 1) 77 dX10_third_76 rfl rfl rfl ?_
        refine ev_iadd 78 dX10_third_77 rfl ?_
        obtain ⟨g11, h⟩ := rx_gd_o h
        refine ex_iald _ 79 dX10_third_78 dk_32 g11 rfl rfl ?_
        exact ev_ireturn dX10_third_79 rfl (rx_ret_i h)
      · replace h := rx_if_f c10 h
        by_cases c12 : x2 = 2
        · replace h := rx_if_t c12 h
          refine ev_tableIn 80 dX10_third_15 (by rw [c12]; decide) (by rw [c12]; decide) (off := 65) (by rw [c12]; rfl) rfl ?_
          refine ev_aload_n (i := 0) 81 dX10_third_80 rfl rfl rfl ?_
          refine ev_get (v := .ref 32) 84 dX10_third_81 dk_0 fl_10_31 (by decide) rfl rfl rfl ?_
          refine ev_bipush (v := 32) 86 dX10_third_84 (by decide) rfl ?_
          refine ev_iload_n (i := 1) 87 dX10_third_86 rfl rfl rfl ?_
          refine ev_iadd 88 dX10_third_87 rfl ?_
          obtain ⟨g13, h⟩ := rx_gd_o h
          refine ex_iald _ 89 dX10_third_88 dk_32 g13 rfl rfl ?_
          exact ev_ireturn dX10_third_89 rfl (rx_ret_i h)
        · replace h := rx_if_f c12 h
          by_cases c14 : x2 = 3
          · replace h := rx_if_t c14 h
            refine ev_tableIn 90 dX10_third_15 (by rw [c14]; decide) (by rw [c14]; decide) (off := 75) (by rw [c14]; rfl) rfl ?_
            refine ev_aload_n (i := 0) 91 dX10_third_90 rfl rfl rfl ?_
            refine ev_get (v := .ref 32) 94 dX10_third_91 dk_0 fl_10_31 (by decide) rfl rfl rfl ?_
            refine ev_bipush (v := 36) 96 dX10_third_94 (by decide) rfl ?_
            refine ev_iload_n (i := 1) 97 dX10_third_96 rfl rfl rfl ?_
            refine ev_iadd 98 dX10_third_97 rfl ?_
            obtain ⟨g15, h⟩ := rx_gd_o h
            refine ex_iald _ 99 dX10_third_98 dk_32 g15 rfl rfl ?_
            exact ev_ireturn dX10_third_99 rfl (rx_ret_i h)
          · replace h := rx_if_f c14 h
            by_cases c16 : x2 = 4
            · replace h := rx_if_t c16 h
              refine ev_tableIn 100 dX10_third_15 (by rw [c16]; decide) (by rw [c16]; decide) (off := 85) (by rw [c16]; rfl) rfl ?_
              refine ev_aload_n (i := 0) 101 dX10_third_100 rfl rfl rfl ?_
              refine ev_get (v := .ref 32) 104 dX10_third_101 dk_0 fl_10_31 (by decide) rfl rfl rfl ?_
              refine ev_bipush (v := 40) 106 dX10_third_104 (by decide) rfl ?_
              refine ev_iload_n (i := 1) 107 dX10_third_106 rfl rfl rfl ?_
              refine ev_iadd 108 dX10_third_107 rfl ?_
              obtain ⟨g17, h⟩ := rx_gd_o h
              refine ex_iald _ 109 dX10_third_108 dk_32 g17 rfl rfl ?_
              exact ev_ireturn dX10_third_109 rfl (rx_ret_i h)
            · replace h := rx_if_f c16 h
              by_cases c18 : x2 = 5
              · replace h := rx_if_t c18 h
                refine ev_tableIn 110 dX10_third_15 (by rw [c18]; decide) (by rw [c18]; decide) (off := 95) (by rw [c18]; rfl) rfl ?_
                refine ev_aload_n (i := 0) 111 dX10_third_110 rfl rfl rfl ?_
                refine ev_get (v := .ref 32) 114 dX10_third_111 dk_0 fl_10_31 (by decide) rfl rfl rfl ?_
                refine ev_bipush (v := 44) 116 dX10_third_114 (by decide) rfl ?_
                refine ev_iload_n (i := 1) 117 dX10_third_116 rfl rfl rfl ?_
                refine ev_iadd 118 dX10_third_117 rfl ?_
                obtain ⟨g19, h⟩ := rx_gd_o h
                refine ex_iald _ 119 dX10_third_118 dk_32 g19 rfl rfl ?_
                exact ev_ireturn dX10_third_119 rfl (rx_ret_i h)
              · replace h := rx_if_f c18 h
                by_cases c20 : x2 = 6
                · replace h := rx_if_t c20 h
                  refine ev_tableIn 120 dX10_third_15 (by rw [c20]; decide) (by rw [c20]; decide) (off := 105) (by rw [c20]; rfl) rfl ?_
                  refine ev_aload_n (i := 0) 121 dX10_third_120 rfl rfl rfl ?_
                  refine ev_iload_n (i := 1) 122 dX10_third_121 rfl rfl rfl ?_
                  obtain ⟨x22, S21, g23, h⟩ := rx_bd_o h
                  refine ev_cVi1 125 dX10_third_122 (em_X10_couplesOf g23) mm_X10_couplesOf mv_X10_couplesOf lk_10_130 dk_0 (by decide) rfl (Nat.le_of_ble_eq_true rfl) (Nat.le_of_ble_eq_true rfl) rfl ?_
                  exact ev_ireturn dX10_third_125 rfl (rx_ret_i h)
                · replace h := rx_if_f c20 h
                  by_cases c24 : x2 = 7
                  · replace h := rx_if_t c24 h
                    refine ev_tableIn 126 dX10_third_15 (by rw [c24]; decide) (by rw [c24]; decide) (off := 111) (by rw [c24]; rfl) rfl ?_
                    refine ev_aload_n (i := 0) 127 dX10_third_126 rfl rfl rfl ?_
                    refine ev_get (v := .ref 80) 130 dX10_third_127 dk_0 fl_10_47 (by decide) rfl rfl rfl ?_
                    refine ev_aload_n (i := 0) 131 dX10_third_130 rfl rfl rfl ?_
                    refine ev_get (v := .ref 32) 134 dX10_third_131 dk_0 fl_10_31 (by decide) rfl rfl rfl ?_
                    refine ev_iload_n (i := 1) 135 dX10_third_134 rfl rfl rfl ?_
                    obtain ⟨x26, S25, g27, h⟩ := rx_bd_o h
                    refine ev_cVi2 138 dX10_third_135 (em_X7_isDaring_32 g27) mm_X7_isDaring mv_X7_isDaring lk_10_134 dk_80 (by decide) rfl (Nat.le_of_ble_eq_true rfl) (Nat.le_of_ble_eq_true rfl) rfl ?_
                    refine ev_if_eq 145 141 dX10_third_138 rfl rfl (fun c28 => ?_) (fun c28 => ?_)
                    · replace h := rx_if_t c28 h
                      refine ev_iconst (v := 0) 146 dX10_third_145 (by decide) rfl ?_
                      exact ev_ireturn dX10_third_146 rfl (rx_ret_i h)
                    · replace h := rx_if_f c28 h
                      refine ev_iconst (v := 1) 142 dX10_third_141 (by decide) rfl ?_
                      refine ev_goto 146 dX10_third_142 rfl ?_
                      exact ev_ireturn dX10_third_146 rfl (rx_ret_i h)
                  · replace h := rx_if_f c24 h
                    refine ev_tableOut 147 dX10_third_15 (by have q0 := rx_ne c8 (z := 0) (by decide); have q1 := rx_ne c10 (z := 1) (by decide); have q2 := rx_ne c12 (z := 2) (by decide); have q3 := rx_ne c14 (z := 3) (by decide); have q4 := rx_ne c16 (z := 4) (by decide); have q5 := rx_ne c18 (z := 5) (by decide); have q6 := rx_ne c20 (z := 6) (by decide); have q7 := rx_ne c24 (z := 7) (by decide); omega) rfl ?_
                    refine ev_ldc (v := (-100000)) 149 dX10_third_147 rfl ct_10_126 rfl ?_
                    exact ev_ireturn dX10_third_149 rfl (rx_ret_i h)
  · replace h := rx_if_t c7 h
    refine ev_ldc (v := (-100000)) 13 dX10_third_11 rfl ct_10_126 rfl ?_
    exact ev_ireturn dX10_third_13 rfl (rx_ret_i h)

def f_X10_allMoods_L4 (N : Nat) : Nat → Int32 → Int32 → rx_S → Option (Int32 × rx_S)
  | 0, _, _, _ => none
  | n + 1, x2, x3, S4 => if (S4.1 2 6) ≤ x3 then (some (x2, S4)) else (rx_gd ((4 : Int32) + x3) 48 (rx_let (x2 + (S4.1 32 (Int32.toNatClampNeg ((4 : Int32) + x3)))) (fun x7 => rx_let (x3 + 1) (fun x8 => f_X10_allMoods_L4 N n x7 x8 S4))))
def f_X10_allMoods (N : Nat) (S0 : rx_S) : Option (Int32 × rx_S) := f_X10_allMoods_L4 N N 0 0 S0
set_option maxHeartbeats 4000000 in
set_option maxRecDepth 20000 in
theorem em_X10_allMoods_L4 {d N : Nat} {zr : Int32} {zS : rx_S} : ∀ (n : Nat) (x2 : Int32) (x3 : Int32) (S4 : rx_S), f_X10_allMoods_L4 N n x2 x3 S4 = some (zr, zS) → EV gC d mX10_allMoods 4 [some (.ref 0), some (.int x2), some (.int x3)] [] S4 (rx_pi zr zS) := by
  intro n
  induction n with
  | zero => intro x2 x3 S4 h; cases h
  | succ n ih =>
    intro x2 x3 S4 h
    rw [f_X10_allMoods_L4] at h
    refine ev_iload_n (i := 2) 5 dX10_allMoods_4 rfl rfl rfl ?_
    refine ev_aload_n (i := 0) 6 dX10_allMoods_5 rfl rfl rfl ?_
    refine ev_get (v := .ref 2) 9 dX10_allMoods_6 dk_0 fl_10_20 (by decide) rfl rfl rfl ?_
    refine ev_get (v := .int (S4.1 2 6)) 12 dX10_allMoods_9 dk_2 fl_10_141 (by decide) rfl rfl rfl ?_
    refine ev_icmp_ge 32 15 dX10_allMoods_12 rfl rfl (fun c5 => ?_) (fun c5 => ?_)
    · replace h := rx_if_t c5 h
      refine ev_iload_n (i := 1) 33 dX10_allMoods_32 rfl rfl rfl ?_
      exact ev_ireturn dX10_allMoods_33 rfl (rx_ret_i h)
    · replace h := rx_if_f c5 h
      refine ev_iload_n (i := 1) 16 dX10_allMoods_15 rfl rfl rfl ?_
      refine ev_aload_n (i := 0) 17 dX10_allMoods_16 rfl rfl rfl ?_
      refine ev_get (v := .ref 32) 20 dX10_allMoods_17 dk_0 fl_10_31 (by decide) rfl rfl rfl ?_
      refine ev_iconst (v := 4) 21 dX10_allMoods_20 (by decide) rfl ?_
      refine ev_iload_n (i := 2) 22 dX10_allMoods_21 rfl rfl rfl ?_
      refine ev_iadd 23 dX10_allMoods_22 rfl ?_
      obtain ⟨g6, h⟩ := rx_gd_o h
      refine ex_iald _ 24 dX10_allMoods_23 dk_32 g6 rfl rfl ?_
      refine ev_iadd 25 dX10_allMoods_24 rfl ?_
      obtain ⟨x7, ex7, h⟩ := rx_let_o h
      refine ev_nm ex7 ?_
      refine ev_istore_n (ls' := [some (.ref 0), some (.int x7), some (.int x3)]) 26 dX10_allMoods_25 rfl (Nat.le_of_ble_eq_true rfl) rfl rfl ?_
      obtain ⟨x8, ex8, h⟩ := rx_let_o h
      refine ev_iinc (v := x8) (ls' := [some (.ref 0), some (.int x7), some (.int x8)]) 29 dX10_allMoods_26 rfl (by rw [ex8]; rfl) (Nat.le_of_ble_eq_true rfl) rfl rfl ?_
      refine ev_goto 4 dX10_allMoods_29 rfl ?_
      exact (ih _ _ _ h).fewer (rx_le_s (rx_le_s (rx_le_s rx_le_0)))

set_option maxHeartbeats 4000000 in
set_option maxRecDepth 20000 in
theorem em_X10_allMoods {d N : Nat} {S0 : rx_S} {zr : Int32} {zS : rx_S} (h : f_X10_allMoods N S0 = some (zr, zS)) : EM gC d mX10_allMoods [.ref 0] S0 (rx_pi zr zS) := by
  unfold f_X10_allMoods at h
  show EV gC d mX10_allMoods 0 [some (.ref 0), none, none] [] S0 (rx_pi zr zS)
  refine ev_iconst (v := 0) 1 dX10_allMoods_0 (by decide) rfl ?_
  refine ev_istore_n (ls' := [some (.ref 0), some (.int 0), none]) 2 dX10_allMoods_1 rfl (Nat.le_of_ble_eq_true rfl) rfl rfl ?_
  refine ev_iconst (v := 0) 3 dX10_allMoods_2 (by decide) rfl ?_
  refine ev_istore_n (ls' := [some (.ref 0), some (.int 0), some (.int 0)]) 4 dX10_allMoods_3 rfl (Nat.le_of_ble_eq_true rfl) rfl rfl ?_
  exact (em_X10_allMoods_L4 _ _ _ _ h).fewer (rx_le_s (rx_le_s (rx_le_s rx_le_0)))

def f_X10_bitsOf_L5 (N : Nat) : Nat → Int32 → Int32 → Int32 → Int32 → rx_S → Option (Int32 × rx_S)
  | 0, _, _, _, _, _ => none
  | n + 1, x4, x5, x6, x7, S8 => if x5 ≤ x7 then (some (x6, S8)) else (rx_gd (x4 + x7) 48 (if (S8.1 32 (Int32.toNatClampNeg (x4 + x7))) = 0 then (rx_let (x7 + 1) (fun x12 => f_X10_bitsOf_L5 N n x4 x5 x6 x12 S8)) else (rx_let (x6 ||| ((1 : Int32) <<< (x7 &&& 31))) (fun x13 => rx_let (x7 + 1) (fun x14 => f_X10_bitsOf_L5 N n x4 x5 x13 x14 S8)))))
def f_X10_bitsOf (N : Nat) (x1 : Int32) (x2 : Int32) (S0 : rx_S) : Option (Int32 × rx_S) := f_X10_bitsOf_L5 N N x1 x2 0 0 S0
set_option maxHeartbeats 4000000 in
set_option maxRecDepth 20000 in
theorem em_X10_bitsOf_L5 {d N : Nat} {zr : Int32} {zS : rx_S} : ∀ (n : Nat) (x4 : Int32) (x5 : Int32) (x6 : Int32) (x7 : Int32) (S8 : rx_S), f_X10_bitsOf_L5 N n x4 x5 x6 x7 S8 = some (zr, zS) → EV gC d mX10_bitsOf 5 [some (.ref 0), some (.int x4), some (.int x5), some (.int x6), some (.int x7)] [] S8 (rx_pi zr zS) := by
  intro n
  induction n with
  | zero => intro x4 x5 x6 x7 S8 h; cases h
  | succ n ih =>
    intro x4 x5 x6 x7 S8 h
    rw [f_X10_bitsOf_L5] at h
    refine ev_iload 7 dX10_bitsOf_5 rfl rfl ?_
    refine ev_iload_n (i := 2) 8 dX10_bitsOf_7 rfl rfl rfl ?_
    refine ev_icmp_ge 36 11 dX10_bitsOf_8 rfl rfl (fun c9 => ?_) (fun c9 => ?_)
    · replace h := rx_if_t c9 h
      refine ev_iload_n (i := 3) 37 dX10_bitsOf_36 rfl rfl rfl ?_
      exact ev_ireturn dX10_bitsOf_37 rfl (rx_ret_i h)
    · replace h := rx_if_f c9 h
      refine ev_aload_n (i := 0) 12 dX10_bitsOf_11 rfl rfl rfl ?_
      refine ev_get (v := .ref 32) 15 dX10_bitsOf_12 dk_0 fl_10_31 (by decide) rfl rfl rfl ?_
      refine ev_iload_n (i := 1) 16 dX10_bitsOf_15 rfl rfl rfl ?_
      refine ev_iload 18 dX10_bitsOf_16 rfl rfl ?_
      refine ev_iadd 19 dX10_bitsOf_18 rfl ?_
      obtain ⟨g10, h⟩ := rx_gd_o h
      refine ex_iald _ 20 dX10_bitsOf_19 dk_32 g10 rfl rfl ?_
      refine ev_if_eq 30 23 dX10_bitsOf_20 rfl rfl (fun c11 => ?_) (fun c11 => ?_)
      · replace h := rx_if_t c11 h
        obtain ⟨x12, ex12, h⟩ := rx_let_o h
        refine ev_iinc (v := x12) (ls' := [some (.ref 0), some (.int x4), some (.int x5), some (.int x6), some (.int x12)]) 33 dX10_bitsOf_30 rfl (by rw [ex12]; rfl) (Nat.le_of_ble_eq_true rfl) rfl rfl ?_
        refine ev_goto 5 dX10_bitsOf_33 rfl ?_
        exact (ih _ _ _ _ _ h).fewer (rx_le_s (rx_le_s (rx_le_s (rx_le_s (rx_le_s rx_le_0)))))
      · replace h := rx_if_f c11 h
        refine ev_iload_n (i := 3) 24 dX10_bitsOf_23 rfl rfl rfl ?_
        refine ev_iconst (v := 1) 25 dX10_bitsOf_24 (by decide) rfl ?_
        refine ev_iload 27 dX10_bitsOf_25 rfl rfl ?_
        refine ev_ishl 28 dX10_bitsOf_27 rfl ?_
        refine ev_ior 29 dX10_bitsOf_28 rfl ?_
        obtain ⟨x13, ex13, h⟩ := rx_let_o h
        refine ev_nm ex13 ?_
        refine ev_istore_n (ls' := [some (.ref 0), some (.int x4), some (.int x5), some (.int x13), some (.int x7)]) 30 dX10_bitsOf_29 rfl (Nat.le_of_ble_eq_true rfl) rfl rfl ?_
        obtain ⟨x14, ex14, h⟩ := rx_let_o h
        refine ev_iinc (v := x14) (ls' := [some (.ref 0), some (.int x4), some (.int x5), some (.int x13), some (.int x14)]) 33 dX10_bitsOf_30 rfl (by rw [ex14]; rfl) (Nat.le_of_ble_eq_true rfl) rfl rfl ?_
        refine ev_goto 5 dX10_bitsOf_33 rfl ?_
        exact (ih _ _ _ _ _ h).fewer (rx_le_s (rx_le_s (rx_le_s (rx_le_s (rx_le_s rx_le_0)))))

set_option maxHeartbeats 4000000 in
set_option maxRecDepth 20000 in
theorem em_X10_bitsOf {d N : Nat} {x1 : Int32} {x2 : Int32} {S0 : rx_S} {zr : Int32} {zS : rx_S} (h : f_X10_bitsOf N x1 x2 S0 = some (zr, zS)) : EM gC d mX10_bitsOf [.ref 0, .int x1, .int x2] S0 (rx_pi zr zS) := by
  unfold f_X10_bitsOf at h
  show EV gC d mX10_bitsOf 0 [some (.ref 0), some (.int x1), some (.int x2), none, none] [] S0 (rx_pi zr zS)
  refine ev_iconst (v := 0) 1 dX10_bitsOf_0 (by decide) rfl ?_
  refine ev_istore_n (ls' := [some (.ref 0), some (.int x1), some (.int x2), some (.int 0), none]) 2 dX10_bitsOf_1 rfl (Nat.le_of_ble_eq_true rfl) rfl rfl ?_
  refine ev_iconst (v := 0) 3 dX10_bitsOf_2 (by decide) rfl ?_
  refine ev_istore (ls' := [some (.ref 0), some (.int x1), some (.int x2), some (.int 0), some (.int 0)]) 5 dX10_bitsOf_3 (Nat.le_of_ble_eq_true rfl) rfl rfl ?_
  exact (em_X10_bitsOf_L5 _ _ _ _ _ _ h).fewer (rx_le_s (rx_le_s (rx_le_s (rx_le_s (rx_le_s rx_le_0)))))

def f_X10_count (N : Nat) (x1 : Int32) (S0 : rx_S) : Option (Int32 × rx_S) := if x1 = 0 then (some ((S0.1 2 6), S0)) else (if x1 = 1 then (some ((S0.1 2 7), S0)) else (if x1 = 2 then (some ((S0.1 2 8), S0)) else (if x1 = 3 then (some ((S0.1 32 0), S0)) else (if x1 = 4 then (rx_bd (f_X10_bitsOf N 19 (S0.1 2 7) S0) (fun x9 S8 => some (x9, S8))) else (if x1 = 5 then (rx_bd (f_X10_bitsOf N 36 (S0.1 2 8) S0) (fun x13 S12 => some (x13, S12))) else (if x1 = 6 then (some ((S0.1 32 1), S0)) else (if x1 = 7 then (some ((S0.1 32 2), S0)) else (if x1 = 8 then (some ((S0.1 0 1), S0)) else (if x1 = 9 then (some ((S0.1 33 4), S0)) else (if x1 = 10 then (some ((S0.1 91 4), S0)) else (if x1 = 11 then (rx_bd (f_X3_heldCount N S0) (fun x22 S21 => some (x22, S21))) else (if x1 = 12 then (some ((S0.1 32 3), S0)) else (if x1 = 13 then (rx_bd (f_X10_allMoods N S0) (fun x27 S26 => some (x27, S26))) else (some ((-1), S0)))))))))))))))
set_option maxHeartbeats 4000000 in
set_option maxRecDepth 20000 in
theorem em_X10_count {d N : Nat} {x1 : Int32} {S0 : rx_S} {zr : Int32} {zS : rx_S} (h : f_X10_count N x1 S0 = some (zr, zS)) : EM gC (d + 1) mX10_count [.ref 0, .int x1] S0 (rx_pi zr zS) := by
  unfold f_X10_count at h
  show EV gC (d + 1) mX10_count 0 [some (.ref 0), some (.int x1)] [] S0 (rx_pi zr zS)
  refine ev_iload_n (i := 1) 1 dX10_count_0 rfl rfl rfl ?_
  by_cases c3 : x1 = 0
  · replace h := rx_if_t c3 h
    refine ev_tableIn 72 dX10_count_1 (by rw [c3]; decide) (by rw [c3]; decide) (off := 71) (by rw [c3]; rfl) rfl ?_
    refine ev_aload_n (i := 0) 73 dX10_count_72 rfl rfl rfl ?_
    refine ev_get (v := .ref 2) 76 dX10_count_73 dk_0 fl_10_20 (by decide) rfl rfl rfl ?_
    refine ev_get (v := .int (S0.1 2 6)) 79 dX10_count_76 dk_2 fl_10_141 (by decide) rfl rfl rfl ?_
    exact ev_ireturn dX10_count_79 rfl (rx_ret_i h)
  · replace h := rx_if_f c3 h
    by_cases c4 : x1 = 1
    · replace h := rx_if_t c4 h
      refine ev_tableIn 80 dX10_count_1 (by rw [c4]; decide) (by rw [c4]; decide) (off := 79) (by rw [c4]; rfl) rfl ?_
      refine ev_aload_n (i := 0) 81 dX10_count_80 rfl rfl rfl ?_
      refine ev_get (v := .ref 2) 84 dX10_count_81 dk_0 fl_10_20 (by decide) rfl rfl rfl ?_
      refine ev_get (v := .int (S0.1 2 7)) 87 dX10_count_84 dk_2 fl_10_138 (by decide) rfl rfl rfl ?_
      exact ev_ireturn dX10_count_87 rfl (rx_ret_i h)
    · replace h := rx_if_f c4 h
      by_cases c5 : x1 = 2
      · replace h := rx_if_t c5 h
        refine ev_tableIn 88 dX10_count_1 (by rw [c5]; decide) (by rw [c5]; decide) (off := 87) (by rw [c5]; rfl) rfl ?_
        refine ev_aload_n (i := 0) 89 dX10_count_88 rfl rfl rfl ?_
        refine ev_get (v := .ref 2) 92 dX10_count_89 dk_0 fl_10_20 (by decide) rfl rfl rfl ?_
        refine ev_get (v := .int (S0.1 2 8)) 95 dX10_count_92 dk_2 fl_10_144 (by decide) rfl rfl rfl ?_
        exact ev_ireturn dX10_count_95 rfl (rx_ret_i h)
      · replace h := rx_if_f c5 h
        by_cases c6 : x1 = 3
        · replace h := rx_if_t c6 h
          refine ev_tableIn 96 dX10_count_1 (by rw [c6]; decide) (by rw [c6]; decide) (off := 95) (by rw [c6]; rfl) rfl ?_
          refine ev_aload_n (i := 0) 97 dX10_count_96 rfl rfl rfl ?_
          refine ev_get (v := .ref 32) 100 dX10_count_97 dk_0 fl_10_31 (by decide) rfl rfl rfl ?_
          refine ev_iconst (v := 0) 101 dX10_count_100 (by decide) rfl ?_
          refine ex_iald 0 102 dX10_count_101 dk_32 (rx_vin (by decide)) (by decide) rfl ?_
          exact ev_ireturn dX10_count_102 rfl (rx_ret_i h)
        · replace h := rx_if_f c6 h
          by_cases c7 : x1 = 4
          · replace h := rx_if_t c7 h
            refine ev_tableIn 103 dX10_count_1 (by rw [c7]; decide) (by rw [c7]; decide) (off := 102) (by rw [c7]; rfl) rfl ?_
            refine ev_aload_n (i := 0) 104 dX10_count_103 rfl rfl rfl ?_
            refine ev_bipush (v := 19) 106 dX10_count_104 (by decide) rfl ?_
            refine ev_aload_n (i := 0) 107 dX10_count_106 rfl rfl rfl ?_
            refine ev_get (v := .ref 2) 110 dX10_count_107 dk_0 fl_10_20 (by decide) rfl rfl rfl ?_
            refine ev_get (v := .int (S0.1 2 7)) 113 dX10_count_110 dk_2 fl_10_138 (by decide) rfl rfl rfl ?_
            obtain ⟨x9, S8, g10, h⟩ := rx_bd_o h
            refine ev_cVi2 116 dX10_count_113 (em_X10_bitsOf g10) mm_X10_bitsOf mv_X10_bitsOf lk_10_147 dk_0 (by decide) rfl (Nat.le_of_ble_eq_true rfl) (Nat.le_of_ble_eq_true rfl) rfl ?_
            exact ev_ireturn dX10_count_116 rfl (rx_ret_i h)
          · replace h := rx_if_f c7 h
            by_cases c11 : x1 = 5
            · replace h := rx_if_t c11 h
              refine ev_tableIn 117 dX10_count_1 (by rw [c11]; decide) (by rw [c11]; decide) (off := 116) (by rw [c11]; rfl) rfl ?_
              refine ev_aload_n (i := 0) 118 dX10_count_117 rfl rfl rfl ?_
              refine ev_bipush (v := 36) 120 dX10_count_118 (by decide) rfl ?_
              refine ev_aload_n (i := 0) 121 dX10_count_120 rfl rfl rfl ?_
              refine ev_get (v := .ref 2) 124 dX10_count_121 dk_0 fl_10_20 (by decide) rfl rfl rfl ?_
              refine ev_get (v := .int (S0.1 2 8)) 127 dX10_count_124 dk_2 fl_10_144 (by decide) rfl rfl rfl ?_
              obtain ⟨x13, S12, g14, h⟩ := rx_bd_o h
              refine ev_cVi2 130 dX10_count_127 (em_X10_bitsOf g14) mm_X10_bitsOf mv_X10_bitsOf lk_10_147 dk_0 (by decide) rfl (Nat.le_of_ble_eq_true rfl) (Nat.le_of_ble_eq_true rfl) rfl ?_
              exact ev_ireturn dX10_count_130 rfl (rx_ret_i h)
            · replace h := rx_if_f c11 h
              by_cases c15 : x1 = 6
              · replace h := rx_if_t c15 h
                refine ev_tableIn 131 dX10_count_1 (by rw [c15]; decide) (by rw [c15]; decide) (off := 130) (by rw [c15]; rfl) rfl ?_
                refine ev_aload_n (i := 0) 132 dX10_count_131 rfl rfl rfl ?_
                refine ev_get (v := .ref 32) 135 dX10_count_132 dk_0 fl_10_31 (by decide) rfl rfl rfl ?_
                refine ev_iconst (v := 1) 136 dX10_count_135 (by decide) rfl ?_
                refine ex_iald 1 137 dX10_count_136 dk_32 (rx_vin (by decide)) (by decide) rfl ?_
                exact ev_ireturn dX10_count_137 rfl (rx_ret_i h)
              · replace h := rx_if_f c15 h
                by_cases c16 : x1 = 7
                · replace h := rx_if_t c16 h
                  refine ev_tableIn 138 dX10_count_1 (by rw [c16]; decide) (by rw [c16]; decide) (off := 137) (by rw [c16]; rfl) rfl ?_
                  refine ev_aload_n (i := 0) 139 dX10_count_138 rfl rfl rfl ?_
                  refine ev_get (v := .ref 32) 142 dX10_count_139 dk_0 fl_10_31 (by decide) rfl rfl rfl ?_
                  refine ev_iconst (v := 2) 143 dX10_count_142 (by decide) rfl ?_
                  refine ex_iald 2 144 dX10_count_143 dk_32 (rx_vin (by decide)) (by decide) rfl ?_
                  exact ev_ireturn dX10_count_144 rfl (rx_ret_i h)
                · replace h := rx_if_f c16 h
                  by_cases c17 : x1 = 8
                  · replace h := rx_if_t c17 h
                    refine ev_tableIn 145 dX10_count_1 (by rw [c17]; decide) (by rw [c17]; decide) (off := 144) (by rw [c17]; rfl) rfl ?_
                    refine ev_aload_n (i := 0) 146 dX10_count_145 rfl rfl rfl ?_
                    refine ev_get (v := .int (S0.1 0 1)) 149 dX10_count_146 dk_0 fl_10_81 (by decide) rfl rfl rfl ?_
                    exact ev_ireturn dX10_count_149 rfl (rx_ret_i h)
                  · replace h := rx_if_f c17 h
                    by_cases c18 : x1 = 9
                    · replace h := rx_if_t c18 h
                      refine ev_tableIn 150 dX10_count_1 (by rw [c18]; decide) (by rw [c18]; decide) (off := 149) (by rw [c18]; rfl) rfl ?_
                      refine ev_aload_n (i := 0) 151 dX10_count_150 rfl rfl rfl ?_
                      refine ev_get (v := .ref 33) 154 dX10_count_151 dk_0 fl_10_38 (by decide) rfl rfl rfl ?_
                      refine ev_get (v := .int (S0.1 33 4)) 157 dX10_count_154 dk_33 fl_10_151 (by decide) rfl rfl rfl ?_
                      exact ev_ireturn dX10_count_157 rfl (rx_ret_i h)
                    · replace h := rx_if_f c18 h
                      by_cases c19 : x1 = 10
                      · replace h := rx_if_t c19 h
                        refine ev_tableIn 158 dX10_count_1 (by rw [c19]; decide) (by rw [c19]; decide) (off := 157) (by rw [c19]; rfl) rfl ?_
                        refine ev_aload_n (i := 0) 159 dX10_count_158 rfl rfl rfl ?_
                        refine ev_get (v := .ref 91) 162 dX10_count_159 dk_0 fl_10_70 (by decide) rfl rfl rfl ?_
                        refine ev_get (v := .int (S0.1 91 4)) 165 dX10_count_162 dk_91 fl_10_154 (by decide) rfl rfl rfl ?_
                        exact ev_ireturn dX10_count_165 rfl (rx_ret_i h)
                      · replace h := rx_if_f c19 h
                        by_cases c20 : x1 = 11
                        · replace h := rx_if_t c20 h
                          refine ev_tableIn 166 dX10_count_1 (by rw [c20]; decide) (by rw [c20]; decide) (off := 165) (by rw [c20]; rfl) rfl ?_
                          refine ev_aload_n (i := 0) 167 dX10_count_166 rfl rfl rfl ?_
                          refine ev_get (v := .ref 33) 170 dX10_count_167 dk_0 fl_10_38 (by decide) rfl rfl rfl ?_
                          obtain ⟨x22, S21, g23, h⟩ := rx_bd_o h
                          refine ev_cVi0 173 dX10_count_170 (em_X3_heldCount g23) mm_X3_heldCount mv_X3_heldCount lk_10_157 dk_33 (by decide) rfl (Nat.le_of_ble_eq_true rfl) (Nat.le_of_ble_eq_true rfl) rfl ?_
                          exact ev_ireturn dX10_count_173 rfl (rx_ret_i h)
                        · replace h := rx_if_f c20 h
                          by_cases c24 : x1 = 12
                          · replace h := rx_if_t c24 h
                            refine ev_tableIn 174 dX10_count_1 (by rw [c24]; decide) (by rw [c24]; decide) (off := 173) (by rw [c24]; rfl) rfl ?_
                            refine ev_aload_n (i := 0) 175 dX10_count_174 rfl rfl rfl ?_
                            refine ev_get (v := .ref 32) 178 dX10_count_175 dk_0 fl_10_31 (by decide) rfl rfl rfl ?_
                            refine ev_iconst (v := 3) 179 dX10_count_178 (by decide) rfl ?_
                            refine ex_iald 3 180 dX10_count_179 dk_32 (rx_vin (by decide)) (by decide) rfl ?_
                            exact ev_ireturn dX10_count_180 rfl (rx_ret_i h)
                          · replace h := rx_if_f c24 h
                            by_cases c25 : x1 = 13
                            · replace h := rx_if_t c25 h
                              refine ev_tableIn 181 dX10_count_1 (by rw [c25]; decide) (by rw [c25]; decide) (off := 180) (by rw [c25]; rfl) rfl ?_
                              refine ev_aload_n (i := 0) 182 dX10_count_181 rfl rfl rfl ?_
                              obtain ⟨x27, S26, g28, h⟩ := rx_bd_o h
                              refine ev_cVi0 185 dX10_count_182 (em_X10_allMoods g28) mm_X10_allMoods mv_X10_allMoods lk_10_161 dk_0 (by decide) rfl (Nat.le_of_ble_eq_true rfl) (Nat.le_of_ble_eq_true rfl) rfl ?_
                              exact ev_ireturn dX10_count_185 rfl (rx_ret_i h)
                            · replace h := rx_if_f c25 h
                              refine ev_tableOut 186 dX10_count_1 (by have q0 := rx_ne c3 (z := 0) (by decide); have q1 := rx_ne c4 (z := 1) (by decide); have q2 := rx_ne c5 (z := 2) (by decide); have q3 := rx_ne c6 (z := 3) (by decide); have q4 := rx_ne c7 (z := 4) (by decide); have q5 := rx_ne c11 (z := 5) (by decide); have q6 := rx_ne c15 (z := 6) (by decide); have q7 := rx_ne c16 (z := 7) (by decide); have q8 := rx_ne c17 (z := 8) (by decide); have q9 := rx_ne c18 (z := 9) (by decide); have q10 := rx_ne c19 (z := 10) (by decide); have q11 := rx_ne c20 (z := 11) (by decide); have q12 := rx_ne c24 (z := 12) (by decide); have q13 := rx_ne c25 (z := 13) (by decide); omega) rfl ?_
                              refine ev_iconst (v := (-1)) 187 dX10_count_186 (by decide) rfl ?_
                              exact ev_ireturn dX10_count_187 rfl (rx_ret_i h)

def f_X10_hire (x1 : Int32) (x2 : Int32) (S0 : rx_S) : Option (Int32 × rx_S) := rx_bd (f_X8_hasCouple 2 x1 S0) (fun x5 S4 => if x5 = 0 then (some (0, S4)) else (rx_let (fun (x8 : Int32) (x9 : Int32) (S10 : rx_S) => rx_gd ((19 : Int32) + x8) 48 (if (S10.1 32 (Int32.toNatClampNeg ((19 : Int32) + x8))) = 0 then (rx_gd ((16 : Int32) + x8) 48 (if (S10.1 32 (Int32.toNatClampNeg ((16 : Int32) + x8))) = x9 then (some (0, S10)) else (rx_bd (f_X3_remember S10) (fun x16 S15 => rx_gd ((16 : Int32) + x8) 48 (rx_let (rx_ui S15 32 (Int32.toNatClampNeg ((16 : Int32) + x8)) x9) (fun S19 => some (1, S19))))))) else (some (0, S10)))) (fun J29_1 => if x2 = (-1) then (J29_1 x1 x2 S4) else (rx_bd (f_X8_hasThird 2 x2 S4) (fun x22 S21 => if x22 = 0 then (some (0, S21)) else (J29_1 x1 x2 S21))))))
set_option maxHeartbeats 4000000 in
set_option maxRecDepth 20000 in
theorem em_X10_hire {d : Nat} {x1 : Int32} {x2 : Int32} {S0 : rx_S} {zr : Int32} {zS : rx_S} (h : f_X10_hire x1 x2 S0 = some (zr, zS)) : EM gC (d + 2) mX10_hire [.ref 0, .int x1, .int x2] S0 (rx_pi zr zS) := by
  unfold f_X10_hire at h
  show EV gC (d + 2) mX10_hire 0 [some (.ref 0), some (.int x1), some (.int x2)] [] S0 (rx_pi zr zS)
  refine ev_aload_n (i := 0) 1 dX10_hire_0 rfl rfl rfl ?_
  refine ev_get (v := .ref 2) 4 dX10_hire_1 dk_0 fl_10_20 (by decide) rfl rfl rfl ?_
  refine ev_iload_n (i := 1) 5 dX10_hire_4 rfl rfl rfl ?_
  obtain ⟨x5, S4, g6, h⟩ := rx_bd_o h
  refine ev_cVi1 8 dX10_hire_5 (em_X8_hasCouple_2 g6) mm_X8_hasCouple mv_X8_hasCouple lk_10_117 dk_2 (by decide) rfl (Nat.le_of_ble_eq_true rfl) (Nat.le_of_ble_eq_true rfl) rfl ?_
  refine ev_if_eq 27 11 dX10_hire_8 rfl rfl (fun c7 => ?_) (fun c7 => ?_)
  · replace h := rx_if_t c7 h
    refine ev_iconst (v := 0) 28 dX10_hire_27 (by decide) rfl ?_
    exact ev_zreturn dX10_hire_28 rfl (by decide) (rx_ret_i h)
  · replace h := rx_if_f c7 h
    refine ev_iload_n (i := 2) 12 dX10_hire_11 rfl rfl rfl ?_
    refine ev_iconst (v := (-1)) 13 dX10_hire_12 (by decide) rfl ?_
    obtain ⟨J29_1, eJ29_1, h⟩ := rx_let_o h
    have hJ29_1 : ∀ (x8 : Int32) (x9 : Int32) (S10 : rx_S), J29_1 x8 x9 S10 = some (zr, zS) → EV gC (d + 2) mX10_hire 29 [some (.ref 0), some (.int x8), some (.int x9)] [] S10 (rx_pi zr zS) := by
      intro x8 x9 S10 h
      subst eJ29_1
      refine ev_aload_n (i := 0) 30 dX10_hire_29 rfl rfl rfl ?_
      refine ev_get (v := .ref 32) 33 dX10_hire_30 dk_0 fl_10_31 (by decide) rfl rfl rfl ?_
      refine ev_bipush (v := 19) 35 dX10_hire_33 (by decide) rfl ?_
      refine ev_iload_n (i := 1) 36 dX10_hire_35 rfl rfl rfl ?_
      refine ev_iadd 37 dX10_hire_36 rfl ?_
      obtain ⟨g11, h⟩ := rx_gd_o h
      refine ex_iald _ 38 dX10_hire_37 dk_32 g11 rfl rfl ?_
      refine ev_if_ne 54 41 dX10_hire_38 rfl rfl (fun c12 => ?_) (fun c12 => ?_)
      · replace h := rx_if_f c12 h
        refine ev_iconst (v := 0) 55 dX10_hire_54 (by decide) rfl ?_
        exact ev_zreturn dX10_hire_55 rfl (by decide) (rx_ret_i h)
      · replace h := rx_if_t c12 h
        refine ev_aload_n (i := 0) 42 dX10_hire_41 rfl rfl rfl ?_
        refine ev_get (v := .ref 32) 45 dX10_hire_42 dk_0 fl_10_31 (by decide) rfl rfl rfl ?_
        refine ev_bipush (v := 16) 47 dX10_hire_45 (by decide) rfl ?_
        refine ev_iload_n (i := 1) 48 dX10_hire_47 rfl rfl rfl ?_
        refine ev_iadd 49 dX10_hire_48 rfl ?_
        obtain ⟨g13, h⟩ := rx_gd_o h
        refine ex_iald _ 50 dX10_hire_49 dk_32 g13 rfl rfl ?_
        refine ev_iload_n (i := 2) 51 dX10_hire_50 rfl rfl rfl ?_
        refine ev_icmp_ne 56 54 dX10_hire_51 rfl rfl (fun c14 => ?_) (fun c14 => ?_)
        · replace h := rx_if_f c14 h
          refine ev_aload_n (i := 0) 57 dX10_hire_56 rfl rfl rfl ?_
          refine ev_get (v := .ref 33) 60 dX10_hire_57 dk_0 fl_10_38 (by decide) rfl rfl rfl ?_
          refine ev_aload_n (i := 0) 61 dX10_hire_60 rfl rfl rfl ?_
          refine ev_get (v := .ref 32) 64 dX10_hire_61 dk_0 fl_10_31 (by decide) rfl rfl rfl ?_
          obtain ⟨x16, S15, g17, h⟩ := rx_bd_o h
          refine ev_cVv1 67 dX10_hire_64 (em_X3_remember g17) mm_X3_remember mv_X3_remember lk_10_164 dk_33 (by decide) rfl (Nat.le_of_ble_eq_true rfl) (Nat.le_of_ble_eq_true rfl) rfl ?_
          refine ev_aload_n (i := 0) 68 dX10_hire_67 rfl rfl rfl ?_
          refine ev_get (v := .ref 32) 71 dX10_hire_68 dk_0 fl_10_31 (by decide) rfl rfl rfl ?_
          refine ev_bipush (v := 16) 73 dX10_hire_71 (by decide) rfl ?_
          refine ev_iload_n (i := 1) 74 dX10_hire_73 rfl rfl rfl ?_
          refine ev_iadd 75 dX10_hire_74 rfl ?_
          refine ev_iload_n (i := 2) 76 dX10_hire_75 rfl rfl rfl ?_
          obtain ⟨g18, h⟩ := rx_gd_o h
          obtain ⟨S19, eS19, h⟩ := rx_let_o h
          refine ex_iast _ 77 dX10_hire_76 dk_32 g18 rfl rfl eS19 ?_
          refine ev_iconst (v := 1) 78 dX10_hire_77 (by decide) rfl ?_
          exact ev_zreturn dX10_hire_78 rfl (by decide) (rx_ret_i h)
        · replace h := rx_if_t c14 h
          refine ev_iconst (v := 0) 55 dX10_hire_54 (by decide) rfl ?_
          exact ev_zreturn dX10_hire_55 rfl (by decide) (rx_ret_i h)
    refine ev_icmp_eq 29 16 dX10_hire_13 rfl rfl (fun c20 => ?_) (fun c20 => ?_)
    · replace h := rx_if_t c20 h
      exact (hJ29_1 _ _ _ h).fewer (rx_le_s (rx_le_s (rx_le_s rx_le_0)))
    · replace h := rx_if_f c20 h
      refine ev_aload_n (i := 0) 17 dX10_hire_16 rfl rfl rfl ?_
      refine ev_get (v := .ref 2) 20 dX10_hire_17 dk_0 fl_10_20 (by decide) rfl rfl rfl ?_
      refine ev_iload_n (i := 2) 21 dX10_hire_20 rfl rfl rfl ?_
      obtain ⟨x22, S21, g23, h⟩ := rx_bd_o h
      refine ev_cVi1 24 dX10_hire_21 (em_X8_hasThird_2 g23) mm_X8_hasThird mv_X8_hasThird lk_10_123 dk_2 (by decide) rfl (Nat.le_of_ble_eq_true rfl) (Nat.le_of_ble_eq_true rfl) rfl ?_
      refine ev_if_ne 29 27 dX10_hire_24 rfl rfl (fun c24 => ?_) (fun c24 => ?_)
      · replace h := rx_if_f c24 h
        exact (hJ29_1 _ _ _ h).fewer (rx_le_s (rx_le_s (rx_le_s rx_le_0)))
      · replace h := rx_if_t c24 h
        refine ev_iconst (v := 0) 28 dX10_hire_27 (by decide) rfl ?_
        exact ev_zreturn dX10_hire_28 rfl (by decide) (rx_ret_i h)

def f_X10_swear (x1 : Int32) (x2 : Int32) (S0 : rx_S) : Option (Int32 × rx_S) := rx_let (fun (x4 : Int32) (x5 : Int32) (S6 : rx_S) => rx_bd (f_X8_hasThird 2 x4 S6) (fun x8 S7 => if x8 = 0 then (some (0, S7)) else (rx_gd ((36 : Int32) + x4) 48 (if (S7.1 32 (Int32.toNatClampNeg ((36 : Int32) + x4))) = x5 then (some (0, S7)) else (rx_bd (f_X3_remember S7) (fun x14 S13 => rx_gd ((36 : Int32) + x4) 48 (rx_let (rx_ui S13 32 (Int32.toNatClampNeg ((36 : Int32) + x4)) x5) (fun S17 => some (1, S17))))))))) (fun J9_1 => if x2 = 0 then (J9_1 x1 0 S0) else (J9_1 x1 1 S0))
set_option maxHeartbeats 4000000 in
set_option maxRecDepth 20000 in
theorem em_X10_swear {d : Nat} {x1 : Int32} {x2 : Int32} {S0 : rx_S} {zr : Int32} {zS : rx_S} (h : f_X10_swear x1 x2 S0 = some (zr, zS)) : EM gC (d + 2) mX10_swear [.ref 0, .int x1, .int x2] S0 (rx_pi zr zS) := by
  unfold f_X10_swear at h
  show EV gC (d + 2) mX10_swear 0 [some (.ref 0), some (.int x1), some (.int x2), none] [] S0 (rx_pi zr zS)
  refine ev_iload_n (i := 2) 1 dX10_swear_0 rfl rfl rfl ?_
  obtain ⟨J9_1, eJ9_1, h⟩ := rx_let_o h
  have hJ9_1 : ∀ (x4 : Int32) (x5 : Int32) (S6 : rx_S), J9_1 x4 x5 S6 = some (zr, zS) → EV gC (d + 2) mX10_swear 9 [some (.ref 0), some (.int x4), none, none] [.int x5] S6 (rx_pi zr zS) := by
    intro x4 x5 S6 h
    subst eJ9_1
    refine ev_istore_n (ls' := [some (.ref 0), some (.int x4), none, some (.int x5)]) 10 dX10_swear_9 rfl (Nat.le_of_ble_eq_true rfl) rfl rfl ?_
    refine ev_aload_n (i := 0) 11 dX10_swear_10 rfl rfl rfl ?_
    refine ev_get (v := .ref 2) 14 dX10_swear_11 dk_0 fl_10_20 (by decide) rfl rfl rfl ?_
    refine ev_iload_n (i := 1) 15 dX10_swear_14 rfl rfl rfl ?_
    obtain ⟨x8, S7, g9, h⟩ := rx_bd_o h
    refine ev_cVi1 18 dX10_swear_15 (em_X8_hasThird_2 g9) mm_X8_hasThird mv_X8_hasThird lk_10_123 dk_2 (by decide) rfl (Nat.le_of_ble_eq_true rfl) (Nat.le_of_ble_eq_true rfl) rfl ?_
    refine ev_if_eq 34 21 dX10_swear_18 rfl rfl (fun c10 => ?_) (fun c10 => ?_)
    · replace h := rx_if_t c10 h
      refine ev_iconst (v := 0) 35 dX10_swear_34 (by decide) rfl ?_
      exact ev_zreturn dX10_swear_35 rfl (by decide) (rx_ret_i h)
    · replace h := rx_if_f c10 h
      refine ev_aload_n (i := 0) 22 dX10_swear_21 rfl rfl rfl ?_
      refine ev_get (v := .ref 32) 25 dX10_swear_22 dk_0 fl_10_31 (by decide) rfl rfl rfl ?_
      refine ev_bipush (v := 36) 27 dX10_swear_25 (by decide) rfl ?_
      refine ev_iload_n (i := 1) 28 dX10_swear_27 rfl rfl rfl ?_
      refine ev_iadd 29 dX10_swear_28 rfl ?_
      obtain ⟨g11, h⟩ := rx_gd_o h
      refine ex_iald _ 30 dX10_swear_29 dk_32 g11 rfl rfl ?_
      refine ev_iload_n (i := 3) 31 dX10_swear_30 rfl rfl rfl ?_
      refine ev_icmp_ne 36 34 dX10_swear_31 rfl rfl (fun c12 => ?_) (fun c12 => ?_)
      · replace h := rx_if_f c12 h
        refine ev_aload_n (i := 0) 37 dX10_swear_36 rfl rfl rfl ?_
        refine ev_get (v := .ref 33) 40 dX10_swear_37 dk_0 fl_10_38 (by decide) rfl rfl rfl ?_
        refine ev_aload_n (i := 0) 41 dX10_swear_40 rfl rfl rfl ?_
        refine ev_get (v := .ref 32) 44 dX10_swear_41 dk_0 fl_10_31 (by decide) rfl rfl rfl ?_
        obtain ⟨x14, S13, g15, h⟩ := rx_bd_o h
        refine ev_cVv1 47 dX10_swear_44 (em_X3_remember g15) mm_X3_remember mv_X3_remember lk_10_164 dk_33 (by decide) rfl (Nat.le_of_ble_eq_true rfl) (Nat.le_of_ble_eq_true rfl) rfl ?_
        refine ev_aload_n (i := 0) 48 dX10_swear_47 rfl rfl rfl ?_
        refine ev_get (v := .ref 32) 51 dX10_swear_48 dk_0 fl_10_31 (by decide) rfl rfl rfl ?_
        refine ev_bipush (v := 36) 53 dX10_swear_51 (by decide) rfl ?_
        refine ev_iload_n (i := 1) 54 dX10_swear_53 rfl rfl rfl ?_
        refine ev_iadd 55 dX10_swear_54 rfl ?_
        refine ev_iload_n (i := 3) 56 dX10_swear_55 rfl rfl rfl ?_
        obtain ⟨g16, h⟩ := rx_gd_o h
        obtain ⟨S17, eS17, h⟩ := rx_let_o h
        refine ex_iast _ 57 dX10_swear_56 dk_32 g16 rfl rfl eS17 ?_
        refine ev_iconst (v := 1) 58 dX10_swear_57 (by decide) rfl ?_
        exact ev_zreturn dX10_swear_58 rfl (by decide) (rx_ret_i h)
      · replace h := rx_if_t c12 h
        refine ev_iconst (v := 0) 35 dX10_swear_34 (by decide) rfl ?_
        exact ev_zreturn dX10_swear_35 rfl (by decide) (rx_ret_i h)
  refine ev_if_eq 8 4 dX10_swear_1 rfl rfl (fun c18 => ?_) (fun c18 => ?_)
  · replace h := rx_if_t c18 h
    refine ev_iconst (v := 0) 9 dX10_swear_8 (by decide) rfl ?_
    exact (hJ9_1 _ _ _ h).fewer (rx_le_s (rx_le_s (rx_le_n (rx_le_n rx_le_0))))
  · replace h := rx_if_f c18 h
    refine ev_iconst (v := 1) 5 dX10_swear_4 (by decide) rfl ?_
    refine ev_goto 9 dX10_swear_5 rfl ?_
    exact (hJ9_1 _ _ _ h).fewer (rx_le_s (rx_le_s (rx_le_n (rx_le_n rx_le_0))))

def f_X10_weeks_L29 (N : Nat) (K58 : rx_S → Option (Int32 × rx_S)) : Nat → Int32 → Int32 → rx_S → Option (Int32 × rx_S)
  | 0, _, _, _ => none
  | n + 1, x8, x9, S10 => if x8 ≤ x9 then (K58 S10) else (rx_bd (f_X7_goThroughWeek 32 N (S10.1 2 10) S10) (fun x14 S13 => rx_let (x9 + 1) (fun x16 => f_X10_weeks_L29 N K58 n x8 x16 S13)))
def f_X10_weeks (N : Nat) (x1 : Int32) (S0 : rx_S) : Option (Int32 × rx_S) := if x1 < 0 then (some ((-1), S0)) else (if x1 ≤ 60 then (rx_let (fun (x5 : Int32) (S6 : rx_S) => rx_let (fun (S7 : rx_S) => some ((S7.1 32 0), S7)) (fun J58_2 => f_X10_weeks_L29 N J58_2 N x5 0 S6)) (fun J27_1 => if x1 ≤ 0 then (J27_1 x1 S0) else (rx_bd (f_X3_remember S0) (fun x19 S18 => J27_1 x1 S18)))) else (some ((-1), S0)))
set_option maxHeartbeats 4000000 in
set_option maxRecDepth 20000 in
theorem em_X10_weeks_L29 {d N : Nat} {K58 : rx_S → Option (Int32 × rx_S)} {zr : Int32} {zS : rx_S} (hK58 : ∀ (S11 : rx_S), K58 S11 = some (zr, zS) → EV gC (d + 6) mX10_weeks 58 [some (.ref 0), none, none] [] S11 (rx_pi zr zS)) : ∀ (n : Nat) (x8 : Int32) (x9 : Int32) (S10 : rx_S), f_X10_weeks_L29 N K58 n x8 x9 S10 = some (zr, zS) → EV gC (d + 6) mX10_weeks 29 [some (.ref 0), some (.int x8), some (.int x9)] [] S10 (rx_pi zr zS) := by
  intro n
  induction n with
  | zero => intro x8 x9 S10 h; cases h
  | succ n ih =>
    intro x8 x9 S10 h
    rw [f_X10_weeks_L29] at h
    refine ev_iload_n (i := 2) 30 dX10_weeks_29 rfl rfl rfl ?_
    refine ev_iload_n (i := 1) 31 dX10_weeks_30 rfl rfl rfl ?_
    refine ev_icmp_ge 58 34 dX10_weeks_31 rfl rfl (fun c12 => ?_) (fun c12 => ?_)
    · replace h := rx_if_t c12 h
      exact (hK58 _ h).fewer (rx_le_s (rx_le_n (rx_le_n rx_le_0)))
    · replace h := rx_if_f c12 h
      refine ev_aload_n (i := 0) 35 dX10_weeks_34 rfl rfl rfl ?_
      refine ev_get (v := .ref 80) 38 dX10_weeks_35 dk_0 fl_10_47 (by decide) rfl rfl rfl ?_
      refine ev_aload_n (i := 0) 39 dX10_weeks_38 rfl rfl rfl ?_
      refine ev_get (v := .ref 32) 42 dX10_weeks_39 dk_0 fl_10_31 (by decide) rfl rfl rfl ?_
      refine ev_aload_n (i := 0) 43 dX10_weeks_42 rfl rfl rfl ?_
      refine ev_get (v := .ref 2) 46 dX10_weeks_43 dk_0 fl_10_20 (by decide) rfl rfl rfl ?_
      refine ev_get (v := .int (S10.1 2 10)) 49 dX10_weeks_46 dk_2 fl_10_167 (by decide) rfl rfl rfl ?_
      obtain ⟨x14, S13, g15, h⟩ := rx_bd_o h
      refine ev_cVv2 52 dX10_weeks_49 (em_X7_goThroughWeek_32 g15) mm_X7_goThroughWeek mv_X7_goThroughWeek lk_10_170 dk_80 (by decide) rfl (Nat.le_of_ble_eq_true rfl) (Nat.le_of_ble_eq_true rfl) rfl ?_
      obtain ⟨x16, ex16, h⟩ := rx_let_o h
      refine ev_iinc (v := x16) (ls' := [some (.ref 0), some (.int x8), some (.int x16)]) 55 dX10_weeks_52 rfl (by rw [ex16]; rfl) (Nat.le_of_ble_eq_true rfl) rfl rfl ?_
      refine ev_goto 29 dX10_weeks_55 rfl ?_
      exact (ih _ _ _ h).fewer (rx_le_s (rx_le_s (rx_le_s rx_le_0)))

set_option maxHeartbeats 4000000 in
set_option maxRecDepth 20000 in
theorem em_X10_weeks {d N : Nat} {x1 : Int32} {S0 : rx_S} {zr : Int32} {zS : rx_S} (h : f_X10_weeks N x1 S0 = some (zr, zS)) : EM gC (d + 6) mX10_weeks [.ref 0, .int x1] S0 (rx_pi zr zS) := by
  unfold f_X10_weeks at h
  show EV gC (d + 6) mX10_weeks 0 [some (.ref 0), some (.int x1), none] [] S0 (rx_pi zr zS)
  refine ev_iload_n (i := 1) 1 dX10_weeks_0 rfl rfl rfl ?_
  refine ev_if_lt 10 4 dX10_weeks_1 rfl rfl (fun c3 => ?_) (fun c3 => ?_)
  · replace h := rx_if_t c3 h
    refine ev_iconst (v := (-1)) 11 dX10_weeks_10 (by decide) rfl ?_
    exact ev_ireturn dX10_weeks_11 rfl (rx_ret_i h)
  · replace h := rx_if_f c3 h
    refine ev_iload_n (i := 1) 5 dX10_weeks_4 rfl rfl rfl ?_
    refine ev_bipush (v := 60) 7 dX10_weeks_5 (by decide) rfl ?_
    refine ev_icmp_le 12 10 dX10_weeks_7 rfl rfl (fun c4 => ?_) (fun c4 => ?_)
    · replace h := rx_if_t c4 h
      refine ev_iload_n (i := 1) 13 dX10_weeks_12 rfl rfl rfl ?_
      obtain ⟨J27_1, eJ27_1, h⟩ := rx_let_o h
      have hJ27_1 : ∀ (x5 : Int32) (S6 : rx_S), J27_1 x5 S6 = some (zr, zS) → EV gC (d + 6) mX10_weeks 27 [some (.ref 0), some (.int x5), none] [] S6 (rx_pi zr zS) := by
        intro x5 S6 h
        subst eJ27_1
        refine ev_iconst (v := 0) 28 dX10_weeks_27 (by decide) rfl ?_
        refine ev_istore_n (ls' := [some (.ref 0), some (.int x5), some (.int 0)]) 29 dX10_weeks_28 rfl (Nat.le_of_ble_eq_true rfl) rfl rfl ?_
        obtain ⟨J58_2, eJ58_2, h⟩ := rx_let_o h
        have hJ58_2 : ∀ (S7 : rx_S), J58_2 S7 = some (zr, zS) → EV gC (d + 6) mX10_weeks 58 [some (.ref 0), none, none] [] S7 (rx_pi zr zS) := by
          intro S7 h
          subst eJ58_2
          refine ev_aload_n (i := 0) 59 dX10_weeks_58 rfl rfl rfl ?_
          refine ev_get (v := .ref 32) 62 dX10_weeks_59 dk_0 fl_10_31 (by decide) rfl rfl rfl ?_
          refine ev_iconst (v := 0) 63 dX10_weeks_62 (by decide) rfl ?_
          refine ex_iald 0 64 dX10_weeks_63 dk_32 (rx_vin (by decide)) (by decide) rfl ?_
          exact ev_ireturn dX10_weeks_64 rfl (rx_ret_i h)
        exact (em_X10_weeks_L29 hJ58_2 _ _ _ _ h).fewer (rx_le_s (rx_le_s (rx_le_s rx_le_0)))
      refine ev_if_le 27 16 dX10_weeks_13 rfl rfl (fun c17 => ?_) (fun c17 => ?_)
      · replace h := rx_if_t c17 h
        exact (hJ27_1 _ _ h).fewer (rx_le_s (rx_le_s (rx_le_n rx_le_0)))
      · replace h := rx_if_f c17 h
        refine ev_aload_n (i := 0) 17 dX10_weeks_16 rfl rfl rfl ?_
        refine ev_get (v := .ref 33) 20 dX10_weeks_17 dk_0 fl_10_38 (by decide) rfl rfl rfl ?_
        refine ev_aload_n (i := 0) 21 dX10_weeks_20 rfl rfl rfl ?_
        refine ev_get (v := .ref 32) 24 dX10_weeks_21 dk_0 fl_10_31 (by decide) rfl rfl rfl ?_
        obtain ⟨x19, S18, g20, h⟩ := rx_bd_o h
        refine ev_cVv1 27 dX10_weeks_24 (em_X3_remember g20) mm_X3_remember mv_X3_remember lk_10_164 dk_33 (by decide) rfl (Nat.le_of_ble_eq_true rfl) (Nat.le_of_ble_eq_true rfl) rfl ?_
        exact (hJ27_1 _ _ h).fewer (rx_le_s (rx_le_s (rx_le_n rx_le_0)))
    · replace h := rx_if_f c4 h
      refine ev_iconst (v := (-1)) 11 dX10_weeks_10 (by decide) rfl ?_
      exact ev_ireturn dX10_weeks_11 rfl (rx_ret_i h)

def f_X10_undo (S0 : rx_S) : Option (Int32 × rx_S) := rx_bd (f_X3_takeBack S0) (fun x3 S2 => rx_bl x3 (some (x3, S2)))
set_option maxHeartbeats 4000000 in
set_option maxRecDepth 20000 in
theorem em_X10_undo {d : Nat} {S0 : rx_S} {zr : Int32} {zS : rx_S} (h : f_X10_undo S0 = some (zr, zS)) : EM gC (d + 2) mX10_undo [.ref 0] S0 (rx_pi zr zS) := by
  unfold f_X10_undo at h
  show EV gC (d + 2) mX10_undo 0 [some (.ref 0)] [] S0 (rx_pi zr zS)
  refine ev_aload_n (i := 0) 1 dX10_undo_0 rfl rfl rfl ?_
  refine ev_get (v := .ref 33) 4 dX10_undo_1 dk_0 fl_10_38 (by decide) rfl rfl rfl ?_
  refine ev_aload_n (i := 0) 5 dX10_undo_4 rfl rfl rfl ?_
  refine ev_get (v := .ref 32) 8 dX10_undo_5 dk_0 fl_10_31 (by decide) rfl rfl rfl ?_
  obtain ⟨x3, S2, g4, h⟩ := rx_bd_o h
  refine ev_cVi1 11 dX10_undo_8 (em_X3_takeBack g4) mm_X3_takeBack mv_X3_takeBack lk_10_174 dk_33 (by decide) rfl (Nat.le_of_ble_eq_true rfl) (Nat.le_of_ble_eq_true rfl) rfl ?_
  obtain ⟨g5, h⟩ := rx_bl_o h
  exact ev_zreturn dX10_undo_11 rfl (rx_nb g5) (rx_ret_i h)

def f_X10_hold (x1 : Int32) (S0 : rx_S) : Option (Int32 × rx_S) := rx_bd (f_X3_keep x1 S0) (fun x4 S3 => rx_bl x4 (some (x4, S3)))
set_option maxHeartbeats 4000000 in
set_option maxRecDepth 20000 in
theorem em_X10_hold {d : Nat} {x1 : Int32} {S0 : rx_S} {zr : Int32} {zS : rx_S} (h : f_X10_hold x1 S0 = some (zr, zS)) : EM gC (d + 2) mX10_hold [.ref 0, .int x1] S0 (rx_pi zr zS) := by
  unfold f_X10_hold at h
  show EV gC (d + 2) mX10_hold 0 [some (.ref 0), some (.int x1)] [] S0 (rx_pi zr zS)
  refine ev_aload_n (i := 0) 1 dX10_hold_0 rfl rfl rfl ?_
  refine ev_get (v := .ref 33) 4 dX10_hold_1 dk_0 fl_10_38 (by decide) rfl rfl rfl ?_
  refine ev_iload_n (i := 1) 5 dX10_hold_4 rfl rfl rfl ?_
  refine ev_aload_n (i := 0) 6 dX10_hold_5 rfl rfl rfl ?_
  refine ev_get (v := .ref 32) 9 dX10_hold_6 dk_0 fl_10_31 (by decide) rfl rfl rfl ?_
  obtain ⟨x4, S3, g5, h⟩ := rx_bd_o h
  refine ev_cVi2 12 dX10_hold_9 (em_X3_keep g5) mm_X3_keep mv_X3_keep lk_10_178 dk_33 (by decide) rfl (Nat.le_of_ble_eq_true rfl) (Nat.le_of_ble_eq_true rfl) rfl ?_
  obtain ⟨g6, h⟩ := rx_bl_o h
  exact ev_zreturn dX10_hold_12 rfl (rx_nb g6) (rx_ret_i h)

def f_X10_restore (x1 : Int32) (S0 : rx_S) : Option (Int32 × rx_S) := rx_bd (f_X3_bringBack x1 S0) (fun x4 S3 => if x4 = 0 then (some (0, S3)) else (rx_bd (f_X3_forgetDone S3) (fun x8 S7 => some (1, S7))))
set_option maxHeartbeats 4000000 in
set_option maxRecDepth 20000 in
theorem em_X10_restore {d : Nat} {x1 : Int32} {S0 : rx_S} {zr : Int32} {zS : rx_S} (h : f_X10_restore x1 S0 = some (zr, zS)) : EM gC (d + 2) mX10_restore [.ref 0, .int x1] S0 (rx_pi zr zS) := by
  unfold f_X10_restore at h
  show EV gC (d + 2) mX10_restore 0 [some (.ref 0), some (.int x1)] [] S0 (rx_pi zr zS)
  refine ev_aload_n (i := 0) 1 dX10_restore_0 rfl rfl rfl ?_
  refine ev_get (v := .ref 33) 4 dX10_restore_1 dk_0 fl_10_38 (by decide) rfl rfl rfl ?_
  refine ev_iload_n (i := 1) 5 dX10_restore_4 rfl rfl rfl ?_
  refine ev_aload_n (i := 0) 6 dX10_restore_5 rfl rfl rfl ?_
  refine ev_get (v := .ref 32) 9 dX10_restore_6 dk_0 fl_10_31 (by decide) rfl rfl rfl ?_
  obtain ⟨x4, S3, g5, h⟩ := rx_bd_o h
  refine ev_cVi2 12 dX10_restore_9 (em_X3_bringBack g5) mm_X3_bringBack mv_X3_bringBack lk_10_182 dk_33 (by decide) rfl (Nat.le_of_ble_eq_true rfl) (Nat.le_of_ble_eq_true rfl) rfl ?_
  refine ev_if_ne 17 15 dX10_restore_12 rfl rfl (fun c6 => ?_) (fun c6 => ?_)
  · replace h := rx_if_f c6 h
    refine ev_aload_n (i := 0) 18 dX10_restore_17 rfl rfl rfl ?_
    refine ev_get (v := .ref 33) 21 dX10_restore_18 dk_0 fl_10_38 (by decide) rfl rfl rfl ?_
    obtain ⟨x8, S7, g9, h⟩ := rx_bd_o h
    refine ev_cVv0 24 dX10_restore_21 (em_X3_forgetDone g9) mm_X3_forgetDone mv_X3_forgetDone lk_10_99 dk_33 (by decide) rfl (Nat.le_of_ble_eq_true rfl) (Nat.le_of_ble_eq_true rfl) rfl ?_
    refine ev_iconst (v := 1) 25 dX10_restore_24 (by decide) rfl ?_
    exact ev_zreturn dX10_restore_25 rfl (by decide) (rx_ret_i h)
  · replace h := rx_if_t c6 h
    refine ev_iconst (v := 0) 16 dX10_restore_15 (by decide) rfl ?_
    exact ev_zreturn dX10_restore_16 rfl (by decide) (rx_ret_i h)

def f_X10_isWord (x0 : Int32) (S0 : rx_S) : Option (Int32 × rx_S) := if x0 < 0 then (some (0, S0)) else (if (8 : Int32) ≤ x0 then (some (0, S0)) else (some (1, S0)))
set_option maxHeartbeats 4000000 in
set_option maxRecDepth 20000 in
theorem em_X10_isWord {d : Nat} {x0 : Int32} {S0 : rx_S} {zr : Int32} {zS : rx_S} (h : f_X10_isWord x0 S0 = some (zr, zS)) : EM gC d mX10_isWord [.int x0] S0 (rx_pi zr zS) := by
  unfold f_X10_isWord at h
  show EV gC d mX10_isWord 0 [some (.int x0)] [] S0 (rx_pi zr zS)
  refine ev_iload_n (i := 0) 1 dX10_isWord_0 rfl rfl rfl ?_
  refine ev_if_lt 14 4 dX10_isWord_1 rfl rfl (fun c2 => ?_) (fun c2 => ?_)
  · replace h := rx_if_t c2 h
    refine ev_iconst (v := 0) 15 dX10_isWord_14 (by decide) rfl ?_
    exact ev_zreturn dX10_isWord_15 rfl (by decide) (rx_ret_i h)
  · replace h := rx_if_f c2 h
    refine ev_iload_n (i := 0) 5 dX10_isWord_4 rfl rfl rfl ?_
    refine ev_bipush (v := 8) 7 dX10_isWord_5 (by decide) rfl ?_
    refine ev_icmp_ge 14 10 dX10_isWord_7 rfl rfl (fun c3 => ?_) (fun c3 => ?_)
    · replace h := rx_if_t c3 h
      refine ev_iconst (v := 0) 15 dX10_isWord_14 (by decide) rfl ?_
      exact ev_zreturn dX10_isWord_15 rfl (by decide) (rx_ret_i h)
    · replace h := rx_if_f c3 h
      refine ev_iconst (v := 1) 11 dX10_isWord_10 (by decide) rfl ?_
      refine ev_goto 15 dX10_isWord_11 rfl ?_
      exact ev_zreturn dX10_isWord_15 rfl (by decide) (rx_ret_i h)

def f_X10_isPlace (x0 : Int32) (S0 : rx_S) : Option (Int32 × rx_S) := if x0 < 0 then (some (0, S0)) else (if (5 : Int32) ≤ x0 then (some (0, S0)) else (some (1, S0)))
set_option maxHeartbeats 4000000 in
set_option maxRecDepth 20000 in
theorem em_X10_isPlace {d : Nat} {x0 : Int32} {S0 : rx_S} {zr : Int32} {zS : rx_S} (h : f_X10_isPlace x0 S0 = some (zr, zS)) : EM gC d mX10_isPlace [.int x0] S0 (rx_pi zr zS) := by
  unfold f_X10_isPlace at h
  show EV gC d mX10_isPlace 0 [some (.int x0)] [] S0 (rx_pi zr zS)
  refine ev_iload_n (i := 0) 1 dX10_isPlace_0 rfl rfl rfl ?_
  refine ev_if_lt 13 4 dX10_isPlace_1 rfl rfl (fun c2 => ?_) (fun c2 => ?_)
  · replace h := rx_if_t c2 h
    refine ev_iconst (v := 0) 14 dX10_isPlace_13 (by decide) rfl ?_
    exact ev_zreturn dX10_isPlace_14 rfl (by decide) (rx_ret_i h)
  · replace h := rx_if_f c2 h
    refine ev_iload_n (i := 0) 5 dX10_isPlace_4 rfl rfl rfl ?_
    refine ev_iconst (v := 5) 6 dX10_isPlace_5 (by decide) rfl ?_
    refine ev_icmp_ge 13 9 dX10_isPlace_6 rfl rfl (fun c3 => ?_) (fun c3 => ?_)
    · replace h := rx_if_t c3 h
      refine ev_iconst (v := 0) 14 dX10_isPlace_13 (by decide) rfl ?_
      exact ev_zreturn dX10_isPlace_14 rfl (by decide) (rx_ret_i h)
    · replace h := rx_if_f c3 h
      refine ev_iconst (v := 1) 10 dX10_isPlace_9 (by decide) rfl ?_
      refine ev_goto 14 dX10_isPlace_10 rfl ?_
      exact ev_zreturn dX10_isPlace_14 rfl (by decide) (rx_ret_i h)

def f_X10_bends (N : Nat) (x1 : Int32) (x2 : Int32) (x3 : Int32) (S0 : rx_S) : Option (Int32 × rx_S) := rx_bd (f_X8_hasThird 2 x1 S0) (fun x6 S5 => if x6 = 0 then (some ((-1), S5)) else (rx_bd (f_X10_isWord x2 S5) (fun x10 S9 => if x10 = 0 then (some ((-1), S9)) else (rx_bd (f_X10_isPlace x3 S9) (fun x14 S13 => if x14 = 0 then (some ((-1), S13)) else (rx_bd (f_X7_putWord 32 N x1 x2 x3 S13) (fun x18 S17 => some (x18, S17))))))))
set_option maxHeartbeats 4000000 in
set_option maxRecDepth 20000 in
theorem em_X10_bends {d N : Nat} {x1 : Int32} {x2 : Int32} {x3 : Int32} {S0 : rx_S} {zr : Int32} {zS : rx_S} (h : f_X10_bends N x1 x2 x3 S0 = some (zr, zS)) : EM gC (d + 4) mX10_bends [.ref 0, .int x1, .int x2, .int x3] S0 (rx_pi zr zS) := by
  unfold f_X10_bends at h
  show EV gC (d + 4) mX10_bends 0 [some (.ref 0), some (.int x1), some (.int x2), some (.int x3)] [] S0 (rx_pi zr zS)
  refine ev_aload_n (i := 0) 1 dX10_bends_0 rfl rfl rfl ?_
  refine ev_get (v := .ref 2) 4 dX10_bends_1 dk_0 fl_10_20 (by decide) rfl rfl rfl ?_
  refine ev_iload_n (i := 1) 5 dX10_bends_4 rfl rfl rfl ?_
  obtain ⟨x6, S5, g7, h⟩ := rx_bd_o h
  refine ev_cVi1 8 dX10_bends_5 (em_X8_hasThird_2 g7) mm_X8_hasThird mv_X8_hasThird lk_10_123 dk_2 (by decide) rfl (Nat.le_of_ble_eq_true rfl) (Nat.le_of_ble_eq_true rfl) rfl ?_
  refine ev_if_eq 25 11 dX10_bends_8 rfl rfl (fun c8 => ?_) (fun c8 => ?_)
  · replace h := rx_if_t c8 h
    refine ev_iconst (v := (-1)) 26 dX10_bends_25 (by decide) rfl ?_
    exact ev_ireturn dX10_bends_26 rfl (rx_ret_i h)
  · replace h := rx_if_f c8 h
    refine ev_iload_n (i := 2) 12 dX10_bends_11 rfl rfl rfl ?_
    obtain ⟨x10, S9, g11, h⟩ := rx_bd_o h
    refine ev_cSi1 15 dX10_bends_12 (em_X10_isWord g11) mm_X10_isWord ms_X10_isWord lk_10_185 (Nat.le_of_ble_eq_true rfl) (Nat.le_of_ble_eq_true rfl) rfl ?_
    refine ev_if_eq 25 18 dX10_bends_15 rfl rfl (fun c12 => ?_) (fun c12 => ?_)
    · replace h := rx_if_t c12 h
      refine ev_iconst (v := (-1)) 26 dX10_bends_25 (by decide) rfl ?_
      exact ev_ireturn dX10_bends_26 rfl (rx_ret_i h)
    · replace h := rx_if_f c12 h
      refine ev_iload_n (i := 3) 19 dX10_bends_18 rfl rfl rfl ?_
      obtain ⟨x14, S13, g15, h⟩ := rx_bd_o h
      refine ev_cSi1 22 dX10_bends_19 (em_X10_isPlace g15) mm_X10_isPlace ms_X10_isPlace lk_10_188 (Nat.le_of_ble_eq_true rfl) (Nat.le_of_ble_eq_true rfl) rfl ?_
      refine ev_if_ne 27 25 dX10_bends_22 rfl rfl (fun c16 => ?_) (fun c16 => ?_)
      · replace h := rx_if_f c16 h
        refine ev_aload_n (i := 0) 28 dX10_bends_27 rfl rfl rfl ?_
        refine ev_get (v := .ref 80) 31 dX10_bends_28 dk_0 fl_10_47 (by decide) rfl rfl rfl ?_
        refine ev_aload_n (i := 0) 32 dX10_bends_31 rfl rfl rfl ?_
        refine ev_get (v := .ref 32) 35 dX10_bends_32 dk_0 fl_10_31 (by decide) rfl rfl rfl ?_
        refine ev_iload_n (i := 1) 36 dX10_bends_35 rfl rfl rfl ?_
        refine ev_iload_n (i := 2) 37 dX10_bends_36 rfl rfl rfl ?_
        refine ev_iload_n (i := 3) 38 dX10_bends_37 rfl rfl rfl ?_
        obtain ⟨x18, S17, g19, h⟩ := rx_bd_o h
        refine ev_cVi4 41 dX10_bends_38 (em_X7_putWord_32 g19) mm_X7_putWord mv_X7_putWord lk_10_191 dk_80 (by decide) rfl (Nat.le_of_ble_eq_true rfl) (Nat.le_of_ble_eq_true rfl) rfl ?_
        exact ev_ireturn dX10_bends_41 rfl (rx_ret_i h)
      · replace h := rx_if_t c16 h
        refine ev_iconst (v := (-1)) 26 dX10_bends_25 (by decide) rfl ?_
        exact ev_ireturn dX10_bends_26 rfl (rx_ret_i h)

