def f_X11_isResting_L2 (N : Nat) : Nat → Int32 → Int32 → rx_S → Option (Int32 × rx_S)
  | 0, _, _, _ => none
  | n + 1, x3, x4, S5 => rx_gd (S5.1 94 18) 2 (if (S5.1 109 (Int32.toNatClampNeg (S5.1 94 18))) ≤ x4 then (some (1, S5)) else (rx_gd (((4 : Int32) * (x3 ^^^ ((1 : Int32) <<< (x4 &&& 31)))) + x4) 64 (rx_gd (((4 : Int32) * x3) + x4) 64 (if (S5.1 133 (Int32.toNatClampNeg (((4 : Int32) * (x3 ^^^ ((1 : Int32) <<< (x4 &&& 31)))) + x4))) ≤ (S5.1 133 (Int32.toNatClampNeg (((4 : Int32) * x3) + x4))) then (rx_let (x4 + 1) (fun x11 => f_X11_isResting_L2 N n x3 x11 S5)) else (some (0, S5))))))
def f_X11_isResting (N : Nat) (x1 : Int32) (S0 : rx_S) : Option (Int32 × rx_S) := f_X11_isResting_L2 N N x1 0 S0
set_option maxHeartbeats 4000000 in
set_option maxRecDepth 20000 in
theorem em_X11_isResting_L2 {d N : Nat} {zr : Int32} {zS : rx_S} : ∀ (n : Nat) (x3 : Int32) (x4 : Int32) (S5 : rx_S), f_X11_isResting_L2 N n x3 x4 S5 = some (zr, zS) → EV gM d mX11_isResting 2 [some (.ref 94), some (.int x3), some (.int x4)] [] S5 (rx_pi zr zS) := by
  intro n
  induction n with
  | zero => intro x3 x4 S5 h; cases h
  | succ n ih =>
    intro x3 x4 S5 h
    rw [f_X11_isResting_L2] at h
    refine ev_iload_n (i := 2) 3 dX11_isResting_2 rfl rfl rfl ?_
    refine ev_aload_n (i := 0) 4 dX11_isResting_3 rfl rfl rfl ?_
    refine ev_get (v := .ref 109) 7 dX11_isResting_4 dk_94 fl_11_61 (by decide) rfl rfl rfl ?_
    refine ev_aload_n (i := 0) 8 dX11_isResting_7 rfl rfl rfl ?_
    refine ev_get (v := .int (S5.1 94 18)) 11 dX11_isResting_8 dk_94 fl_11_233 (by decide) rfl rfl rfl ?_
    obtain ⟨g6, h⟩ := rx_gd_o h
    refine ex_iald _ 12 dX11_isResting_11 dk_109 g6 rfl rfl ?_
    refine ev_icmp_ge 50 15 dX11_isResting_12 rfl rfl (fun c7 => ?_) (fun c7 => ?_)
    · replace h := rx_if_t c7 h
      refine ev_iconst (v := 1) 51 dX11_isResting_50 (by decide) rfl ?_
      exact ev_zreturn dX11_isResting_51 rfl (by decide) (rx_ret_i h)
    · replace h := rx_if_f c7 h
      refine ev_aload_n (i := 0) 16 dX11_isResting_15 rfl rfl rfl ?_
      refine ev_get (v := .ref 133) 19 dX11_isResting_16 dk_94 fl_11_134 (by decide) rfl rfl rfl ?_
      refine ev_iconst (v := 4) 20 dX11_isResting_19 (by decide) rfl ?_
      refine ev_iload_n (i := 1) 21 dX11_isResting_20 rfl rfl rfl ?_
      refine ev_iconst (v := 1) 22 dX11_isResting_21 (by decide) rfl ?_
      refine ev_iload_n (i := 2) 23 dX11_isResting_22 rfl rfl rfl ?_
      refine ev_ishl 24 dX11_isResting_23 rfl ?_
      refine ev_ixor 25 dX11_isResting_24 rfl ?_
      refine ev_imul 26 dX11_isResting_25 rfl ?_
      refine ev_iload_n (i := 2) 27 dX11_isResting_26 rfl rfl rfl ?_
      refine ev_iadd 28 dX11_isResting_27 rfl ?_
      obtain ⟨g8, h⟩ := rx_gd_o h
      refine ex_iald _ 29 dX11_isResting_28 dk_133 g8 rfl rfl ?_
      refine ev_aload_n (i := 0) 30 dX11_isResting_29 rfl rfl rfl ?_
      refine ev_get (v := .ref 133) 33 dX11_isResting_30 dk_94 fl_11_134 (by decide) rfl rfl rfl ?_
      refine ev_iconst (v := 4) 34 dX11_isResting_33 (by decide) rfl ?_
      refine ev_iload_n (i := 1) 35 dX11_isResting_34 rfl rfl rfl ?_
      refine ev_imul 36 dX11_isResting_35 rfl ?_
      refine ev_iload_n (i := 2) 37 dX11_isResting_36 rfl rfl rfl ?_
      refine ev_iadd 38 dX11_isResting_37 rfl ?_
      obtain ⟨g9, h⟩ := rx_gd_o h
      refine ex_iald _ 39 dX11_isResting_38 dk_133 g9 rfl rfl ?_
      refine ev_icmp_le 44 42 dX11_isResting_39 rfl rfl (fun c10 => ?_) (fun c10 => ?_)
      · replace h := rx_if_t c10 h
        obtain ⟨x11, ex11, h⟩ := rx_let_o h
        refine ev_iinc (v := x11) (ls' := [some (.ref 94), some (.int x3), some (.int x11)]) 47 dX11_isResting_44 rfl (by rw [ex11]; rfl) (Nat.le_of_ble_eq_true rfl) rfl rfl ?_
        refine ev_goto 2 dX11_isResting_47 rfl ?_
        exact (ih _ _ _ h).fewer (rx_le_s (rx_le_s (rx_le_s rx_le_0)))
      · replace h := rx_if_f c10 h
        refine ev_iconst (v := 0) 43 dX11_isResting_42 (by decide) rfl ?_
        exact ev_zreturn dX11_isResting_43 rfl (by decide) (rx_ret_i h)

set_option maxHeartbeats 4000000 in
set_option maxRecDepth 20000 in
theorem em_X11_isResting {d N : Nat} {x1 : Int32} {S0 : rx_S} {zr : Int32} {zS : rx_S} (h : f_X11_isResting N x1 S0 = some (zr, zS)) : EM gM d mX11_isResting [.ref 94, .int x1] S0 (rx_pi zr zS) := by
  unfold f_X11_isResting at h
  show EV gM d mX11_isResting 0 [some (.ref 94), some (.int x1), none] [] S0 (rx_pi zr zS)
  refine ev_iconst (v := 0) 1 dX11_isResting_0 (by decide) rfl ?_
  refine ev_istore_n (ls' := [some (.ref 94), some (.int x1), some (.int 0)]) 2 dX11_isResting_1 rfl (Nat.le_of_ble_eq_true rfl) rfl rfl ?_
  exact (em_X11_isResting_L2 _ _ _ _ h).fewer (rx_le_s (rx_le_s (rx_le_s rx_le_0)))

def f_X11_oaths_L57 (N : Nat) (K93 : Int32 → Int32 → rx_S → Option (Int32 × rx_S)) : Nat → Int32 → Int32 → Int32 → Int32 → rx_S → Option (Int32 × rx_S)
  | 0, _, _, _, _, _ => none
  | n + 1, x18, x19, x20, x21, S22 => if x19 ≤ x21 then (K93 x18 x20 S22) else (rx_bd (f_X11_isResting N x21 S22) (fun x28 S27 => if x28 = 0 then (rx_let (x21 + 1) (fun x34 => f_X11_oaths_L57 N K93 n x18 x19 x20 x34 S27)) else (if x20 = x18 then (some (x21, S27)) else (rx_let (x20 + 1) (fun x32 => rx_let (x21 + 1) (fun x33 => f_X11_oaths_L57 N K93 n x18 x19 x32 x33 S27))))))
def f_X11_oaths_L32 (N : Nat) (K51 : Int32 → Int32 → rx_S → Option (Int32 × rx_S)) : Nat → Int32 → Int32 → Int32 → Int32 → rx_S → Option (Int32 × rx_S)
  | 0, _, _, _, _, _ => none
  | n + 1, x35, x36, x37, x38, S39 => if x37 ≤ x38 then (K51 x36 x37 S39) else (rx_bd (f_X11_fillsPaid N x38 x35 S39) (fun x45 S44 => rx_let (x38 + 1) (fun x47 => f_X11_oaths_L32 N K51 n x35 x36 x37 x47 S44)))
def f_X11_oaths (N : Nat) (x1 : Int32) (x2 : Int32) (S0 : rx_S) : Option (Int32 × rx_S) := rx_bd (f_X11_in x1 1 24 S0) (fun x5 S4 => if x5 = 0 then (some ((-1), S4)) else (if ((-1) : Int32) ≤ x2 then (rx_gd (S4.1 94 18) 2 (rx_let ((1 : Int32) <<< ((S4.1 109 (Int32.toNatClampNeg (S4.1 94 18))) &&& 31)) (fun x10 => rx_let (fun (x11 : Int32) (x12 : Int32) (S13 : rx_S) => rx_let (fun (x14 : Int32) (x15 : Int32) (S16 : rx_S) => if x14 = (-1) then (some (x15, S16)) else (some ((-1), S16))) (fun J93_2 => f_X11_oaths_L57 N J93_2 N x11 x12 0 0 S13)) (fun J51_1 => f_X11_oaths_L32 N J51_1 N x1 x2 x10 0 S4)))) else (some ((-1), S4))))
set_option maxHeartbeats 4000000 in
set_option maxRecDepth 20000 in
theorem em_X11_oaths_L57 {d N : Nat} {K93 : Int32 → Int32 → rx_S → Option (Int32 × rx_S)} {zr : Int32} {zS : rx_S} (hK93 : ∀ (x23 : Int32) (x24 : Int32) (S25 : rx_S), K93 x23 x24 S25 = some (zr, zS) → EV gM (d + 9) mX11_oaths 93 [some (.ref 94), none, some (.int x23), none, some (.int x24), none] [] S25 (rx_pi zr zS)) : ∀ (n : Nat) (x18 : Int32) (x19 : Int32) (x20 : Int32) (x21 : Int32) (S22 : rx_S), f_X11_oaths_L57 N K93 n x18 x19 x20 x21 S22 = some (zr, zS) → EV gM (d + 9) mX11_oaths 57 [some (.ref 94), none, some (.int x18), some (.int x19), some (.int x20), some (.int x21)] [] S22 (rx_pi zr zS) := by
  intro n
  induction n with
  | zero => intro x18 x19 x20 x21 S22 h; cases h
  | succ n ih =>
    intro x18 x19 x20 x21 S22 h
    rw [f_X11_oaths_L57] at h
    refine ev_iload 59 dX11_oaths_57 rfl rfl ?_
    refine ev_iload_n (i := 3) 60 dX11_oaths_59 rfl rfl rfl ?_
    refine ev_icmp_ge 93 63 dX11_oaths_60 rfl rfl (fun c26 => ?_) (fun c26 => ?_)
    · replace h := rx_if_t c26 h
      exact (hK93 _ _ _ h).fewer (rx_le_s (rx_le_n (rx_le_s (rx_le_n (rx_le_s (rx_le_n rx_le_0))))))
    · replace h := rx_if_f c26 h
      refine ev_aload_n (i := 0) 64 dX11_oaths_63 rfl rfl rfl ?_
      refine ev_iload 66 dX11_oaths_64 rfl rfl ?_
      obtain ⟨x28, S27, g29, h⟩ := rx_bd_o h
      refine ev_cVi1 69 dX11_oaths_66 (em_X11_isResting g29) mm_X11_isResting mv_X11_isResting lk_11_451 dk_94 (by decide) rfl (Nat.le_of_ble_eq_true rfl) (Nat.le_of_ble_eq_true rfl) rfl ?_
      refine ev_if_ne 75 72 dX11_oaths_69 rfl rfl (fun c30 => ?_) (fun c30 => ?_)
      · replace h := rx_if_f c30 h
        refine ev_iload 77 dX11_oaths_75 rfl rfl ?_
        refine ev_iload_n (i := 2) 78 dX11_oaths_77 rfl rfl rfl ?_
        refine ev_icmp_ne 84 81 dX11_oaths_78 rfl rfl (fun c31 => ?_) (fun c31 => ?_)
        · replace h := rx_if_f c31 h
          obtain ⟨x32, ex32, h⟩ := rx_let_o h
          refine ev_iinc (v := x32) (ls' := [some (.ref 94), none, some (.int x18), some (.int x19), some (.int x32), some (.int x21)]) 87 dX11_oaths_84 rfl (by rw [ex32]; rfl) (Nat.le_of_ble_eq_true rfl) rfl rfl ?_
          obtain ⟨x33, ex33, h⟩ := rx_let_o h
          refine ev_iinc (v := x33) (ls' := [some (.ref 94), none, some (.int x18), some (.int x19), some (.int x32), some (.int x33)]) 90 dX11_oaths_87 rfl (by rw [ex33]; rfl) (Nat.le_of_ble_eq_true rfl) rfl rfl ?_
          refine ev_goto 57 dX11_oaths_90 rfl ?_
          exact (ih _ _ _ _ _ h).fewer (rx_le_s (rx_le_n (rx_le_s (rx_le_s (rx_le_s (rx_le_s rx_le_0))))))
        · replace h := rx_if_t c31 h
          refine ev_iload 83 dX11_oaths_81 rfl rfl ?_
          exact ev_ireturn dX11_oaths_83 rfl (rx_ret_i h)
      · replace h := rx_if_t c30 h
        refine ev_goto 87 dX11_oaths_72 rfl ?_
        obtain ⟨x34, ex34, h⟩ := rx_let_o h
        refine ev_iinc (v := x34) (ls' := [some (.ref 94), none, some (.int x18), some (.int x19), some (.int x20), some (.int x34)]) 90 dX11_oaths_87 rfl (by rw [ex34]; rfl) (Nat.le_of_ble_eq_true rfl) rfl rfl ?_
        refine ev_goto 57 dX11_oaths_90 rfl ?_
        exact (ih _ _ _ _ _ h).fewer (rx_le_s (rx_le_n (rx_le_s (rx_le_s (rx_le_s (rx_le_s rx_le_0))))))

set_option maxHeartbeats 4000000 in
set_option maxRecDepth 20000 in
theorem em_X11_oaths_L32 {d N : Nat} {K51 : Int32 → Int32 → rx_S → Option (Int32 × rx_S)} {zr : Int32} {zS : rx_S} (hK51 : ∀ (x40 : Int32) (x41 : Int32) (S42 : rx_S), K51 x40 x41 S42 = some (zr, zS) → EV gM (d + 9) mX11_oaths 51 [some (.ref 94), none, some (.int x40), some (.int x41), none, none] [] S42 (rx_pi zr zS)) : ∀ (n : Nat) (x35 : Int32) (x36 : Int32) (x37 : Int32) (x38 : Int32) (S39 : rx_S), f_X11_oaths_L32 N K51 n x35 x36 x37 x38 S39 = some (zr, zS) → EV gM (d + 9) mX11_oaths 32 [some (.ref 94), some (.int x35), some (.int x36), some (.int x37), some (.int x38), none] [] S39 (rx_pi zr zS) := by
  intro n
  induction n with
  | zero => intro x35 x36 x37 x38 S39 h; cases h
  | succ n ih =>
    intro x35 x36 x37 x38 S39 h
    rw [f_X11_oaths_L32] at h
    refine ev_iload 34 dX11_oaths_32 rfl rfl ?_
    refine ev_iload_n (i := 3) 35 dX11_oaths_34 rfl rfl rfl ?_
    refine ev_icmp_ge 51 38 dX11_oaths_35 rfl rfl (fun c43 => ?_) (fun c43 => ?_)
    · replace h := rx_if_t c43 h
      exact (hK51 _ _ _ h).fewer (rx_le_s (rx_le_n (rx_le_s (rx_le_s (rx_le_n (rx_le_n rx_le_0))))))
    · replace h := rx_if_f c43 h
      refine ev_aload_n (i := 0) 39 dX11_oaths_38 rfl rfl rfl ?_
      refine ev_iload 41 dX11_oaths_39 rfl rfl ?_
      refine ev_iload_n (i := 1) 42 dX11_oaths_41 rfl rfl rfl ?_
      obtain ⟨x45, S44, g46, h⟩ := rx_bd_o h
      refine ev_cVv2 45 dX11_oaths_42 (em_X11_fillsPaid g46) mm_X11_fillsPaid mv_X11_fillsPaid lk_11_448 dk_94 (by decide) rfl (Nat.le_of_ble_eq_true rfl) (Nat.le_of_ble_eq_true rfl) rfl ?_
      obtain ⟨x47, ex47, h⟩ := rx_let_o h
      refine ev_iinc (v := x47) (ls' := [some (.ref 94), some (.int x35), some (.int x36), some (.int x37), some (.int x47), none]) 48 dX11_oaths_45 rfl (by rw [ex47]; rfl) (Nat.le_of_ble_eq_true rfl) rfl rfl ?_
      refine ev_goto 32 dX11_oaths_48 rfl ?_
      exact (ih _ _ _ _ _ h).fewer (rx_le_s (rx_le_s (rx_le_s (rx_le_s (rx_le_s (rx_le_n rx_le_0))))))

set_option maxHeartbeats 4000000 in
set_option maxRecDepth 20000 in
theorem em_X11_oaths {d N : Nat} {x1 : Int32} {x2 : Int32} {S0 : rx_S} {zr : Int32} {zS : rx_S} (h : f_X11_oaths N x1 x2 S0 = some (zr, zS)) : EM gM (d + 9) mX11_oaths [.ref 94, .int x1, .int x2] S0 (rx_pi zr zS) := by
  unfold f_X11_oaths at h
  show EV gM (d + 9) mX11_oaths 0 [some (.ref 94), some (.int x1), some (.int x2), none, none, none] [] S0 (rx_pi zr zS)
  refine ev_iload_n (i := 1) 1 dX11_oaths_0 rfl rfl rfl ?_
  refine ev_iconst (v := 1) 2 dX11_oaths_1 (by decide) rfl ?_
  refine ev_bipush (v := 24) 4 dX11_oaths_2 (by decide) rfl ?_
  obtain ⟨x5, S4, g6, h⟩ := rx_bd_o h
  refine ev_cSi3 7 dX11_oaths_4 (em_X11_in g6) mm_X11_in ms_X11_in lk_11_316 (Nat.le_of_ble_eq_true rfl) (Nat.le_of_ble_eq_true rfl) rfl ?_
  refine ev_if_eq 15 10 dX11_oaths_7 rfl rfl (fun c7 => ?_) (fun c7 => ?_)
  · replace h := rx_if_t c7 h
    refine ev_iconst (v := (-1)) 16 dX11_oaths_15 (by decide) rfl ?_
    exact ev_ireturn dX11_oaths_16 rfl (rx_ret_i h)
  · replace h := rx_if_f c7 h
    refine ev_iload_n (i := 2) 11 dX11_oaths_10 rfl rfl rfl ?_
    refine ev_iconst (v := (-1)) 12 dX11_oaths_11 (by decide) rfl ?_
    refine ev_icmp_ge 17 15 dX11_oaths_12 rfl rfl (fun c8 => ?_) (fun c8 => ?_)
    · replace h := rx_if_t c8 h
      refine ev_iconst (v := 1) 18 dX11_oaths_17 (by decide) rfl ?_
      refine ev_aload_n (i := 0) 19 dX11_oaths_18 rfl rfl rfl ?_
      refine ev_get (v := .ref 109) 22 dX11_oaths_19 dk_94 fl_11_61 (by decide) rfl rfl rfl ?_
      refine ev_aload_n (i := 0) 23 dX11_oaths_22 rfl rfl rfl ?_
      refine ev_get (v := .int (S4.1 94 18)) 26 dX11_oaths_23 dk_94 fl_11_233 (by decide) rfl rfl rfl ?_
      obtain ⟨g9, h⟩ := rx_gd_o h
      refine ex_iald _ 27 dX11_oaths_26 dk_109 g9 rfl rfl ?_
      refine ev_ishl 28 dX11_oaths_27 rfl ?_
      obtain ⟨x10, ex10, h⟩ := rx_let_o h
      refine ev_nm ex10 ?_
      refine ev_istore_n (ls' := [some (.ref 94), some (.int x1), some (.int x2), some (.int x10), none, none]) 29 dX11_oaths_28 rfl (Nat.le_of_ble_eq_true rfl) rfl rfl ?_
      refine ev_iconst (v := 0) 30 dX11_oaths_29 (by decide) rfl ?_
      refine ev_istore (ls' := [some (.ref 94), some (.int x1), some (.int x2), some (.int x10), some (.int 0), none]) 32 dX11_oaths_30 (Nat.le_of_ble_eq_true rfl) rfl rfl ?_
      obtain ⟨J51_1, eJ51_1, h⟩ := rx_let_o h
      have hJ51_1 : ∀ (x11 : Int32) (x12 : Int32) (S13 : rx_S), J51_1 x11 x12 S13 = some (zr, zS) → EV gM (d + 9) mX11_oaths 51 [some (.ref 94), none, some (.int x11), some (.int x12), none, none] [] S13 (rx_pi zr zS) := by
        intro x11 x12 S13 h
        subst eJ51_1
        refine ev_iconst (v := 0) 52 dX11_oaths_51 (by decide) rfl ?_
        refine ev_istore (ls' := [some (.ref 94), none, some (.int x11), some (.int x12), some (.int 0), none]) 54 dX11_oaths_52 (Nat.le_of_ble_eq_true rfl) rfl rfl ?_
        refine ev_iconst (v := 0) 55 dX11_oaths_54 (by decide) rfl ?_
        refine ev_istore (ls' := [some (.ref 94), none, some (.int x11), some (.int x12), some (.int 0), some (.int 0)]) 57 dX11_oaths_55 (Nat.le_of_ble_eq_true rfl) rfl rfl ?_
        obtain ⟨J93_2, eJ93_2, h⟩ := rx_let_o h
        have hJ93_2 : ∀ (x14 : Int32) (x15 : Int32) (S16 : rx_S), J93_2 x14 x15 S16 = some (zr, zS) → EV gM (d + 9) mX11_oaths 93 [some (.ref 94), none, some (.int x14), none, some (.int x15), none] [] S16 (rx_pi zr zS) := by
          intro x14 x15 S16 h
          subst eJ93_2
          refine ev_iload_n (i := 2) 94 dX11_oaths_93 rfl rfl rfl ?_
          refine ev_iconst (v := (-1)) 95 dX11_oaths_94 (by decide) rfl ?_
          refine ev_icmp_ne 103 98 dX11_oaths_95 rfl rfl (fun c17 => ?_) (fun c17 => ?_)
          · replace h := rx_if_f c17 h
            refine ev_iconst (v := (-1)) 104 dX11_oaths_103 (by decide) rfl ?_
            exact ev_ireturn dX11_oaths_104 rfl (rx_ret_i h)
          · replace h := rx_if_t c17 h
            refine ev_iload 100 dX11_oaths_98 rfl rfl ?_
            refine ev_goto 104 dX11_oaths_100 rfl ?_
            exact ev_ireturn dX11_oaths_104 rfl (rx_ret_i h)
        exact (em_X11_oaths_L57 hJ93_2 _ _ _ _ _ _ h).fewer (rx_le_s (rx_le_n (rx_le_s (rx_le_s (rx_le_s (rx_le_s rx_le_0))))))
      exact (em_X11_oaths_L32 hJ51_1 _ _ _ _ _ _ h).fewer (rx_le_s (rx_le_s (rx_le_s (rx_le_s (rx_le_s (rx_le_n rx_le_0))))))
    · replace h := rx_if_f c8 h
      refine ev_iconst (v := (-1)) 16 dX11_oaths_15 (by decide) rfl ?_
      exact ev_ireturn dX11_oaths_16 rfl (rx_ret_i h)

def f_X11_year_L33 (N : Nat) : Nat → Int32 → Int32 → Int32 → Int32 → Int32 → rx_S → Option (Int32 × rx_S)
  | 0, _, _, _, _, _, _ => none
  | n + 1, x17, x18, x19, x20, x21, S22 => if x19 ≤ x21 then (some (x20, S22)) else (rx_bd (f_X11_copies N S22) (fun x25 S24 => rx_let (rx_ui S24 94 51 ((S24.1 94 51) + x21)) (fun S27 => rx_bd (f_X11_goes N x18 S27) (fun x29 S28 => rx_gd ((15 : Int32) + x17) 48 (rx_let (x20 + (S28.1 127 (Int32.toNatClampNeg ((15 : Int32) + x17)))) (fun x32 => rx_let (x21 + 1) (fun x33 => f_X11_year_L33 N n x17 x18 x19 x32 x33 S28)))))))
def f_X11_year (N : Nat) (x1 : Int32) (x2 : Int32) (x3 : Int32) (S0 : rx_S) : Option (Int32 × rx_S) := rx_bd (f_X11_isCouple x1 S0) (fun x6 S5 => if x6 = 0 then (some ((-1), S5)) else (rx_bd (f_X11_isLong x2 S5) (fun x10 S9 => if x10 = 0 then (some ((-1), S9)) else (rx_bd (f_X11_in x3 1 20 S9) (fun x14 S13 => if x14 = 0 then (some ((-1), S13)) else (f_X11_year_L33 N N x1 x2 x3 0 0 S13))))))
set_option maxHeartbeats 4000000 in
set_option maxRecDepth 20000 in
theorem em_X11_year_L33 {d N : Nat} {zr : Int32} {zS : rx_S} : ∀ (n : Nat) (x17 : Int32) (x18 : Int32) (x19 : Int32) (x20 : Int32) (x21 : Int32) (S22 : rx_S), f_X11_year_L33 N n x17 x18 x19 x20 x21 S22 = some (zr, zS) → EV gM (d + 8) mX11_year 33 [some (.ref 94), some (.int x17), some (.int x18), some (.int x19), some (.int x20), some (.int x21)] [] S22 (rx_pi zr zS) := by
  intro n
  induction n with
  | zero => intro x17 x18 x19 x20 x21 S22 h; cases h
  | succ n ih =>
    intro x17 x18 x19 x20 x21 S22 h
    rw [f_X11_year_L33] at h
    refine ev_iload 35 dX11_year_33 rfl rfl ?_
    refine ev_iload_n (i := 3) 36 dX11_year_35 rfl rfl rfl ?_
    refine ev_icmp_ge 79 39 dX11_year_36 rfl rfl (fun c23 => ?_) (fun c23 => ?_)
    · replace h := rx_if_t c23 h
      refine ev_iload 81 dX11_year_79 rfl rfl ?_
      exact ev_ireturn dX11_year_81 rfl (rx_ret_i h)
    · replace h := rx_if_f c23 h
      refine ev_aload_n (i := 0) 40 dX11_year_39 rfl rfl rfl ?_
      obtain ⟨x25, S24, g26, h⟩ := rx_bd_o h
      refine ev_cVv0 43 dX11_year_40 (em_X11_copies g26) mm_X11_copies mv_X11_copies lk_11_396 dk_94 (by decide) rfl (Nat.le_of_ble_eq_true rfl) (Nat.le_of_ble_eq_true rfl) rfl ?_
      refine ev_aload_n (i := 0) 44 dX11_year_43 rfl rfl rfl ?_
      refine ev_dup 45 dX11_year_44 rfl rfl ?_
      refine ev_get (v := .int (S24.1 94 51)) 48 dX11_year_45 dk_94 fl_11_320 (by decide) rfl rfl rfl ?_
      refine ev_iload 50 dX11_year_48 rfl rfl ?_
      refine ev_iadd 51 dX11_year_50 rfl ?_
      obtain ⟨S27, eS27, h⟩ := rx_let_o h
      refine ex_put 54 dX11_year_51 dk_94 fl_11_320 pp_11_51 (by decide) rfl rfl rfl rfl eS27 ?_
      refine ev_aload_n (i := 0) 55 dX11_year_54 rfl rfl rfl ?_
      refine ev_iload_n (i := 2) 56 dX11_year_55 rfl rfl rfl ?_
      obtain ⟨x29, S28, g30, h⟩ := rx_bd_o h
      refine ev_cVv1 59 dX11_year_56 (em_X11_goes g30) mm_X11_goes mv_X11_goes lk_11_409 dk_94 (by decide) rfl (Nat.le_of_ble_eq_true rfl) (Nat.le_of_ble_eq_true rfl) rfl ?_
      refine ev_iload 61 dX11_year_59 rfl rfl ?_
      refine ev_aload_n (i := 0) 62 dX11_year_61 rfl rfl rfl ?_
      refine ev_get (v := .ref 127) 65 dX11_year_62 dk_94 fl_11_116 (by decide) rfl rfl rfl ?_
      refine ev_bipush (v := 15) 67 dX11_year_65 (by decide) rfl ?_
      refine ev_iload_n (i := 1) 68 dX11_year_67 rfl rfl rfl ?_
      refine ev_iadd 69 dX11_year_68 rfl ?_
      obtain ⟨g31, h⟩ := rx_gd_o h
      refine ex_iald _ 70 dX11_year_69 dk_127 g31 rfl rfl ?_
      refine ev_iadd 71 dX11_year_70 rfl ?_
      obtain ⟨x32, ex32, h⟩ := rx_let_o h
      refine ev_nm ex32 ?_
      refine ev_istore (ls' := [some (.ref 94), some (.int x17), some (.int x18), some (.int x19), some (.int x32), some (.int x21)]) 73 dX11_year_71 (Nat.le_of_ble_eq_true rfl) rfl rfl ?_
      obtain ⟨x33, ex33, h⟩ := rx_let_o h
      refine ev_iinc (v := x33) (ls' := [some (.ref 94), some (.int x17), some (.int x18), some (.int x19), some (.int x32), some (.int x33)]) 76 dX11_year_73 rfl (by rw [ex33]; rfl) (Nat.le_of_ble_eq_true rfl) rfl rfl ?_
      refine ev_goto 33 dX11_year_76 rfl ?_
      exact (ih _ _ _ _ _ _ h).fewer (rx_le_s (rx_le_s (rx_le_s (rx_le_s (rx_le_s (rx_le_s rx_le_0))))))

set_option maxHeartbeats 4000000 in
set_option maxRecDepth 20000 in
theorem em_X11_year {d N : Nat} {x1 : Int32} {x2 : Int32} {x3 : Int32} {S0 : rx_S} {zr : Int32} {zS : rx_S} (h : f_X11_year N x1 x2 x3 S0 = some (zr, zS)) : EM gM (d + 8) mX11_year [.ref 94, .int x1, .int x2, .int x3] S0 (rx_pi zr zS) := by
  unfold f_X11_year at h
  show EV gM (d + 8) mX11_year 0 [some (.ref 94), some (.int x1), some (.int x2), some (.int x3), none, none] [] S0 (rx_pi zr zS)
  refine ev_aload_n (i := 0) 1 dX11_year_0 rfl rfl rfl ?_
  refine ev_iload_n (i := 1) 2 dX11_year_1 rfl rfl rfl ?_
  obtain ⟨x6, S5, g7, h⟩ := rx_bd_o h
  refine ev_cVi1 5 dX11_year_2 (em_X11_isCouple g7) mm_X11_isCouple mv_X11_isCouple lk_11_399 dk_94 (by decide) rfl (Nat.le_of_ble_eq_true rfl) (Nat.le_of_ble_eq_true rfl) rfl ?_
  refine ev_if_eq 25 8 dX11_year_5 rfl rfl (fun c8 => ?_) (fun c8 => ?_)
  · replace h := rx_if_t c8 h
    refine ev_iconst (v := (-1)) 26 dX11_year_25 (by decide) rfl ?_
    exact ev_ireturn dX11_year_26 rfl (rx_ret_i h)
  · replace h := rx_if_f c8 h
    refine ev_iload_n (i := 2) 9 dX11_year_8 rfl rfl rfl ?_
    obtain ⟨x10, S9, g11, h⟩ := rx_bd_o h
    refine ev_cSi1 12 dX11_year_9 (em_X11_isLong g11) mm_X11_isLong ms_X11_isLong lk_11_445 (Nat.le_of_ble_eq_true rfl) (Nat.le_of_ble_eq_true rfl) rfl ?_
    refine ev_if_eq 25 15 dX11_year_12 rfl rfl (fun c12 => ?_) (fun c12 => ?_)
    · replace h := rx_if_t c12 h
      refine ev_iconst (v := (-1)) 26 dX11_year_25 (by decide) rfl ?_
      exact ev_ireturn dX11_year_26 rfl (rx_ret_i h)
    · replace h := rx_if_f c12 h
      refine ev_iload_n (i := 3) 16 dX11_year_15 rfl rfl rfl ?_
      refine ev_iconst (v := 1) 17 dX11_year_16 (by decide) rfl ?_
      refine ev_bipush (v := 20) 19 dX11_year_17 (by decide) rfl ?_
      obtain ⟨x14, S13, g15, h⟩ := rx_bd_o h
      refine ev_cSi3 22 dX11_year_19 (em_X11_in g15) mm_X11_in ms_X11_in lk_11_316 (Nat.le_of_ble_eq_true rfl) (Nat.le_of_ble_eq_true rfl) rfl ?_
      refine ev_if_ne 27 25 dX11_year_22 rfl rfl (fun c16 => ?_) (fun c16 => ?_)
      · replace h := rx_if_f c16 h
        refine ev_iconst (v := 0) 28 dX11_year_27 (by decide) rfl ?_
        refine ev_istore (ls' := [some (.ref 94), some (.int x1), some (.int x2), some (.int x3), some (.int 0), none]) 30 dX11_year_28 (Nat.le_of_ble_eq_true rfl) rfl rfl ?_
        refine ev_iconst (v := 0) 31 dX11_year_30 (by decide) rfl ?_
        refine ev_istore (ls' := [some (.ref 94), some (.int x1), some (.int x2), some (.int x3), some (.int 0), some (.int 0)]) 33 dX11_year_31 (Nat.le_of_ble_eq_true rfl) rfl rfl ?_
        exact (em_X11_year_L33 _ _ _ _ _ _ _ h).fewer (rx_le_s (rx_le_s (rx_le_s (rx_le_s (rx_le_s (rx_le_s rx_le_0))))))
      · replace h := rx_if_t c16 h
        refine ev_iconst (v := (-1)) 26 dX11_year_25 (by decide) rfl ?_
        exact ev_ireturn dX11_year_26 rfl (rx_ret_i h)

def f_X11_tell (x1 : Int32) (x2 : Int32) (S0 : rx_S) : Option (Int32 × rx_S) := if (S0.1 94 62) = 20 then (some ((-1), S0)) else (rx_bd (f_X11_in x1 0 7 S0) (fun x6 S5 => if x6 = 0 then (some ((-1), S5)) else (rx_let (fun (x9 : Int32) (x10 : Int32) (S11 : rx_S) => rx_gd (S11.1 94 62) 20 (rx_let (rx_ui S11 134 (Int32.toNatClampNeg (S11.1 94 62)) x9) (fun S13 => rx_let (fun (x14 : Int32) (x15 : Int32) (S16 : rx_S) => rx_gd x14 20 (rx_let (rx_ui S16 135 (Int32.toNatClampNeg x14) x15) (fun S18 => rx_let (rx_ui S18 94 62 ((S18.1 94 62) + 1)) (fun S19 => some (((S19.1 94 62) - 1), S19))))) (fun J69_2 => if x10 = 1 then (J69_2 (S13.1 94 62) 8 S13) else (J69_2 (S13.1 94 62) (x10 - 8) S13))))) (fun J37_1 => if x2 = 1 then (J37_1 x1 x2 S5) else (rx_bd (f_X11_in x2 8 15 S5) (fun x23 S22 => if x23 = 0 then (some ((-1), S22)) else (J37_1 x1 x2 S22)))))))
set_option maxHeartbeats 4000000 in
set_option maxRecDepth 20000 in
theorem em_X11_tell {d : Nat} {x1 : Int32} {x2 : Int32} {S0 : rx_S} {zr : Int32} {zS : rx_S} (h : f_X11_tell x1 x2 S0 = some (zr, zS)) : EM gM (d + 1) mX11_tell [.ref 94, .int x1, .int x2] S0 (rx_pi zr zS) := by
  unfold f_X11_tell at h
  show EV gM (d + 1) mX11_tell 0 [some (.ref 94), some (.int x1), some (.int x2)] [] S0 (rx_pi zr zS)
  refine ev_aload_n (i := 0) 1 dX11_tell_0 rfl rfl rfl ?_
  refine ev_get (v := .int (S0.1 94 62)) 4 dX11_tell_1 dk_94 fl_11_254 (by decide) rfl rfl rfl ?_
  refine ev_bipush (v := 20) 6 dX11_tell_4 (by decide) rfl ?_
  refine ev_icmp_eq 35 9 dX11_tell_6 rfl rfl (fun c4 => ?_) (fun c4 => ?_)
  · replace h := rx_if_t c4 h
    refine ev_iconst (v := (-1)) 36 dX11_tell_35 (by decide) rfl ?_
    exact ev_ireturn dX11_tell_36 rfl (rx_ret_i h)
  · replace h := rx_if_f c4 h
    refine ev_iload_n (i := 1) 10 dX11_tell_9 rfl rfl rfl ?_
    refine ev_iconst (v := 0) 11 dX11_tell_10 (by decide) rfl ?_
    refine ev_bipush (v := 7) 13 dX11_tell_11 (by decide) rfl ?_
    obtain ⟨x6, S5, g7, h⟩ := rx_bd_o h
    refine ev_cSi3 16 dX11_tell_13 (em_X11_in g7) mm_X11_in ms_X11_in lk_11_316 (Nat.le_of_ble_eq_true rfl) (Nat.le_of_ble_eq_true rfl) rfl ?_
    refine ev_if_eq 35 19 dX11_tell_16 rfl rfl (fun c8 => ?_) (fun c8 => ?_)
    · replace h := rx_if_t c8 h
      refine ev_iconst (v := (-1)) 36 dX11_tell_35 (by decide) rfl ?_
      exact ev_ireturn dX11_tell_36 rfl (rx_ret_i h)
    · replace h := rx_if_f c8 h
      refine ev_iload_n (i := 2) 20 dX11_tell_19 rfl rfl rfl ?_
      refine ev_iconst (v := 1) 21 dX11_tell_20 (by decide) rfl ?_
      obtain ⟨J37_1, eJ37_1, h⟩ := rx_let_o h
      have hJ37_1 : ∀ (x9 : Int32) (x10 : Int32) (S11 : rx_S), J37_1 x9 x10 S11 = some (zr, zS) → EV gM (d + 1) mX11_tell 37 [some (.ref 94), some (.int x9), some (.int x10)] [] S11 (rx_pi zr zS) := by
        intro x9 x10 S11 h
        subst eJ37_1
        refine ev_aload_n (i := 0) 38 dX11_tell_37 rfl rfl rfl ?_
        refine ev_get (v := .ref 134) 41 dX11_tell_38 dk_94 fl_11_137 (by decide) rfl rfl rfl ?_
        refine ev_aload_n (i := 0) 42 dX11_tell_41 rfl rfl rfl ?_
        refine ev_get (v := .int (S11.1 94 62)) 45 dX11_tell_42 dk_94 fl_11_254 (by decide) rfl rfl rfl ?_
        refine ev_iload_n (i := 1) 46 dX11_tell_45 rfl rfl rfl ?_
        obtain ⟨g12, h⟩ := rx_gd_o h
        obtain ⟨S13, eS13, h⟩ := rx_let_o h
        refine ex_iast _ 47 dX11_tell_46 dk_134 g12 rfl rfl eS13 ?_
        refine ev_aload_n (i := 0) 48 dX11_tell_47 rfl rfl rfl ?_
        refine ev_get (v := .ref 135) 51 dX11_tell_48 dk_94 fl_11_140 (by decide) rfl rfl rfl ?_
        refine ev_aload_n (i := 0) 52 dX11_tell_51 rfl rfl rfl ?_
        refine ev_get (v := .int (S13.1 94 62)) 55 dX11_tell_52 dk_94 fl_11_254 (by decide) rfl rfl rfl ?_
        refine ev_iload_n (i := 2) 56 dX11_tell_55 rfl rfl rfl ?_
        refine ev_iconst (v := 1) 57 dX11_tell_56 (by decide) rfl ?_
        obtain ⟨J69_2, eJ69_2, h⟩ := rx_let_o h
        have hJ69_2 : ∀ (x14 : Int32) (x15 : Int32) (S16 : rx_S), J69_2 x14 x15 S16 = some (zr, zS) → EV gM (d + 1) mX11_tell 69 [some (.ref 94), none, none] [.int x15, .int x14, .ref 135] S16 (rx_pi zr zS) := by
          intro x14 x15 S16 h
          subst eJ69_2
          obtain ⟨g17, h⟩ := rx_gd_o h
          obtain ⟨S18, eS18, h⟩ := rx_let_o h
          refine ex_iast _ 70 dX11_tell_69 dk_135 g17 rfl rfl eS18 ?_
          refine ev_aload_n (i := 0) 71 dX11_tell_70 rfl rfl rfl ?_
          refine ev_dup 72 dX11_tell_71 rfl rfl ?_
          refine ev_get (v := .int (S18.1 94 62)) 75 dX11_tell_72 dk_94 fl_11_254 (by decide) rfl rfl rfl ?_
          refine ev_iconst (v := 1) 76 dX11_tell_75 (by decide) rfl ?_
          refine ev_iadd 77 dX11_tell_76 rfl ?_
          obtain ⟨S19, eS19, h⟩ := rx_let_o h
          refine ex_put 80 dX11_tell_77 dk_94 fl_11_254 pp_11_62 (by decide) rfl rfl rfl rfl eS19 ?_
          refine ev_aload_n (i := 0) 81 dX11_tell_80 rfl rfl rfl ?_
          refine ev_get (v := .int (S19.1 94 62)) 84 dX11_tell_81 dk_94 fl_11_254 (by decide) rfl rfl rfl ?_
          refine ev_iconst (v := 1) 85 dX11_tell_84 (by decide) rfl ?_
          refine ev_isub 86 dX11_tell_85 rfl ?_
          exact ev_ireturn dX11_tell_86 rfl (rx_ret_i h)
        refine ev_icmp_ne 65 60 dX11_tell_57 rfl rfl (fun c20 => ?_) (fun c20 => ?_)
        · replace h := rx_if_f c20 h
          refine ev_iload_n (i := 2) 66 dX11_tell_65 rfl rfl rfl ?_
          refine ev_bipush (v := 8) 68 dX11_tell_66 (by decide) rfl ?_
          refine ev_isub 69 dX11_tell_68 rfl ?_
          exact (hJ69_2 _ _ _ h).fewer (rx_le_s (rx_le_n (rx_le_n rx_le_0)))
        · replace h := rx_if_t c20 h
          refine ev_bipush (v := 8) 62 dX11_tell_60 (by decide) rfl ?_
          refine ev_goto 69 dX11_tell_62 rfl ?_
          exact (hJ69_2 _ _ _ h).fewer (rx_le_s (rx_le_n (rx_le_n rx_le_0)))
      refine ev_icmp_eq 37 24 dX11_tell_21 rfl rfl (fun c21 => ?_) (fun c21 => ?_)
      · replace h := rx_if_t c21 h
        exact (hJ37_1 _ _ _ h).fewer (rx_le_s (rx_le_s (rx_le_s rx_le_0)))
      · replace h := rx_if_f c21 h
        refine ev_iload_n (i := 2) 25 dX11_tell_24 rfl rfl rfl ?_
        refine ev_bipush (v := 8) 27 dX11_tell_25 (by decide) rfl ?_
        refine ev_bipush (v := 15) 29 dX11_tell_27 (by decide) rfl ?_
        obtain ⟨x23, S22, g24, h⟩ := rx_bd_o h
        refine ev_cSi3 32 dX11_tell_29 (em_X11_in g24) mm_X11_in ms_X11_in lk_11_316 (Nat.le_of_ble_eq_true rfl) (Nat.le_of_ble_eq_true rfl) rfl ?_
        refine ev_if_ne 37 35 dX11_tell_32 rfl rfl (fun c25 => ?_) (fun c25 => ?_)
        · replace h := rx_if_f c25 h
          exact (hJ37_1 _ _ _ h).fewer (rx_le_s (rx_le_s (rx_le_s rx_le_0)))
        · replace h := rx_if_t c25 h
          refine ev_iconst (v := (-1)) 36 dX11_tell_35 (by decide) rfl ?_
          exact ev_ireturn dX11_tell_36 rfl (rx_ret_i h)

def f_X11_forget (S0 : rx_S) : Option (Int32 × rx_S) := rx_let (S0.1 94 62) (fun x2 => rx_let (rx_ui S0 94 62 0) (fun S3 => some (x2, S3)))
set_option maxHeartbeats 4000000 in
set_option maxRecDepth 20000 in
theorem em_X11_forget {d : Nat} {S0 : rx_S} {zr : Int32} {zS : rx_S} (h : f_X11_forget S0 = some (zr, zS)) : EM gM d mX11_forget [.ref 94] S0 (rx_pi zr zS) := by
  unfold f_X11_forget at h
  show EV gM d mX11_forget 0 [some (.ref 94), none] [] S0 (rx_pi zr zS)
  refine ev_aload_n (i := 0) 1 dX11_forget_0 rfl rfl rfl ?_
  refine ev_get (v := .int (S0.1 94 62)) 4 dX11_forget_1 dk_94 fl_11_254 (by decide) rfl rfl rfl ?_
  obtain ⟨x2, ex2, h⟩ := rx_let_o h
  refine ev_nm ex2 ?_
  refine ev_istore_n (ls' := [some (.ref 94), some (.int x2)]) 5 dX11_forget_4 rfl (Nat.le_of_ble_eq_true rfl) rfl rfl ?_
  refine ev_aload_n (i := 0) 6 dX11_forget_5 rfl rfl rfl ?_
  refine ev_iconst (v := 0) 7 dX11_forget_6 (by decide) rfl ?_
  obtain ⟨S3, eS3, h⟩ := rx_let_o h
  refine ex_put 10 dX11_forget_7 dk_94 fl_11_254 pp_11_62 (by decide) rfl rfl rfl rfl eS3 ?_
  refine ev_iload_n (i := 1) 11 dX11_forget_10 rfl rfl rfl ?_
  exact ev_ireturn dX11_forget_11 rfl (rx_ret_i h)

def f_X11_whoMay_L27 (N : Nat) (K74 : Int32 → Int32 → Int32 → Int32 → rx_S → Option (Int32 × rx_S)) : Nat → Int32 → Int32 → Int32 → Int32 → Int32 → rx_S → Option (Int32 × rx_S)
  | 0, _, _, _, _, _, _ => none
  | n + 1, x21, x22, x23, x24, x25, S26 => if x21 ≤ x25 then (K74 x21 x22 x23 x24 S26) else (if x24 = 0 then (K74 x21 x22 x23 x24 S26) else (rx_gd x25 20 (rx_bd (f_X11_putAs N x23 (S26.1 134 (Int32.toNatClampNeg x25)) 0 S26) (fun x36 S35 => rx_gd x25 20 (if x36 = (S35.1 135 (Int32.toNatClampNeg x25)) then (rx_let (x25 + 1) (fun x41 => f_X11_whoMay_L27 N K74 n x21 x22 x23 1 x41 S35)) else (rx_let (x25 + 1) (fun x40 => f_X11_whoMay_L27 N K74 n x21 x22 x23 0 x40 S35)))))))
def f_X11_whoMay_L8 (N : Nat) : Nat → Int32 → Int32 → Int32 → rx_S → Option (Int32 × rx_S)
  | 0, _, _, _, _ => none
  | n + 1, x6, x7, x8, S9 => rx_gd (S9.1 94 18) 2 (if (S9.1 109 (Int32.toNatClampNeg (S9.1 94 18))) ≤ x8 then (some (x7, S9)) else (rx_let (fun (x12 : Int32) (x13 : Int32) (x14 : Int32) (x15 : Int32) (S16 : rx_S) => if x15 = 0 then (rx_let (x14 + 1) (fun x18 => f_X11_whoMay_L8 N n x12 x13 x18 S16)) else (rx_let (x13 ||| ((1 : Int32) <<< (x14 &&& 31))) (fun x19 => rx_let (x14 + 1) (fun x20 => f_X11_whoMay_L8 N n x12 x19 x20 S16)))) (fun J74_1 => f_X11_whoMay_L27 N J74_1 N x6 x7 x8 1 0 S9)))
def f_X11_whoMay (N : Nat) (x1 : Int32) (S0 : rx_S) : Option (Int32 × rx_S) := rx_bd (f_X11_copies N S0) (fun x4 S3 => f_X11_whoMay_L8 N N x1 0 0 S3)
set_option maxHeartbeats 4000000 in
set_option maxRecDepth 20000 in
theorem em_X11_whoMay_L27 {d N : Nat} {K74 : Int32 → Int32 → Int32 → Int32 → rx_S → Option (Int32 × rx_S)} {zr : Int32} {zS : rx_S} (hK74 : ∀ (x27 : Int32) (x28 : Int32) (x29 : Int32) (x30 : Int32) (S31 : rx_S), K74 x27 x28 x29 x30 S31 = some (zr, zS) → EV gM (d + 4) mX11_whoMay 74 [some (.ref 94), some (.int x27), some (.int x28), some (.int x29), some (.int x30), none] [] S31 (rx_pi zr zS)) : ∀ (n : Nat) (x21 : Int32) (x22 : Int32) (x23 : Int32) (x24 : Int32) (x25 : Int32) (S26 : rx_S), f_X11_whoMay_L27 N K74 n x21 x22 x23 x24 x25 S26 = some (zr, zS) → EV gM (d + 4) mX11_whoMay 27 [some (.ref 94), some (.int x21), some (.int x22), some (.int x23), some (.int x24), some (.int x25)] [] S26 (rx_pi zr zS) := by
  intro n
  induction n with
  | zero => intro x21 x22 x23 x24 x25 S26 h; cases h
  | succ n ih =>
    intro x21 x22 x23 x24 x25 S26 h
    rw [f_X11_whoMay_L27] at h
    refine ev_iload 29 dX11_whoMay_27 rfl rfl ?_
    refine ev_iload_n (i := 1) 30 dX11_whoMay_29 rfl rfl rfl ?_
    refine ev_icmp_ge 74 33 dX11_whoMay_30 rfl rfl (fun c32 => ?_) (fun c32 => ?_)
    · replace h := rx_if_t c32 h
      exact (hK74 _ _ _ _ _ h).fewer (rx_le_s (rx_le_s (rx_le_s (rx_le_s (rx_le_s (rx_le_n rx_le_0))))))
    · replace h := rx_if_f c32 h
      refine ev_iload 35 dX11_whoMay_33 rfl rfl ?_
      refine ev_if_eq 74 38 dX11_whoMay_35 rfl rfl (fun c33 => ?_) (fun c33 => ?_)
      · replace h := rx_if_t c33 h
        exact (hK74 _ _ _ _ _ h).fewer (rx_le_s (rx_le_s (rx_le_s (rx_le_s (rx_le_s (rx_le_n rx_le_0))))))
      · replace h := rx_if_f c33 h
        refine ev_aload_n (i := 0) 39 dX11_whoMay_38 rfl rfl rfl ?_
        refine ev_iload_n (i := 3) 40 dX11_whoMay_39 rfl rfl rfl ?_
        refine ev_aload_n (i := 0) 41 dX11_whoMay_40 rfl rfl rfl ?_
        refine ev_get (v := .ref 134) 44 dX11_whoMay_41 dk_94 fl_11_137 (by decide) rfl rfl rfl ?_
        refine ev_iload 46 dX11_whoMay_44 rfl rfl ?_
        obtain ⟨g34, h⟩ := rx_gd_o h
        refine ex_iald _ 47 dX11_whoMay_46 dk_134 g34 rfl rfl ?_
        refine ev_iconst (v := 0) 48 dX11_whoMay_47 (by decide) rfl ?_
        obtain ⟨x36, S35, g37, h⟩ := rx_bd_o h
        refine ev_cVi3 51 dX11_whoMay_48 (em_X11_putAs g37) mm_X11_putAs mv_X11_putAs lk_11_357 dk_94 (by decide) rfl (Nat.le_of_ble_eq_true rfl) (Nat.le_of_ble_eq_true rfl) rfl ?_
        refine ev_aload_n (i := 0) 52 dX11_whoMay_51 rfl rfl rfl ?_
        refine ev_get (v := .ref 135) 55 dX11_whoMay_52 dk_94 fl_11_140 (by decide) rfl rfl rfl ?_
        refine ev_iload 57 dX11_whoMay_55 rfl rfl ?_
        obtain ⟨g38, h⟩ := rx_gd_o h
        refine ex_iald _ 58 dX11_whoMay_57 dk_135 g38 rfl rfl ?_
        refine ev_icmp_ne 65 61 dX11_whoMay_58 rfl rfl (fun c39 => ?_) (fun c39 => ?_)
        · replace h := rx_if_f c39 h
          refine ev_iconst (v := 0) 66 dX11_whoMay_65 (by decide) rfl ?_
          refine ev_istore (ls' := [some (.ref 94), some (.int x21), some (.int x22), some (.int x23), some (.int 0), some (.int x25)]) 68 dX11_whoMay_66 (Nat.le_of_ble_eq_true rfl) rfl rfl ?_
          obtain ⟨x40, ex40, h⟩ := rx_let_o h
          refine ev_iinc (v := x40) (ls' := [some (.ref 94), some (.int x21), some (.int x22), some (.int x23), some (.int 0), some (.int x40)]) 71 dX11_whoMay_68 rfl (by rw [ex40]; rfl) (Nat.le_of_ble_eq_true rfl) rfl rfl ?_
          refine ev_goto 27 dX11_whoMay_71 rfl ?_
          exact (ih _ _ _ _ _ _ h).fewer (rx_le_s (rx_le_s (rx_le_s (rx_le_s (rx_le_s (rx_le_s rx_le_0))))))
        · replace h := rx_if_t c39 h
          refine ev_iconst (v := 1) 62 dX11_whoMay_61 (by decide) rfl ?_
          refine ev_goto 66 dX11_whoMay_62 rfl ?_
          refine ev_istore (ls' := [some (.ref 94), some (.int x21), some (.int x22), some (.int x23), some (.int 1), some (.int x25)]) 68 dX11_whoMay_66 (Nat.le_of_ble_eq_true rfl) rfl rfl ?_
          obtain ⟨x41, ex41, h⟩ := rx_let_o h
          refine ev_iinc (v := x41) (ls' := [some (.ref 94), some (.int x21), some (.int x22), some (.int x23), some (.int 1), some (.int x41)]) 71 dX11_whoMay_68 rfl (by rw [ex41]; rfl) (Nat.le_of_ble_eq_true rfl) rfl rfl ?_
          refine ev_goto 27 dX11_whoMay_71 rfl ?_
          exact (ih _ _ _ _ _ _ h).fewer (rx_le_s (rx_le_s (rx_le_s (rx_le_s (rx_le_s (rx_le_s rx_le_0))))))

set_option maxHeartbeats 4000000 in
set_option maxRecDepth 20000 in
theorem em_X11_whoMay_L8 {d N : Nat} {zr : Int32} {zS : rx_S} : ∀ (n : Nat) (x6 : Int32) (x7 : Int32) (x8 : Int32) (S9 : rx_S), f_X11_whoMay_L8 N n x6 x7 x8 S9 = some (zr, zS) → EV gM (d + 4) mX11_whoMay 8 [some (.ref 94), some (.int x6), some (.int x7), some (.int x8), none, none] [] S9 (rx_pi zr zS) := by
  intro n
  induction n with
  | zero => intro x6 x7 x8 S9 h; cases h
  | succ n ih =>
    intro x6 x7 x8 S9 h
    rw [f_X11_whoMay_L8] at h
    refine ev_iload_n (i := 3) 9 dX11_whoMay_8 rfl rfl rfl ?_
    refine ev_aload_n (i := 0) 10 dX11_whoMay_9 rfl rfl rfl ?_
    refine ev_get (v := .ref 109) 13 dX11_whoMay_10 dk_94 fl_11_61 (by decide) rfl rfl rfl ?_
    refine ev_aload_n (i := 0) 14 dX11_whoMay_13 rfl rfl rfl ?_
    refine ev_get (v := .int (S9.1 94 18)) 17 dX11_whoMay_14 dk_94 fl_11_233 (by decide) rfl rfl rfl ?_
    obtain ⟨g10, h⟩ := rx_gd_o h
    refine ex_iald _ 18 dX11_whoMay_17 dk_109 g10 rfl rfl ?_
    refine ev_icmp_ge 91 21 dX11_whoMay_18 rfl rfl (fun c11 => ?_) (fun c11 => ?_)
    · replace h := rx_if_t c11 h
      refine ev_iload_n (i := 2) 92 dX11_whoMay_91 rfl rfl rfl ?_
      exact ev_ireturn dX11_whoMay_92 rfl (rx_ret_i h)
    · replace h := rx_if_f c11 h
      refine ev_iconst (v := 1) 22 dX11_whoMay_21 (by decide) rfl ?_
      refine ev_istore (ls' := [some (.ref 94), some (.int x6), some (.int x7), some (.int x8), some (.int 1), none]) 24 dX11_whoMay_22 (Nat.le_of_ble_eq_true rfl) rfl rfl ?_
      refine ev_iconst (v := 0) 25 dX11_whoMay_24 (by decide) rfl ?_
      refine ev_istore (ls' := [some (.ref 94), some (.int x6), some (.int x7), some (.int x8), some (.int 1), some (.int 0)]) 27 dX11_whoMay_25 (Nat.le_of_ble_eq_true rfl) rfl rfl ?_
      obtain ⟨J74_1, eJ74_1, h⟩ := rx_let_o h
      have hJ74_1 : ∀ (x12 : Int32) (x13 : Int32) (x14 : Int32) (x15 : Int32) (S16 : rx_S), J74_1 x12 x13 x14 x15 S16 = some (zr, zS) → EV gM (d + 4) mX11_whoMay 74 [some (.ref 94), some (.int x12), some (.int x13), some (.int x14), some (.int x15), none] [] S16 (rx_pi zr zS) := by
        intro x12 x13 x14 x15 S16 h
        subst eJ74_1
        refine ev_iload 76 dX11_whoMay_74 rfl rfl ?_
        refine ev_if_eq 85 79 dX11_whoMay_76 rfl rfl (fun c17 => ?_) (fun c17 => ?_)
        · replace h := rx_if_t c17 h
          obtain ⟨x18, ex18, h⟩ := rx_let_o h
          refine ev_iinc (v := x18) (ls' := [some (.ref 94), some (.int x12), some (.int x13), some (.int x18), some (.int x15), none]) 88 dX11_whoMay_85 rfl (by rw [ex18]; rfl) (Nat.le_of_ble_eq_true rfl) rfl rfl ?_
          refine ev_goto 8 dX11_whoMay_88 rfl ?_
          exact (ih _ _ _ _ h).fewer (rx_le_s (rx_le_s (rx_le_s (rx_le_s (rx_le_n (rx_le_n rx_le_0))))))
        · replace h := rx_if_f c17 h
          refine ev_iload_n (i := 2) 80 dX11_whoMay_79 rfl rfl rfl ?_
          refine ev_iconst (v := 1) 81 dX11_whoMay_80 (by decide) rfl ?_
          refine ev_iload_n (i := 3) 82 dX11_whoMay_81 rfl rfl rfl ?_
          refine ev_ishl 83 dX11_whoMay_82 rfl ?_
          refine ev_ior 84 dX11_whoMay_83 rfl ?_
          obtain ⟨x19, ex19, h⟩ := rx_let_o h
          refine ev_nm ex19 ?_
          refine ev_istore_n (ls' := [some (.ref 94), some (.int x12), some (.int x19), some (.int x14), some (.int x15), none]) 85 dX11_whoMay_84 rfl (Nat.le_of_ble_eq_true rfl) rfl rfl ?_
          obtain ⟨x20, ex20, h⟩ := rx_let_o h
          refine ev_iinc (v := x20) (ls' := [some (.ref 94), some (.int x12), some (.int x19), some (.int x20), some (.int x15), none]) 88 dX11_whoMay_85 rfl (by rw [ex20]; rfl) (Nat.le_of_ble_eq_true rfl) rfl rfl ?_
          refine ev_goto 8 dX11_whoMay_88 rfl ?_
          exact (ih _ _ _ _ h).fewer (rx_le_s (rx_le_s (rx_le_s (rx_le_s (rx_le_n (rx_le_n rx_le_0))))))
      exact (em_X11_whoMay_L27 hJ74_1 _ _ _ _ _ _ _ h).fewer (rx_le_s (rx_le_s (rx_le_s (rx_le_s (rx_le_s (rx_le_s rx_le_0))))))

set_option maxHeartbeats 4000000 in
set_option maxRecDepth 20000 in
theorem em_X11_whoMay {d N : Nat} {x1 : Int32} {S0 : rx_S} {zr : Int32} {zS : rx_S} (h : f_X11_whoMay N x1 S0 = some (zr, zS)) : EM gM (d + 4) mX11_whoMay [.ref 94, .int x1] S0 (rx_pi zr zS) := by
  unfold f_X11_whoMay at h
  show EV gM (d + 4) mX11_whoMay 0 [some (.ref 94), some (.int x1), none, none, none, none] [] S0 (rx_pi zr zS)
  refine ev_aload_n (i := 0) 1 dX11_whoMay_0 rfl rfl rfl ?_
  obtain ⟨x4, S3, g5, h⟩ := rx_bd_o h
  refine ev_cVv0 4 dX11_whoMay_1 (em_X11_copies g5) mm_X11_copies mv_X11_copies lk_11_396 dk_94 (by decide) rfl (Nat.le_of_ble_eq_true rfl) (Nat.le_of_ble_eq_true rfl) rfl ?_
  refine ev_iconst (v := 0) 5 dX11_whoMay_4 (by decide) rfl ?_
  refine ev_istore_n (ls' := [some (.ref 94), some (.int x1), some (.int 0), none, none, none]) 6 dX11_whoMay_5 rfl (Nat.le_of_ble_eq_true rfl) rfl rfl ?_
  refine ev_iconst (v := 0) 7 dX11_whoMay_6 (by decide) rfl ?_
  refine ev_istore_n (ls' := [some (.ref 94), some (.int x1), some (.int 0), some (.int 0), none, none]) 8 dX11_whoMay_7 rfl (Nat.le_of_ble_eq_true rfl) rfl rfl ?_
  exact (em_X11_whoMay_L8 _ _ _ _ _ h).fewer (rx_le_s (rx_le_s (rx_le_s (rx_le_s (rx_le_n (rx_le_n rx_le_0))))))

def f_X11_who (N : Nat) (x1 : Int32) (S0 : rx_S) : Option (Int32 × rx_S) := rx_bd (f_X11_in x1 0 (S0.1 94 62) S0) (fun x4 S3 => if x4 = 0 then (some ((-1), S3)) else (rx_bd (f_X11_whoMay N x1 S3) (fun x8 S7 => some (x8, S7))))
set_option maxHeartbeats 4000000 in
set_option maxRecDepth 20000 in
theorem em_X11_who {d N : Nat} {x1 : Int32} {S0 : rx_S} {zr : Int32} {zS : rx_S} (h : f_X11_who N x1 S0 = some (zr, zS)) : EM gM (d + 5) mX11_who [.ref 94, .int x1] S0 (rx_pi zr zS) := by
  unfold f_X11_who at h
  show EV gM (d + 5) mX11_who 0 [some (.ref 94), some (.int x1)] [] S0 (rx_pi zr zS)
  refine ev_iload_n (i := 1) 1 dX11_who_0 rfl rfl rfl ?_
  refine ev_iconst (v := 0) 2 dX11_who_1 (by decide) rfl ?_
  refine ev_aload_n (i := 0) 3 dX11_who_2 rfl rfl rfl ?_
  refine ev_get (v := .int (S0.1 94 62)) 6 dX11_who_3 dk_94 fl_11_254 (by decide) rfl rfl rfl ?_
  obtain ⟨x4, S3, g5, h⟩ := rx_bd_o h
  refine ev_cSi3 9 dX11_who_6 (em_X11_in g5) mm_X11_in ms_X11_in lk_11_316 (Nat.le_of_ble_eq_true rfl) (Nat.le_of_ble_eq_true rfl) rfl ?_
  refine ev_if_eq 20 12 dX11_who_9 rfl rfl (fun c6 => ?_) (fun c6 => ?_)
  · replace h := rx_if_t c6 h
    refine ev_iconst (v := (-1)) 21 dX11_who_20 (by decide) rfl ?_
    exact ev_ireturn dX11_who_21 rfl (rx_ret_i h)
  · replace h := rx_if_f c6 h
    refine ev_aload_n (i := 0) 13 dX11_who_12 rfl rfl rfl ?_
    refine ev_iload_n (i := 1) 14 dX11_who_13 rfl rfl rfl ?_
    obtain ⟨x8, S7, g9, h⟩ := rx_bd_o h
    refine ev_cVi1 17 dX11_who_14 (em_X11_whoMay g9) mm_X11_whoMay mv_X11_whoMay lk_11_454 dk_94 (by decide) rfl (Nat.le_of_ble_eq_true rfl) (Nat.le_of_ble_eq_true rfl) rfl ?_
    refine ev_goto 21 dX11_who_17 rfl ?_
    exact ev_ireturn dX11_who_21 rfl (rx_ret_i h)

def f_X11_worstOf_L72 (N : Nat) : Nat → Int32 → Int32 → rx_S → Option (Int32 × rx_S)
  | 0, _, _, _ => none
  | n + 1, x8, x9, S10 => if (9 : Int32) ≤ x9 then (some (x8, S10)) else (rx_gd x9 9 (if (S10.1 136 (Int32.toNatClampNeg x9)) ≤ x8 then (rx_let (x9 + 1) (fun x14 => f_X11_worstOf_L72 N n x8 x14 S10)) else (rx_gd x9 9 (rx_let (S10.1 136 (Int32.toNatClampNeg x9)) (fun x16 => rx_let (x9 + 1) (fun x17 => f_X11_worstOf_L72 N n x16 x17 S10))))))
def f_X11_worstOf_L23 (N : Nat) (K67 : rx_S → Option (Int32 × rx_S)) : Nat → Int32 → Int32 → Int32 → rx_S → Option (Int32 × rx_S)
  | 0, _, _, _, _ => none
  | n + 1, x18, x19, x20, S21 => rx_gd (S21.1 94 18) 2 (if (S21.1 109 (Int32.toNatClampNeg (S21.1 94 18))) ≤ x20 then (K67 S21) else (if ((x18 >>> (x20 &&& 31)) &&& 1) = 1 then (rx_bd (f_X11_putAs N x20 x19 0 S21) (fun x28 S27 => rx_gd x28 9 (rx_gd x28 9 (rx_let (rx_ui S27 136 (Int32.toNatClampNeg x28) ((S27.1 136 (Int32.toNatClampNeg x28)) + 1)) (fun S32 => rx_let (x20 + 1) (fun x33 => f_X11_worstOf_L23 N K67 n x18 x19 x33 S32)))))) else (rx_let (x20 + 1) (fun x26 => f_X11_worstOf_L23 N K67 n x18 x19 x26 S21))))
def f_X11_worstOf_L2 (N : Nat) (K21 : Int32 → Int32 → rx_S → Option (Int32 × rx_S)) : Nat → Int32 → Int32 → Int32 → rx_S → Option (Int32 × rx_S)
  | 0, _, _, _, _ => none
  | n + 1, x34, x35, x36, S37 => if (9 : Int32) ≤ x36 then (K21 x34 x35 S37) else (rx_gd x36 9 (rx_let (rx_ui S37 136 (Int32.toNatClampNeg x36) 0) (fun S43 => rx_let (x36 + 1) (fun x44 => f_X11_worstOf_L2 N K21 n x34 x35 x44 S43))))
def f_X11_worstOf (N : Nat) (x1 : Int32) (x2 : Int32) (S0 : rx_S) : Option (Int32 × rx_S) := rx_let (fun (x4 : Int32) (x5 : Int32) (S6 : rx_S) => rx_let (fun (S7 : rx_S) => f_X11_worstOf_L72 N N 0 0 S7) (fun J67_2 => f_X11_worstOf_L23 N J67_2 N x4 x5 0 S6)) (fun J21_1 => f_X11_worstOf_L2 N J21_1 N x1 x2 0 S0)
set_option maxHeartbeats 4000000 in
set_option maxRecDepth 20000 in
theorem em_X11_worstOf_L72 {d N : Nat} {zr : Int32} {zS : rx_S} : ∀ (n : Nat) (x8 : Int32) (x9 : Int32) (S10 : rx_S), f_X11_worstOf_L72 N n x8 x9 S10 = some (zr, zS) → EV gM (d + 4) mX11_worstOf 72 [some (.ref 94), none, none, some (.int x8), some (.int x9)] [] S10 (rx_pi zr zS) := by
  intro n
  induction n with
  | zero => intro x8 x9 S10 h; cases h
  | succ n ih =>
    intro x8 x9 S10 h
    rw [f_X11_worstOf_L72] at h
    refine ev_iload 74 dX11_worstOf_72 rfl rfl ?_
    refine ev_bipush (v := 9) 76 dX11_worstOf_74 (by decide) rfl ?_
    refine ev_icmp_ge 104 79 dX11_worstOf_76 rfl rfl (fun c11 => ?_) (fun c11 => ?_)
    · replace h := rx_if_t c11 h
      refine ev_iload_n (i := 3) 105 dX11_worstOf_104 rfl rfl rfl ?_
      exact ev_ireturn dX11_worstOf_105 rfl (rx_ret_i h)
    · replace h := rx_if_f c11 h
      refine ev_aload_n (i := 0) 80 dX11_worstOf_79 rfl rfl rfl ?_
      refine ev_get (v := .ref 136) 83 dX11_worstOf_80 dk_94 fl_11_143 (by decide) rfl rfl rfl ?_
      refine ev_iload 85 dX11_worstOf_83 rfl rfl ?_
      obtain ⟨g12, h⟩ := rx_gd_o h
      refine ex_iald _ 86 dX11_worstOf_85 dk_136 g12 rfl rfl ?_
      refine ev_iload_n (i := 3) 87 dX11_worstOf_86 rfl rfl rfl ?_
      refine ev_icmp_le 98 90 dX11_worstOf_87 rfl rfl (fun c13 => ?_) (fun c13 => ?_)
      · replace h := rx_if_t c13 h
        obtain ⟨x14, ex14, h⟩ := rx_let_o h
        refine ev_iinc (v := x14) (ls' := [some (.ref 94), none, none, some (.int x8), some (.int x14)]) 101 dX11_worstOf_98 rfl (by rw [ex14]; rfl) (Nat.le_of_ble_eq_true rfl) rfl rfl ?_
        refine ev_goto 72 dX11_worstOf_101 rfl ?_
        exact (ih _ _ _ h).fewer (rx_le_s (rx_le_n (rx_le_n (rx_le_s (rx_le_s rx_le_0)))))
      · replace h := rx_if_f c13 h
        refine ev_aload_n (i := 0) 91 dX11_worstOf_90 rfl rfl rfl ?_
        refine ev_get (v := .ref 136) 94 dX11_worstOf_91 dk_94 fl_11_143 (by decide) rfl rfl rfl ?_
        refine ev_iload 96 dX11_worstOf_94 rfl rfl ?_
        obtain ⟨g15, h⟩ := rx_gd_o h
        refine ex_iald _ 97 dX11_worstOf_96 dk_136 g15 rfl rfl ?_
        obtain ⟨x16, ex16, h⟩ := rx_let_o h
        refine ev_nm ex16 ?_
        refine ev_istore_n (ls' := [some (.ref 94), none, none, some (.int x16), some (.int x9)]) 98 dX11_worstOf_97 rfl (Nat.le_of_ble_eq_true rfl) rfl rfl ?_
        obtain ⟨x17, ex17, h⟩ := rx_let_o h
        refine ev_iinc (v := x17) (ls' := [some (.ref 94), none, none, some (.int x16), some (.int x17)]) 101 dX11_worstOf_98 rfl (by rw [ex17]; rfl) (Nat.le_of_ble_eq_true rfl) rfl rfl ?_
        refine ev_goto 72 dX11_worstOf_101 rfl ?_
        exact (ih _ _ _ h).fewer (rx_le_s (rx_le_n (rx_le_n (rx_le_s (rx_le_s rx_le_0)))))

set_option maxHeartbeats 4000000 in
set_option maxRecDepth 20000 in
theorem em_X11_worstOf_L23 {d N : Nat} {K67 : rx_S → Option (Int32 × rx_S)} {zr : Int32} {zS : rx_S} (hK67 : ∀ (S22 : rx_S), K67 S22 = some (zr, zS) → EV gM (d + 4) mX11_worstOf 67 [some (.ref 94), none, none, none, none] [] S22 (rx_pi zr zS)) : ∀ (n : Nat) (x18 : Int32) (x19 : Int32) (x20 : Int32) (S21 : rx_S), f_X11_worstOf_L23 N K67 n x18 x19 x20 S21 = some (zr, zS) → EV gM (d + 4) mX11_worstOf 23 [some (.ref 94), some (.int x18), some (.int x19), some (.int x20), none] [] S21 (rx_pi zr zS) := by
  intro n
  induction n with
  | zero => intro x18 x19 x20 S21 h; cases h
  | succ n ih =>
    intro x18 x19 x20 S21 h
    rw [f_X11_worstOf_L23] at h
    refine ev_iload_n (i := 3) 24 dX11_worstOf_23 rfl rfl rfl ?_
    refine ev_aload_n (i := 0) 25 dX11_worstOf_24 rfl rfl rfl ?_
    refine ev_get (v := .ref 109) 28 dX11_worstOf_25 dk_94 fl_11_61 (by decide) rfl rfl rfl ?_
    refine ev_aload_n (i := 0) 29 dX11_worstOf_28 rfl rfl rfl ?_
    refine ev_get (v := .int (S21.1 94 18)) 32 dX11_worstOf_29 dk_94 fl_11_233 (by decide) rfl rfl rfl ?_
    obtain ⟨g23, h⟩ := rx_gd_o h
    refine ex_iald _ 33 dX11_worstOf_32 dk_109 g23 rfl rfl ?_
    refine ev_icmp_ge 67 36 dX11_worstOf_33 rfl rfl (fun c24 => ?_) (fun c24 => ?_)
    · replace h := rx_if_t c24 h
      exact (hK67 _ h).fewer (rx_le_s (rx_le_n (rx_le_n (rx_le_n (rx_le_n rx_le_0)))))
    · replace h := rx_if_f c24 h
      refine ev_iload_n (i := 1) 37 dX11_worstOf_36 rfl rfl rfl ?_
      refine ev_iload_n (i := 3) 38 dX11_worstOf_37 rfl rfl rfl ?_
      refine ev_ishr 39 dX11_worstOf_38 rfl ?_
      refine ev_iconst (v := 1) 40 dX11_worstOf_39 (by decide) rfl ?_
      refine ev_iand 41 dX11_worstOf_40 rfl ?_
      refine ev_iconst (v := 1) 42 dX11_worstOf_41 (by decide) rfl ?_
      refine ev_icmp_ne 61 45 dX11_worstOf_42 rfl rfl (fun c25 => ?_) (fun c25 => ?_)
      · replace h := rx_if_f c25 h
        obtain ⟨x26, ex26, h⟩ := rx_let_o h
        refine ev_iinc (v := x26) (ls' := [some (.ref 94), some (.int x18), some (.int x19), some (.int x26), none]) 64 dX11_worstOf_61 rfl (by rw [ex26]; rfl) (Nat.le_of_ble_eq_true rfl) rfl rfl ?_
        refine ev_goto 23 dX11_worstOf_64 rfl ?_
        exact (ih _ _ _ _ h).fewer (rx_le_s (rx_le_s (rx_le_s (rx_le_s (rx_le_n rx_le_0)))))
      · replace h := rx_if_t c25 h
        refine ev_aload_n (i := 0) 46 dX11_worstOf_45 rfl rfl rfl ?_
        refine ev_get (v := .ref 136) 49 dX11_worstOf_46 dk_94 fl_11_143 (by decide) rfl rfl rfl ?_
        refine ev_aload_n (i := 0) 50 dX11_worstOf_49 rfl rfl rfl ?_
        refine ev_iload_n (i := 3) 51 dX11_worstOf_50 rfl rfl rfl ?_
        refine ev_iload_n (i := 2) 52 dX11_worstOf_51 rfl rfl rfl ?_
        refine ev_iconst (v := 0) 53 dX11_worstOf_52 (by decide) rfl ?_
        obtain ⟨x28, S27, g29, h⟩ := rx_bd_o h
        refine ev_cVi3 56 dX11_worstOf_53 (em_X11_putAs g29) mm_X11_putAs mv_X11_putAs lk_11_357 dk_94 (by decide) rfl (Nat.le_of_ble_eq_true rfl) (Nat.le_of_ble_eq_true rfl) rfl ?_
        refine ev_dup2 57 dX11_worstOf_56 rfl rfl rfl ?_
        obtain ⟨g30, h⟩ := rx_gd_o h
        refine ex_iald _ 58 dX11_worstOf_57 dk_136 g30 rfl rfl ?_
        refine ev_iconst (v := 1) 59 dX11_worstOf_58 (by decide) rfl ?_
        refine ev_iadd 60 dX11_worstOf_59 rfl ?_
        obtain ⟨g31, h⟩ := rx_gd_o h
        obtain ⟨S32, eS32, h⟩ := rx_let_o h
        refine ex_iast _ 61 dX11_worstOf_60 dk_136 g31 rfl rfl eS32 ?_
        obtain ⟨x33, ex33, h⟩ := rx_let_o h
        refine ev_iinc (v := x33) (ls' := [some (.ref 94), some (.int x18), some (.int x19), some (.int x33), none]) 64 dX11_worstOf_61 rfl (by rw [ex33]; rfl) (Nat.le_of_ble_eq_true rfl) rfl rfl ?_
        refine ev_goto 23 dX11_worstOf_64 rfl ?_
        exact (ih _ _ _ _ h).fewer (rx_le_s (rx_le_s (rx_le_s (rx_le_s (rx_le_n rx_le_0)))))

set_option maxHeartbeats 4000000 in
set_option maxRecDepth 20000 in
theorem em_X11_worstOf_L2 {d N : Nat} {K21 : Int32 → Int32 → rx_S → Option (Int32 × rx_S)} {zr : Int32} {zS : rx_S} (hK21 : ∀ (x38 : Int32) (x39 : Int32) (S40 : rx_S), K21 x38 x39 S40 = some (zr, zS) → EV gM (d + 4) mX11_worstOf 21 [some (.ref 94), some (.int x38), some (.int x39), none, none] [] S40 (rx_pi zr zS)) : ∀ (n : Nat) (x34 : Int32) (x35 : Int32) (x36 : Int32) (S37 : rx_S), f_X11_worstOf_L2 N K21 n x34 x35 x36 S37 = some (zr, zS) → EV gM (d + 4) mX11_worstOf 2 [some (.ref 94), some (.int x34), some (.int x35), some (.int x36), none] [] S37 (rx_pi zr zS) := by
  intro n
  induction n with
  | zero => intro x34 x35 x36 S37 h; cases h
  | succ n ih =>
    intro x34 x35 x36 S37 h
    rw [f_X11_worstOf_L2] at h
    refine ev_iload_n (i := 3) 3 dX11_worstOf_2 rfl rfl rfl ?_
    refine ev_bipush (v := 9) 5 dX11_worstOf_3 (by decide) rfl ?_
    refine ev_icmp_ge 21 8 dX11_worstOf_5 rfl rfl (fun c41 => ?_) (fun c41 => ?_)
    · replace h := rx_if_t c41 h
      exact (hK21 _ _ _ h).fewer (rx_le_s (rx_le_s (rx_le_s (rx_le_n (rx_le_n rx_le_0)))))
    · replace h := rx_if_f c41 h
      refine ev_aload_n (i := 0) 9 dX11_worstOf_8 rfl rfl rfl ?_
      refine ev_get (v := .ref 136) 12 dX11_worstOf_9 dk_94 fl_11_143 (by decide) rfl rfl rfl ?_
      refine ev_iload_n (i := 3) 13 dX11_worstOf_12 rfl rfl rfl ?_
      refine ev_iconst (v := 0) 14 dX11_worstOf_13 (by decide) rfl ?_
      obtain ⟨g42, h⟩ := rx_gd_o h
      obtain ⟨S43, eS43, h⟩ := rx_let_o h
      refine ex_iast _ 15 dX11_worstOf_14 dk_136 g42 rfl rfl eS43 ?_
      obtain ⟨x44, ex44, h⟩ := rx_let_o h
      refine ev_iinc (v := x44) (ls' := [some (.ref 94), some (.int x34), some (.int x35), some (.int x44), none]) 18 dX11_worstOf_15 rfl (by rw [ex44]; rfl) (Nat.le_of_ble_eq_true rfl) rfl rfl ?_
      refine ev_goto 2 dX11_worstOf_18 rfl ?_
      exact (ih _ _ _ _ h).fewer (rx_le_s (rx_le_s (rx_le_s (rx_le_s (rx_le_n rx_le_0)))))

set_option maxHeartbeats 4000000 in
set_option maxRecDepth 20000 in
theorem em_X11_worstOf {d N : Nat} {x1 : Int32} {x2 : Int32} {S0 : rx_S} {zr : Int32} {zS : rx_S} (h : f_X11_worstOf N x1 x2 S0 = some (zr, zS)) : EM gM (d + 4) mX11_worstOf [.ref 94, .int x1, .int x2] S0 (rx_pi zr zS) := by
  unfold f_X11_worstOf at h
  show EV gM (d + 4) mX11_worstOf 0 [some (.ref 94), some (.int x1), some (.int x2), none, none] [] S0 (rx_pi zr zS)
  refine ev_iconst (v := 0) 1 dX11_worstOf_0 (by decide) rfl ?_
  refine ev_istore_n (ls' := [some (.ref 94), some (.int x1), some (.int x2), some (.int 0), none]) 2 dX11_worstOf_1 rfl (Nat.le_of_ble_eq_true rfl) rfl rfl ?_
  obtain ⟨J21_1, eJ21_1, h⟩ := rx_let_o h
  have hJ21_1 : ∀ (x4 : Int32) (x5 : Int32) (S6 : rx_S), J21_1 x4 x5 S6 = some (zr, zS) → EV gM (d + 4) mX11_worstOf 21 [some (.ref 94), some (.int x4), some (.int x5), none, none] [] S6 (rx_pi zr zS) := by
    intro x4 x5 S6 h
    subst eJ21_1
    refine ev_iconst (v := 0) 22 dX11_worstOf_21 (by decide) rfl ?_
    refine ev_istore_n (ls' := [some (.ref 94), some (.int x4), some (.int x5), some (.int 0), none]) 23 dX11_worstOf_22 rfl (Nat.le_of_ble_eq_true rfl) rfl rfl ?_
    obtain ⟨J67_2, eJ67_2, h⟩ := rx_let_o h
    have hJ67_2 : ∀ (S7 : rx_S), J67_2 S7 = some (zr, zS) → EV gM (d + 4) mX11_worstOf 67 [some (.ref 94), none, none, none, none] [] S7 (rx_pi zr zS) := by
      intro S7 h
      subst eJ67_2
      refine ev_iconst (v := 0) 68 dX11_worstOf_67 (by decide) rfl ?_
      refine ev_istore_n (ls' := [some (.ref 94), none, none, some (.int 0), none]) 69 dX11_worstOf_68 rfl (Nat.le_of_ble_eq_true rfl) rfl rfl ?_
      refine ev_iconst (v := 0) 70 dX11_worstOf_69 (by decide) rfl ?_
      refine ev_istore (ls' := [some (.ref 94), none, none, some (.int 0), some (.int 0)]) 72 dX11_worstOf_70 (Nat.le_of_ble_eq_true rfl) rfl rfl ?_
      exact (em_X11_worstOf_L72 _ _ _ _ h).fewer (rx_le_s (rx_le_n (rx_le_n (rx_le_s (rx_le_s rx_le_0)))))
    exact (em_X11_worstOf_L23 hJ67_2 _ _ _ _ _ h).fewer (rx_le_s (rx_le_s (rx_le_s (rx_le_s (rx_le_n rx_le_0)))))
  exact (em_X11_worstOf_L2 hJ21_1 _ _ _ _ _ h).fewer (rx_le_s (rx_le_s (rx_le_s (rx_le_s (rx_le_n rx_le_0)))))

def f_X11_ask_L32 (N : Nat) : Nat → Int32 → Int32 → Int32 → rx_S → Option (Int32 × rx_S)
  | 0, _, _, _, _ => none
  | n + 1, x11, x12, x13, S14 => if (8 : Int32) ≤ x13 then (some (x12, S14)) else (rx_bd (f_X11_worstOf N x11 x13 S14) (fun x17 S16 => rx_bd (f_X11_worstOf N x11 x12 S16) (fun x20 S19 => if x20 ≤ x17 then (rx_let (x13 + 1) (fun x23 => f_X11_ask_L32 N n x11 x12 x23 S19)) else (rx_let (x13 + 1) (fun x24 => f_X11_ask_L32 N n x11 x13 x24 S19)))))
def f_X11_ask (N : Nat) (x1 : Int32) (S0 : rx_S) : Option (Int32 × rx_S) := rx_bd (f_X11_in x1 0 (S0.1 94 62) S0) (fun x4 S3 => if x4 = 0 then (some ((-1), S3)) else (rx_bd (f_X11_whoMay N x1 S3) (fun x8 S7 => if x8 = 0 then (some ((-2), S7)) else (f_X11_ask_L32 N N x8 0 1 S7))))
set_option maxHeartbeats 4000000 in
set_option maxRecDepth 20000 in
theorem em_X11_ask_L32 {d N : Nat} {zr : Int32} {zS : rx_S} : ∀ (n : Nat) (x11 : Int32) (x12 : Int32) (x13 : Int32) (S14 : rx_S), f_X11_ask_L32 N n x11 x12 x13 S14 = some (zr, zS) → EV gM (d + 5) mX11_ask 32 [some (.ref 94), none, some (.int x11), some (.int x12), some (.int x13)] [] S14 (rx_pi zr zS) := by
  intro n
  induction n with
  | zero => intro x11 x12 x13 S14 h; cases h
  | succ n ih =>
    intro x11 x12 x13 S14 h
    rw [f_X11_ask_L32] at h
    refine ev_iload 34 dX11_ask_32 rfl rfl ?_
    refine ev_bipush (v := 8) 36 dX11_ask_34 (by decide) rfl ?_
    refine ev_icmp_ge 64 39 dX11_ask_36 rfl rfl (fun c15 => ?_) (fun c15 => ?_)
    · replace h := rx_if_t c15 h
      refine ev_iload_n (i := 3) 65 dX11_ask_64 rfl rfl rfl ?_
      exact ev_ireturn dX11_ask_65 rfl (rx_ret_i h)
    · replace h := rx_if_f c15 h
      refine ev_aload_n (i := 0) 40 dX11_ask_39 rfl rfl rfl ?_
      refine ev_iload_n (i := 2) 41 dX11_ask_40 rfl rfl rfl ?_
      refine ev_iload 43 dX11_ask_41 rfl rfl ?_
      obtain ⟨x17, S16, g18, h⟩ := rx_bd_o h
      refine ev_cVi2 46 dX11_ask_43 (em_X11_worstOf g18) mm_X11_worstOf mv_X11_worstOf lk_11_457 dk_94 (by decide) rfl (Nat.le_of_ble_eq_true rfl) (Nat.le_of_ble_eq_true rfl) rfl ?_
      refine ev_aload_n (i := 0) 47 dX11_ask_46 rfl rfl rfl ?_
      refine ev_iload_n (i := 2) 48 dX11_ask_47 rfl rfl rfl ?_
      refine ev_iload_n (i := 3) 49 dX11_ask_48 rfl rfl rfl ?_
      obtain ⟨x20, S19, g21, h⟩ := rx_bd_o h
      refine ev_cVi2 52 dX11_ask_49 (em_X11_worstOf g21) mm_X11_worstOf mv_X11_worstOf lk_11_457 dk_94 (by decide) rfl (Nat.le_of_ble_eq_true rfl) (Nat.le_of_ble_eq_true rfl) rfl ?_
      refine ev_icmp_ge 58 55 dX11_ask_52 rfl rfl (fun c22 => ?_) (fun c22 => ?_)
      · replace h := rx_if_t c22 h
        obtain ⟨x23, ex23, h⟩ := rx_let_o h
        refine ev_iinc (v := x23) (ls' := [some (.ref 94), none, some (.int x11), some (.int x12), some (.int x23)]) 61 dX11_ask_58 rfl (by rw [ex23]; rfl) (Nat.le_of_ble_eq_true rfl) rfl rfl ?_
        refine ev_goto 32 dX11_ask_61 rfl ?_
        exact (ih _ _ _ _ h).fewer (rx_le_s (rx_le_n (rx_le_s (rx_le_s (rx_le_s rx_le_0)))))
      · replace h := rx_if_f c22 h
        refine ev_iload 57 dX11_ask_55 rfl rfl ?_
        refine ev_istore_n (ls' := [some (.ref 94), none, some (.int x11), some (.int x13), some (.int x13)]) 58 dX11_ask_57 rfl (Nat.le_of_ble_eq_true rfl) rfl rfl ?_
        obtain ⟨x24, ex24, h⟩ := rx_let_o h
        refine ev_iinc (v := x24) (ls' := [some (.ref 94), none, some (.int x11), some (.int x13), some (.int x24)]) 61 dX11_ask_58 rfl (by rw [ex24]; rfl) (Nat.le_of_ble_eq_true rfl) rfl rfl ?_
        refine ev_goto 32 dX11_ask_61 rfl ?_
        exact (ih _ _ _ _ h).fewer (rx_le_s (rx_le_n (rx_le_s (rx_le_s (rx_le_s rx_le_0)))))

set_option maxHeartbeats 4000000 in
set_option maxRecDepth 20000 in
theorem em_X11_ask {d N : Nat} {x1 : Int32} {S0 : rx_S} {zr : Int32} {zS : rx_S} (h : f_X11_ask N x1 S0 = some (zr, zS)) : EM gM (d + 5) mX11_ask [.ref 94, .int x1] S0 (rx_pi zr zS) := by
  unfold f_X11_ask at h
  show EV gM (d + 5) mX11_ask 0 [some (.ref 94), some (.int x1), none, none, none] [] S0 (rx_pi zr zS)
  refine ev_iload_n (i := 1) 1 dX11_ask_0 rfl rfl rfl ?_
  refine ev_iconst (v := 0) 2 dX11_ask_1 (by decide) rfl ?_
  refine ev_aload_n (i := 0) 3 dX11_ask_2 rfl rfl rfl ?_
  refine ev_get (v := .int (S0.1 94 62)) 6 dX11_ask_3 dk_94 fl_11_254 (by decide) rfl rfl rfl ?_
  obtain ⟨x4, S3, g5, h⟩ := rx_bd_o h
  refine ev_cSi3 9 dX11_ask_6 (em_X11_in g5) mm_X11_in ms_X11_in lk_11_316 (Nat.le_of_ble_eq_true rfl) (Nat.le_of_ble_eq_true rfl) rfl ?_
  refine ev_if_ne 14 12 dX11_ask_9 rfl rfl (fun c6 => ?_) (fun c6 => ?_)
  · replace h := rx_if_f c6 h
    refine ev_aload_n (i := 0) 15 dX11_ask_14 rfl rfl rfl ?_
    refine ev_iload_n (i := 1) 16 dX11_ask_15 rfl rfl rfl ?_
    obtain ⟨x8, S7, g9, h⟩ := rx_bd_o h
    refine ev_cVi1 19 dX11_ask_16 (em_X11_whoMay g9) mm_X11_whoMay mv_X11_whoMay lk_11_454 dk_94 (by decide) rfl (Nat.le_of_ble_eq_true rfl) (Nat.le_of_ble_eq_true rfl) rfl ?_
    refine ev_istore_n (ls' := [some (.ref 94), some (.int x1), some (.int x8), none, none]) 20 dX11_ask_19 rfl (Nat.le_of_ble_eq_true rfl) rfl rfl ?_
    refine ev_iload_n (i := 2) 21 dX11_ask_20 rfl rfl rfl ?_
    refine ev_if_ne 27 24 dX11_ask_21 rfl rfl (fun c10 => ?_) (fun c10 => ?_)
    · replace h := rx_if_f c10 h
      refine ev_iconst (v := 0) 28 dX11_ask_27 (by decide) rfl ?_
      refine ev_istore_n (ls' := [some (.ref 94), some (.int x1), some (.int x8), some (.int 0), none]) 29 dX11_ask_28 rfl (Nat.le_of_ble_eq_true rfl) rfl rfl ?_
      refine ev_iconst (v := 1) 30 dX11_ask_29 (by decide) rfl ?_
      refine ev_istore (ls' := [some (.ref 94), some (.int x1), some (.int x8), some (.int 0), some (.int 1)]) 32 dX11_ask_30 (Nat.le_of_ble_eq_true rfl) rfl rfl ?_
      exact (em_X11_ask_L32 _ _ _ _ _ h).fewer (rx_le_s (rx_le_n (rx_le_s (rx_le_s (rx_le_s rx_le_0)))))
    · replace h := rx_if_t c10 h
      refine ev_bipush (v := (-2)) 26 dX11_ask_24 (by decide) rfl ?_
      exact ev_ireturn dX11_ask_26 rfl (rx_ret_i h)
  · replace h := rx_if_t c6 h
    refine ev_iconst (v := (-1)) 13 dX11_ask_12 (by decide) rfl ?_
    exact ev_ireturn dX11_ask_13 rfl (rx_ret_i h)

def f_X11_hold_L20 (N : Nat) : Nat → Int32 → Int32 → rx_S → Option (Int32 × rx_S)
  | 0, _, _, _ => none
  | n + 1, x9, x10, S11 => if (48 : Int32) ≤ x10 then (some (1, S11)) else (rx_gd x10 48 (rx_gd (((48 : Int32) * x9) + x10) 144 (rx_let (rx_ui S11 138 (Int32.toNatClampNeg (((48 : Int32) * x9) + x10)) (S11.1 126 (Int32.toNatClampNeg x10))) (fun S15 => rx_let (x10 + 1) (fun x16 => f_X11_hold_L20 N n x9 x16 S15)))))
def f_X11_hold (N : Nat) (x1 : Int32) (S0 : rx_S) : Option (Int32 × rx_S) := rx_bd (f_X11_in x1 0 2 S0) (fun x4 S3 => if x4 = 0 then (some (0, S3)) else (rx_gd x1 3 (rx_let (rx_ui S3 137 (Int32.toNatClampNeg x1) (vp_nar .boolean 1)) (fun S8 => f_X11_hold_L20 N N x1 0 S8))))
set_option maxHeartbeats 4000000 in
set_option maxRecDepth 20000 in
theorem em_X11_hold_L20 {d N : Nat} {zr : Int32} {zS : rx_S} : ∀ (n : Nat) (x9 : Int32) (x10 : Int32) (S11 : rx_S), f_X11_hold_L20 N n x9 x10 S11 = some (zr, zS) → EV gM (d + 1) mX11_hold 20 [some (.ref 94), some (.int x9), some (.int x10)] [] S11 (rx_pi zr zS) := by
  intro n
  induction n with
  | zero => intro x9 x10 S11 h; cases h
  | succ n ih =>
    intro x9 x10 S11 h
    rw [f_X11_hold_L20] at h
    refine ev_iload_n (i := 2) 21 dX11_hold_20 rfl rfl rfl ?_
    refine ev_bipush (v := 48) 23 dX11_hold_21 (by decide) rfl ?_
    refine ev_icmp_ge 49 26 dX11_hold_23 rfl rfl (fun c12 => ?_) (fun c12 => ?_)
    · replace h := rx_if_t c12 h
      refine ev_iconst (v := 1) 50 dX11_hold_49 (by decide) rfl ?_
      exact ev_zreturn dX11_hold_50 rfl (by decide) (rx_ret_i h)
    · replace h := rx_if_f c12 h
      refine ev_aload_n (i := 0) 27 dX11_hold_26 rfl rfl rfl ?_
      refine ev_get (v := .ref 138) 30 dX11_hold_27 dk_94 fl_11_149 (by decide) rfl rfl rfl ?_
      refine ev_bipush (v := 48) 32 dX11_hold_30 (by decide) rfl ?_
      refine ev_iload_n (i := 1) 33 dX11_hold_32 rfl rfl rfl ?_
      refine ev_imul 34 dX11_hold_33 rfl ?_
      refine ev_iload_n (i := 2) 35 dX11_hold_34 rfl rfl rfl ?_
      refine ev_iadd 36 dX11_hold_35 rfl ?_
      refine ev_aload_n (i := 0) 37 dX11_hold_36 rfl rfl rfl ?_
      refine ev_get (v := .ref 126) 40 dX11_hold_37 dk_94 fl_11_113 (by decide) rfl rfl rfl ?_
      refine ev_iload_n (i := 2) 41 dX11_hold_40 rfl rfl rfl ?_
      obtain ⟨g13, h⟩ := rx_gd_o h
      refine ex_iald _ 42 dX11_hold_41 dk_126 g13 rfl rfl ?_
      obtain ⟨g14, h⟩ := rx_gd_o h
      obtain ⟨S15, eS15, h⟩ := rx_let_o h
      refine ex_iast _ 43 dX11_hold_42 dk_138 g14 rfl rfl eS15 ?_
      obtain ⟨x16, ex16, h⟩ := rx_let_o h
      refine ev_iinc (v := x16) (ls' := [some (.ref 94), some (.int x9), some (.int x16)]) 46 dX11_hold_43 rfl (by rw [ex16]; rfl) (Nat.le_of_ble_eq_true rfl) rfl rfl ?_
      refine ev_goto 20 dX11_hold_46 rfl ?_
      exact (ih _ _ _ h).fewer (rx_le_s (rx_le_s (rx_le_s rx_le_0)))

set_option maxHeartbeats 4000000 in
set_option maxRecDepth 20000 in
theorem em_X11_hold {d N : Nat} {x1 : Int32} {S0 : rx_S} {zr : Int32} {zS : rx_S} (h : f_X11_hold N x1 S0 = some (zr, zS)) : EM gM (d + 1) mX11_hold [.ref 94, .int x1] S0 (rx_pi zr zS) := by
  unfold f_X11_hold at h
  show EV gM (d + 1) mX11_hold 0 [some (.ref 94), some (.int x1), none] [] S0 (rx_pi zr zS)
  refine ev_iload_n (i := 1) 1 dX11_hold_0 rfl rfl rfl ?_
  refine ev_iconst (v := 0) 2 dX11_hold_1 (by decide) rfl ?_
  refine ev_iconst (v := 2) 3 dX11_hold_2 (by decide) rfl ?_
  obtain ⟨x4, S3, g5, h⟩ := rx_bd_o h
  refine ev_cSi3 6 dX11_hold_3 (em_X11_in g5) mm_X11_in ms_X11_in lk_11_316 (Nat.le_of_ble_eq_true rfl) (Nat.le_of_ble_eq_true rfl) rfl ?_
  refine ev_if_ne 11 9 dX11_hold_6 rfl rfl (fun c6 => ?_) (fun c6 => ?_)
  · replace h := rx_if_f c6 h
    refine ev_aload_n (i := 0) 12 dX11_hold_11 rfl rfl rfl ?_
    refine ev_get (v := .ref 137) 15 dX11_hold_12 dk_94 fl_11_146 (by decide) rfl rfl rfl ?_
    refine ev_iload_n (i := 1) 16 dX11_hold_15 rfl rfl rfl ?_
    refine ev_iconst (v := 1) 17 dX11_hold_16 (by decide) rfl ?_
    obtain ⟨g7, h⟩ := rx_gd_o h
    obtain ⟨S8, eS8, h⟩ := rx_let_o h
    refine ex_zast _ 18 dX11_hold_17 dk_137 g7 rfl rfl eS8 ?_
    refine ev_iconst (v := 0) 19 dX11_hold_18 (by decide) rfl ?_
    refine ev_istore_n (ls' := [some (.ref 94), some (.int x1), some (.int 0)]) 20 dX11_hold_19 rfl (Nat.le_of_ble_eq_true rfl) rfl rfl ?_
    exact (em_X11_hold_L20 _ _ _ _ h).fewer (rx_le_s (rx_le_s (rx_le_s rx_le_0)))
  · replace h := rx_if_t c6 h
    refine ev_iconst (v := 0) 10 dX11_hold_9 (by decide) rfl ?_
    exact ev_zreturn dX11_hold_10 rfl (by decide) (rx_ret_i h)

def f_X11_restore_L22 (N : Nat) (K51 : rx_S → Option (Int32 × rx_S)) : Nat → Int32 → Int32 → rx_S → Option (Int32 × rx_S)
  | 0, _, _, _ => none
  | n + 1, x11, x12, S13 => if (48 : Int32) ≤ x12 then (K51 S13) else (rx_gd (((48 : Int32) * x11) + x12) 144 (rx_gd x12 48 (rx_let (rx_ui S13 126 (Int32.toNatClampNeg x12) (S13.1 138 (Int32.toNatClampNeg (((48 : Int32) * x11) + x12)))) (fun S18 => rx_let (x12 + 1) (fun x19 => f_X11_restore_L22 N K51 n x11 x19 S18)))))
def f_X11_restore (N : Nat) (x1 : Int32) (S0 : rx_S) : Option (Int32 × rx_S) := rx_bd (f_X11_in x1 0 2 S0) (fun x4 S3 => if x4 = 0 then (some (0, S3)) else (rx_gd x1 3 (if (S3.1 137 (Int32.toNatClampNeg x1)) = 0 then (some (0, S3)) else (rx_let (fun (S9 : rx_S) => rx_let (rx_ui S9 94 52 0) (fun S10 => some (1, S10))) (fun J51_1 => f_X11_restore_L22 N J51_1 N x1 0 S3)))))
set_option maxHeartbeats 4000000 in
set_option maxRecDepth 20000 in
theorem em_X11_restore_L22 {d N : Nat} {K51 : rx_S → Option (Int32 × rx_S)} {zr : Int32} {zS : rx_S} (hK51 : ∀ (S14 : rx_S), K51 S14 = some (zr, zS) → EV gM (d + 1) mX11_restore 51 [some (.ref 94), none, none] [] S14 (rx_pi zr zS)) : ∀ (n : Nat) (x11 : Int32) (x12 : Int32) (S13 : rx_S), f_X11_restore_L22 N K51 n x11 x12 S13 = some (zr, zS) → EV gM (d + 1) mX11_restore 22 [some (.ref 94), some (.int x11), some (.int x12)] [] S13 (rx_pi zr zS) := by
  intro n
  induction n with
  | zero => intro x11 x12 S13 h; cases h
  | succ n ih =>
    intro x11 x12 S13 h
    rw [f_X11_restore_L22] at h
    refine ev_iload_n (i := 2) 23 dX11_restore_22 rfl rfl rfl ?_
    refine ev_bipush (v := 48) 25 dX11_restore_23 (by decide) rfl ?_
    refine ev_icmp_ge 51 28 dX11_restore_25 rfl rfl (fun c15 => ?_) (fun c15 => ?_)
    · replace h := rx_if_t c15 h
      exact (hK51 _ h).fewer (rx_le_s (rx_le_n (rx_le_n rx_le_0)))
    · replace h := rx_if_f c15 h
      refine ev_aload_n (i := 0) 29 dX11_restore_28 rfl rfl rfl ?_
      refine ev_get (v := .ref 126) 32 dX11_restore_29 dk_94 fl_11_113 (by decide) rfl rfl rfl ?_
      refine ev_iload_n (i := 2) 33 dX11_restore_32 rfl rfl rfl ?_
      refine ev_aload_n (i := 0) 34 dX11_restore_33 rfl rfl rfl ?_
      refine ev_get (v := .ref 138) 37 dX11_restore_34 dk_94 fl_11_149 (by decide) rfl rfl rfl ?_
      refine ev_bipush (v := 48) 39 dX11_restore_37 (by decide) rfl ?_
      refine ev_iload_n (i := 1) 40 dX11_restore_39 rfl rfl rfl ?_
      refine ev_imul 41 dX11_restore_40 rfl ?_
      refine ev_iload_n (i := 2) 42 dX11_restore_41 rfl rfl rfl ?_
      refine ev_iadd 43 dX11_restore_42 rfl ?_
      obtain ⟨g16, h⟩ := rx_gd_o h
      refine ex_iald _ 44 dX11_restore_43 dk_138 g16 rfl rfl ?_
      obtain ⟨g17, h⟩ := rx_gd_o h
      obtain ⟨S18, eS18, h⟩ := rx_let_o h
      refine ex_iast _ 45 dX11_restore_44 dk_126 g17 rfl rfl eS18 ?_
      obtain ⟨x19, ex19, h⟩ := rx_let_o h
      refine ev_iinc (v := x19) (ls' := [some (.ref 94), some (.int x11), some (.int x19)]) 48 dX11_restore_45 rfl (by rw [ex19]; rfl) (Nat.le_of_ble_eq_true rfl) rfl rfl ?_
      refine ev_goto 22 dX11_restore_48 rfl ?_
      exact (ih _ _ _ h).fewer (rx_le_s (rx_le_s (rx_le_s rx_le_0)))

set_option maxHeartbeats 4000000 in
set_option maxRecDepth 20000 in
theorem em_X11_restore {d N : Nat} {x1 : Int32} {S0 : rx_S} {zr : Int32} {zS : rx_S} (h : f_X11_restore N x1 S0 = some (zr, zS)) : EM gM (d + 1) mX11_restore [.ref 94, .int x1] S0 (rx_pi zr zS) := by
  unfold f_X11_restore at h
  show EV gM (d + 1) mX11_restore 0 [some (.ref 94), some (.int x1), none] [] S0 (rx_pi zr zS)
  refine ev_iload_n (i := 1) 1 dX11_restore_0 rfl rfl rfl ?_
  refine ev_iconst (v := 0) 2 dX11_restore_1 (by decide) rfl ?_
  refine ev_iconst (v := 2) 3 dX11_restore_2 (by decide) rfl ?_
  obtain ⟨x4, S3, g5, h⟩ := rx_bd_o h
  refine ev_cSi3 6 dX11_restore_3 (em_X11_in g5) mm_X11_in ms_X11_in lk_11_316 (Nat.le_of_ble_eq_true rfl) (Nat.le_of_ble_eq_true rfl) rfl ?_
  refine ev_if_eq 18 9 dX11_restore_6 rfl rfl (fun c6 => ?_) (fun c6 => ?_)
  · replace h := rx_if_t c6 h
    refine ev_iconst (v := 0) 19 dX11_restore_18 (by decide) rfl ?_
    exact ev_zreturn dX11_restore_19 rfl (by decide) (rx_ret_i h)
  · replace h := rx_if_f c6 h
    refine ev_aload_n (i := 0) 10 dX11_restore_9 rfl rfl rfl ?_
    refine ev_get (v := .ref 137) 13 dX11_restore_10 dk_94 fl_11_146 (by decide) rfl rfl rfl ?_
    refine ev_iload_n (i := 1) 14 dX11_restore_13 rfl rfl rfl ?_
    obtain ⟨g7, h⟩ := rx_gd_o h
    refine ex_zald _ 15 dX11_restore_14 dk_137 g7 rfl rfl ?_
    refine ev_if_ne 20 18 dX11_restore_15 rfl rfl (fun c8 => ?_) (fun c8 => ?_)
    · replace h := rx_if_f c8 h
      refine ev_iconst (v := 0) 21 dX11_restore_20 (by decide) rfl ?_
      refine ev_istore_n (ls' := [some (.ref 94), some (.int x1), some (.int 0)]) 22 dX11_restore_21 rfl (Nat.le_of_ble_eq_true rfl) rfl rfl ?_
      obtain ⟨J51_1, eJ51_1, h⟩ := rx_let_o h
      have hJ51_1 : ∀ (S9 : rx_S), J51_1 S9 = some (zr, zS) → EV gM (d + 1) mX11_restore 51 [some (.ref 94), none, none] [] S9 (rx_pi zr zS) := by
        intro S9 h
        subst eJ51_1
        refine ev_aload_n (i := 0) 52 dX11_restore_51 rfl rfl rfl ?_
        refine ev_iconst (v := 0) 53 dX11_restore_52 (by decide) rfl ?_
        obtain ⟨S10, eS10, h⟩ := rx_let_o h
        refine ex_put 56 dX11_restore_53 dk_94 fl_11_251 pp_11_52 (by decide) rfl rfl rfl rfl eS10 ?_
        refine ev_iconst (v := 1) 57 dX11_restore_56 (by decide) rfl ?_
        exact ev_zreturn dX11_restore_57 rfl (by decide) (rx_ret_i h)
      exact (em_X11_restore_L22 hJ51_1 _ _ _ _ h).fewer (rx_le_s (rx_le_s (rx_le_s rx_le_0)))
    · replace h := rx_if_t c8 h
      refine ev_iconst (v := 0) 19 dX11_restore_18 (by decide) rfl ?_
      exact ev_zreturn dX11_restore_19 rfl (by decide) (rx_ret_i h)

def f_X11_sumNow_L5 (N : Nat) : Nat → Int32 → Int32 → Int32 → Int32 → rx_S → Option (Int32 × rx_S)
  | 0, _, _, _, _, _ => none
  | n + 1, x4, x5, x6, x7, S8 => if (x4 + x5) ≤ x7 then (some (x6, S8)) else (rx_gd x7 48 (rx_let (x6 + (S8.1 126 (Int32.toNatClampNeg x7))) (fun x11 => rx_let (x7 + 1) (fun x12 => f_X11_sumNow_L5 N n x4 x5 x11 x12 S8))))
def f_X11_sumNow (N : Nat) (x1 : Int32) (x2 : Int32) (S0 : rx_S) : Option (Int32 × rx_S) := f_X11_sumNow_L5 N N x1 x2 0 x1 S0
set_option maxHeartbeats 4000000 in
set_option maxRecDepth 20000 in
theorem em_X11_sumNow_L5 {d N : Nat} {zr : Int32} {zS : rx_S} : ∀ (n : Nat) (x4 : Int32) (x5 : Int32) (x6 : Int32) (x7 : Int32) (S8 : rx_S), f_X11_sumNow_L5 N n x4 x5 x6 x7 S8 = some (zr, zS) → EV gM d mX11_sumNow 5 [some (.ref 94), some (.int x4), some (.int x5), some (.int x6), some (.int x7)] [] S8 (rx_pi zr zS) := by
  intro n
  induction n with
  | zero => intro x4 x5 x6 x7 S8 h; cases h
  | succ n ih =>
    intro x4 x5 x6 x7 S8 h
    rw [f_X11_sumNow_L5] at h
    refine ev_iload 7 dX11_sumNow_5 rfl rfl ?_
    refine ev_iload_n (i := 1) 8 dX11_sumNow_7 rfl rfl rfl ?_
    refine ev_iload_n (i := 2) 9 dX11_sumNow_8 rfl rfl rfl ?_
    refine ev_iadd 10 dX11_sumNow_9 rfl ?_
    refine ev_icmp_ge 29 13 dX11_sumNow_10 rfl rfl (fun c9 => ?_) (fun c9 => ?_)
    · replace h := rx_if_t c9 h
      refine ev_iload_n (i := 3) 30 dX11_sumNow_29 rfl rfl rfl ?_
      exact ev_ireturn dX11_sumNow_30 rfl (rx_ret_i h)
    · replace h := rx_if_f c9 h
      refine ev_iload_n (i := 3) 14 dX11_sumNow_13 rfl rfl rfl ?_
      refine ev_aload_n (i := 0) 15 dX11_sumNow_14 rfl rfl rfl ?_
      refine ev_get (v := .ref 126) 18 dX11_sumNow_15 dk_94 fl_11_113 (by decide) rfl rfl rfl ?_
      refine ev_iload 20 dX11_sumNow_18 rfl rfl ?_
      obtain ⟨g10, h⟩ := rx_gd_o h
      refine ex_iald _ 21 dX11_sumNow_20 dk_126 g10 rfl rfl ?_
      refine ev_iadd 22 dX11_sumNow_21 rfl ?_
      obtain ⟨x11, ex11, h⟩ := rx_let_o h
      refine ev_nm ex11 ?_
      refine ev_istore_n (ls' := [some (.ref 94), some (.int x4), some (.int x5), some (.int x11), some (.int x7)]) 23 dX11_sumNow_22 rfl (Nat.le_of_ble_eq_true rfl) rfl rfl ?_
      obtain ⟨x12, ex12, h⟩ := rx_let_o h
      refine ev_iinc (v := x12) (ls' := [some (.ref 94), some (.int x4), some (.int x5), some (.int x11), some (.int x12)]) 26 dX11_sumNow_23 rfl (by rw [ex12]; rfl) (Nat.le_of_ble_eq_true rfl) rfl rfl ?_
      refine ev_goto 5 dX11_sumNow_26 rfl ?_
      exact (ih _ _ _ _ _ h).fewer (rx_le_s (rx_le_s (rx_le_s (rx_le_s (rx_le_s rx_le_0)))))

set_option maxHeartbeats 4000000 in
set_option maxRecDepth 20000 in
theorem em_X11_sumNow {d N : Nat} {x1 : Int32} {x2 : Int32} {S0 : rx_S} {zr : Int32} {zS : rx_S} (h : f_X11_sumNow N x1 x2 S0 = some (zr, zS)) : EM gM d mX11_sumNow [.ref 94, .int x1, .int x2] S0 (rx_pi zr zS) := by
  unfold f_X11_sumNow at h
  show EV gM d mX11_sumNow 0 [some (.ref 94), some (.int x1), some (.int x2), none, none] [] S0 (rx_pi zr zS)
  refine ev_iconst (v := 0) 1 dX11_sumNow_0 (by decide) rfl ?_
  refine ev_istore_n (ls' := [some (.ref 94), some (.int x1), some (.int x2), some (.int 0), none]) 2 dX11_sumNow_1 rfl (Nat.le_of_ble_eq_true rfl) rfl rfl ?_
  refine ev_iload_n (i := 1) 3 dX11_sumNow_2 rfl rfl rfl ?_
  refine ev_istore (ls' := [some (.ref 94), some (.int x1), some (.int x2), some (.int 0), some (.int x1)]) 5 dX11_sumNow_3 (Nat.le_of_ble_eq_true rfl) rfl rfl ?_
  exact (em_X11_sumNow_L5 _ _ _ _ _ _ h).fewer (rx_le_s (rx_le_s (rx_le_s (rx_le_s (rx_le_s rx_le_0)))))

def f_X11_bitsNow_L5 (N : Nat) : Nat → Int32 → Int32 → Int32 → Int32 → rx_S → Option (Int32 × rx_S)
  | 0, _, _, _, _, _ => none
  | n + 1, x4, x5, x6, x7, S8 => if x5 ≤ x7 then (some (x6, S8)) else (rx_gd (x4 + x7) 48 (if (S8.1 126 (Int32.toNatClampNeg (x4 + x7))) = 1 then (rx_let (x6 ||| ((1 : Int32) <<< (x7 &&& 31))) (fun x13 => rx_let (x7 + 1) (fun x14 => f_X11_bitsNow_L5 N n x4 x5 x13 x14 S8))) else (rx_let (x7 + 1) (fun x12 => f_X11_bitsNow_L5 N n x4 x5 x6 x12 S8))))
def f_X11_bitsNow (N : Nat) (x1 : Int32) (x2 : Int32) (S0 : rx_S) : Option (Int32 × rx_S) := f_X11_bitsNow_L5 N N x1 x2 0 0 S0
set_option maxHeartbeats 4000000 in
set_option maxRecDepth 20000 in
theorem em_X11_bitsNow_L5 {d N : Nat} {zr : Int32} {zS : rx_S} : ∀ (n : Nat) (x4 : Int32) (x5 : Int32) (x6 : Int32) (x7 : Int32) (S8 : rx_S), f_X11_bitsNow_L5 N n x4 x5 x6 x7 S8 = some (zr, zS) → EV gM d mX11_bitsNow 5 [some (.ref 94), some (.int x4), some (.int x5), some (.int x6), some (.int x7)] [] S8 (rx_pi zr zS) := by
  intro n
  induction n with
  | zero => intro x4 x5 x6 x7 S8 h; cases h
  | succ n ih =>
    intro x4 x5 x6 x7 S8 h
    rw [f_X11_bitsNow_L5] at h
    refine ev_iload 7 dX11_bitsNow_5 rfl rfl ?_
    refine ev_iload_n (i := 2) 8 dX11_bitsNow_7 rfl rfl rfl ?_
    refine ev_icmp_ge 37 11 dX11_bitsNow_8 rfl rfl (fun c9 => ?_) (fun c9 => ?_)
    · replace h := rx_if_t c9 h
      refine ev_iload_n (i := 3) 38 dX11_bitsNow_37 rfl rfl rfl ?_
      exact ev_ireturn dX11_bitsNow_38 rfl (rx_ret_i h)
    · replace h := rx_if_f c9 h
      refine ev_aload_n (i := 0) 12 dX11_bitsNow_11 rfl rfl rfl ?_
      refine ev_get (v := .ref 126) 15 dX11_bitsNow_12 dk_94 fl_11_113 (by decide) rfl rfl rfl ?_
      refine ev_iload_n (i := 1) 16 dX11_bitsNow_15 rfl rfl rfl ?_
      refine ev_iload 18 dX11_bitsNow_16 rfl rfl ?_
      refine ev_iadd 19 dX11_bitsNow_18 rfl ?_
      obtain ⟨g10, h⟩ := rx_gd_o h
      refine ex_iald _ 20 dX11_bitsNow_19 dk_126 g10 rfl rfl ?_
      refine ev_iconst (v := 1) 21 dX11_bitsNow_20 (by decide) rfl ?_
      refine ev_icmp_ne 31 24 dX11_bitsNow_21 rfl rfl (fun c11 => ?_) (fun c11 => ?_)
      · replace h := rx_if_f c11 h
        obtain ⟨x12, ex12, h⟩ := rx_let_o h
        refine ev_iinc (v := x12) (ls' := [some (.ref 94), some (.int x4), some (.int x5), some (.int x6), some (.int x12)]) 34 dX11_bitsNow_31 rfl (by rw [ex12]; rfl) (Nat.le_of_ble_eq_true rfl) rfl rfl ?_
        refine ev_goto 5 dX11_bitsNow_34 rfl ?_
        exact (ih _ _ _ _ _ h).fewer (rx_le_s (rx_le_s (rx_le_s (rx_le_s (rx_le_s rx_le_0)))))
      · replace h := rx_if_t c11 h
        refine ev_iload_n (i := 3) 25 dX11_bitsNow_24 rfl rfl rfl ?_
        refine ev_iconst (v := 1) 26 dX11_bitsNow_25 (by decide) rfl ?_
        refine ev_iload 28 dX11_bitsNow_26 rfl rfl ?_
        refine ev_ishl 29 dX11_bitsNow_28 rfl ?_
        refine ev_ior 30 dX11_bitsNow_29 rfl ?_
        obtain ⟨x13, ex13, h⟩ := rx_let_o h
        refine ev_nm ex13 ?_
        refine ev_istore_n (ls' := [some (.ref 94), some (.int x4), some (.int x5), some (.int x13), some (.int x7)]) 31 dX11_bitsNow_30 rfl (Nat.le_of_ble_eq_true rfl) rfl rfl ?_
        obtain ⟨x14, ex14, h⟩ := rx_let_o h
        refine ev_iinc (v := x14) (ls' := [some (.ref 94), some (.int x4), some (.int x5), some (.int x13), some (.int x14)]) 34 dX11_bitsNow_31 rfl (by rw [ex14]; rfl) (Nat.le_of_ble_eq_true rfl) rfl rfl ?_
        refine ev_goto 5 dX11_bitsNow_34 rfl ?_
        exact (ih _ _ _ _ _ h).fewer (rx_le_s (rx_le_s (rx_le_s (rx_le_s (rx_le_s rx_le_0)))))

set_option maxHeartbeats 4000000 in
set_option maxRecDepth 20000 in
theorem em_X11_bitsNow {d N : Nat} {x1 : Int32} {x2 : Int32} {S0 : rx_S} {zr : Int32} {zS : rx_S} (h : f_X11_bitsNow N x1 x2 S0 = some (zr, zS)) : EM gM d mX11_bitsNow [.ref 94, .int x1, .int x2] S0 (rx_pi zr zS) := by
  unfold f_X11_bitsNow at h
  show EV gM d mX11_bitsNow 0 [some (.ref 94), some (.int x1), some (.int x2), none, none] [] S0 (rx_pi zr zS)
  refine ev_iconst (v := 0) 1 dX11_bitsNow_0 (by decide) rfl ?_
  refine ev_istore_n (ls' := [some (.ref 94), some (.int x1), some (.int x2), some (.int 0), none]) 2 dX11_bitsNow_1 rfl (Nat.le_of_ble_eq_true rfl) rfl rfl ?_
  refine ev_iconst (v := 0) 3 dX11_bitsNow_2 (by decide) rfl ?_
  refine ev_istore (ls' := [some (.ref 94), some (.int x1), some (.int x2), some (.int 0), some (.int 0)]) 5 dX11_bitsNow_3 (Nat.le_of_ble_eq_true rfl) rfl rfl ?_
  exact (em_X11_bitsNow_L5 _ _ _ _ _ _ h).fewer (rx_le_s (rx_le_s (rx_le_s (rx_le_s (rx_le_s rx_le_0)))))

def f_X11_count (N : Nat) (x1 : Int32) (S0 : rx_S) : Option (Int32 × rx_S) := rx_let (fun (x3 : Int32) (S4 : rx_S) => rx_gd ((39 : Int32) + x3) 48 (some ((S4.1 126 (Int32.toNatClampNeg ((39 : Int32) + x3))), S4))) (fun J126_1 => if x1 = 0 then (rx_gd (S0.1 94 18) 2 (some ((S0.1 104 (Int32.toNatClampNeg (S0.1 94 18))), S0))) else (if x1 = 1 then (rx_gd (S0.1 94 18) 2 (some ((S0.1 107 (Int32.toNatClampNeg (S0.1 94 18))), S0))) else (if x1 = 2 then (rx_gd (S0.1 94 18) 2 (some ((S0.1 109 (Int32.toNatClampNeg (S0.1 94 18))), S0))) else (if x1 = 3 then (some ((S0.1 126 44), S0)) else (if x1 = 4 then (rx_bd (f_X11_bitsNow N 15 3 S0) (fun x15 S14 => some (x15, S14))) else (if x1 = 5 then (rx_bd (f_X11_bitsNow N 32 4 S0) (fun x19 S18 => some (x19, S18))) else (if x1 = 6 then (J126_1 x1 S0) else (if x1 = 7 then (J126_1 x1 S0) else (if x1 = 8 then (some ((S0.1 94 2), S0)) else (if x1 = 9 then (some ((S0.1 94 52), S0)) else (if x1 = 10 then (some ((S0.1 94 62), S0)) else (if x1 = 11 then (rx_let (fun (x27 : Int32) (S28 : rx_S) => rx_let (fun (x29 : Int32) (x30 : Int32) (S31 : rx_S) => if (S31.1 137 2) = 0 then (some (((x29 + x30) + 0), S31)) else (some (((x29 + x30) + 1), S31))) (fun J179_3 => if (S28.1 137 1) = 0 then (J179_3 x27 0 S28) else (J179_3 x27 1 S28))) (fun J165_2 => if (S0.1 137 0) = 0 then (J165_2 0 S0) else (J165_2 1 S0))) else (if x1 = 12 then (rx_bd (f_X11_sumNow N 40 4 S0) (fun x37 S36 => some (x37, S36))) else (if x1 = 13 then (rx_bd (f_X11_sumNow N 0 6 S0) (fun x41 S40 => some (x41, S40))) else (some ((-1), S0))))))))))))))))
set_option maxHeartbeats 4000000 in
set_option maxRecDepth 20000 in
theorem em_X11_count {d N : Nat} {x1 : Int32} {S0 : rx_S} {zr : Int32} {zS : rx_S} (h : f_X11_count N x1 S0 = some (zr, zS)) : EM gM (d + 1) mX11_count [.ref 94, .int x1] S0 (rx_pi zr zS) := by
  unfold f_X11_count at h
  show EV gM (d + 1) mX11_count 0 [some (.ref 94), some (.int x1)] [] S0 (rx_pi zr zS)
  refine ev_iload_n (i := 1) 1 dX11_count_0 rfl rfl rfl ?_
  obtain ⟨J126_1, eJ126_1, h⟩ := rx_let_o h
  have hJ126_1 : ∀ (x3 : Int32) (S4 : rx_S), J126_1 x3 S4 = some (zr, zS) → EV gM (d + 1) mX11_count 126 [some (.ref 94), some (.int x3)] [] S4 (rx_pi zr zS) := by
    intro x3 S4 h
    subst eJ126_1
    refine ev_aload_n (i := 0) 127 dX11_count_126 rfl rfl rfl ?_
    refine ev_get (v := .ref 126) 130 dX11_count_127 dk_94 fl_11_113 (by decide) rfl rfl rfl ?_
    refine ev_bipush (v := 39) 132 dX11_count_130 (by decide) rfl ?_
    refine ev_iload_n (i := 1) 133 dX11_count_132 rfl rfl rfl ?_
    refine ev_iadd 134 dX11_count_133 rfl ?_
    obtain ⟨g5, h⟩ := rx_gd_o h
    refine ex_iald _ 135 dX11_count_134 dk_126 g5 rfl rfl ?_
    exact ev_ireturn dX11_count_135 rfl (rx_ret_i h)
  by_cases c6 : x1 = 0
  · replace h := rx_if_t c6 h
    refine ev_tableIn 72 dX11_count_1 (by rw [c6]; decide) (by rw [c6]; decide) (off := 71) (by rw [c6]; rfl) rfl ?_
    refine ev_aload_n (i := 0) 73 dX11_count_72 rfl rfl rfl ?_
    refine ev_get (v := .ref 104) 76 dX11_count_73 dk_94 fl_11_46 (by decide) rfl rfl rfl ?_
    refine ev_aload_n (i := 0) 77 dX11_count_76 rfl rfl rfl ?_
    refine ev_get (v := .int (S0.1 94 18)) 80 dX11_count_77 dk_94 fl_11_233 (by decide) rfl rfl rfl ?_
    obtain ⟨g7, h⟩ := rx_gd_o h
    refine ex_iald _ 81 dX11_count_80 dk_104 g7 rfl rfl ?_
    exact ev_ireturn dX11_count_81 rfl (rx_ret_i h)
  · replace h := rx_if_f c6 h
    by_cases c8 : x1 = 1
    · replace h := rx_if_t c8 h
      refine ev_tableIn 82 dX11_count_1 (by rw [c8]; decide) (by rw [c8]; decide) (off := 81) (by rw [c8]; rfl) rfl ?_
      refine ev_aload_n (i := 0) 83 dX11_count_82 rfl rfl rfl ?_
      refine ev_get (v := .ref 107) 86 dX11_count_83 dk_94 fl_11_55 (by decide) rfl rfl rfl ?_
      refine ev_aload_n (i := 0) 87 dX11_count_86 rfl rfl rfl ?_
      refine ev_get (v := .int (S0.1 94 18)) 90 dX11_count_87 dk_94 fl_11_233 (by decide) rfl rfl rfl ?_
      obtain ⟨g9, h⟩ := rx_gd_o h
      refine ex_iald _ 91 dX11_count_90 dk_107 g9 rfl rfl ?_
      exact ev_ireturn dX11_count_91 rfl (rx_ret_i h)
    · replace h := rx_if_f c8 h
      by_cases c10 : x1 = 2
      · replace h := rx_if_t c10 h
        refine ev_tableIn 92 dX11_count_1 (by rw [c10]; decide) (by rw [c10]; decide) (off := 91) (by rw [c10]; rfl) rfl ?_
        refine ev_aload_n (i := 0) 93 dX11_count_92 rfl rfl rfl ?_
        refine ev_get (v := .ref 109) 96 dX11_count_93 dk_94 fl_11_61 (by decide) rfl rfl rfl ?_
        refine ev_aload_n (i := 0) 97 dX11_count_96 rfl rfl rfl ?_
        refine ev_get (v := .int (S0.1 94 18)) 100 dX11_count_97 dk_94 fl_11_233 (by decide) rfl rfl rfl ?_
        obtain ⟨g11, h⟩ := rx_gd_o h
        refine ex_iald _ 101 dX11_count_100 dk_109 g11 rfl rfl ?_
        exact ev_ireturn dX11_count_101 rfl (rx_ret_i h)
      · replace h := rx_if_f c10 h
        by_cases c12 : x1 = 3
        · replace h := rx_if_t c12 h
          refine ev_tableIn 102 dX11_count_1 (by rw [c12]; decide) (by rw [c12]; decide) (off := 101) (by rw [c12]; rfl) rfl ?_
          refine ev_aload_n (i := 0) 103 dX11_count_102 rfl rfl rfl ?_
          refine ev_get (v := .ref 126) 106 dX11_count_103 dk_94 fl_11_113 (by decide) rfl rfl rfl ?_
          refine ev_bipush (v := 44) 108 dX11_count_106 (by decide) rfl ?_
          refine ex_iald 44 109 dX11_count_108 dk_126 (rx_vin (by decide)) (by decide) rfl ?_
          exact ev_ireturn dX11_count_109 rfl (rx_ret_i h)
        · replace h := rx_if_f c12 h
          by_cases c13 : x1 = 4
          · replace h := rx_if_t c13 h
            refine ev_tableIn 110 dX11_count_1 (by rw [c13]; decide) (by rw [c13]; decide) (off := 109) (by rw [c13]; rfl) rfl ?_
            refine ev_aload_n (i := 0) 111 dX11_count_110 rfl rfl rfl ?_
            refine ev_bipush (v := 15) 113 dX11_count_111 (by decide) rfl ?_
            refine ev_iconst (v := 3) 114 dX11_count_113 (by decide) rfl ?_
            obtain ⟨x15, S14, g16, h⟩ := rx_bd_o h
            refine ev_cVi2 117 dX11_count_114 (em_X11_bitsNow g16) mm_X11_bitsNow mv_X11_bitsNow lk_11_460 dk_94 (by decide) rfl (Nat.le_of_ble_eq_true rfl) (Nat.le_of_ble_eq_true rfl) rfl ?_
            exact ev_ireturn dX11_count_117 rfl (rx_ret_i h)
          · replace h := rx_if_f c13 h
            by_cases c17 : x1 = 5
            · replace h := rx_if_t c17 h
              refine ev_tableIn 118 dX11_count_1 (by rw [c17]; decide) (by rw [c17]; decide) (off := 117) (by rw [c17]; rfl) rfl ?_
              refine ev_aload_n (i := 0) 119 dX11_count_118 rfl rfl rfl ?_
              refine ev_bipush (v := 32) 121 dX11_count_119 (by decide) rfl ?_
              refine ev_iconst (v := 4) 122 dX11_count_121 (by decide) rfl ?_
              obtain ⟨x19, S18, g20, h⟩ := rx_bd_o h
              refine ev_cVi2 125 dX11_count_122 (em_X11_bitsNow g20) mm_X11_bitsNow mv_X11_bitsNow lk_11_460 dk_94 (by decide) rfl (Nat.le_of_ble_eq_true rfl) (Nat.le_of_ble_eq_true rfl) rfl ?_
              exact ev_ireturn dX11_count_125 rfl (rx_ret_i h)
            · replace h := rx_if_f c17 h
              by_cases c21 : x1 = 6
              · replace h := rx_if_t c21 h
                refine ev_tableIn 126 dX11_count_1 (by rw [c21]; decide) (by rw [c21]; decide) (off := 125) (by rw [c21]; rfl) rfl ?_
                exact (hJ126_1 _ _ h).fewer (rx_le_s (rx_le_s rx_le_0))
              · replace h := rx_if_f c21 h
                by_cases c22 : x1 = 7
                · replace h := rx_if_t c22 h
                  refine ev_tableIn 126 dX11_count_1 (by rw [c22]; decide) (by rw [c22]; decide) (off := 125) (by rw [c22]; rfl) rfl ?_
                  exact (hJ126_1 _ _ h).fewer (rx_le_s (rx_le_s rx_le_0))
                · replace h := rx_if_f c22 h
                  by_cases c23 : x1 = 8
                  · replace h := rx_if_t c23 h
                    refine ev_tableIn 136 dX11_count_1 (by rw [c23]; decide) (by rw [c23]; decide) (off := 135) (by rw [c23]; rfl) rfl ?_
                    refine ev_aload_n (i := 0) 137 dX11_count_136 rfl rfl rfl ?_
                    refine ev_get (v := .int (S0.1 94 2)) 140 dX11_count_137 dk_94 fl_11_166 (by decide) rfl rfl rfl ?_
                    exact ev_ireturn dX11_count_140 rfl (rx_ret_i h)
                  · replace h := rx_if_f c23 h
                    by_cases c24 : x1 = 9
                    · replace h := rx_if_t c24 h
                      refine ev_tableIn 141 dX11_count_1 (by rw [c24]; decide) (by rw [c24]; decide) (off := 140) (by rw [c24]; rfl) rfl ?_
                      refine ev_aload_n (i := 0) 142 dX11_count_141 rfl rfl rfl ?_
                      refine ev_get (v := .int (S0.1 94 52)) 145 dX11_count_142 dk_94 fl_11_251 (by decide) rfl rfl rfl ?_
                      exact ev_ireturn dX11_count_145 rfl (rx_ret_i h)
                    · replace h := rx_if_f c24 h
                      by_cases c25 : x1 = 10
                      · replace h := rx_if_t c25 h
                        refine ev_tableIn 146 dX11_count_1 (by rw [c25]; decide) (by rw [c25]; decide) (off := 145) (by rw [c25]; rfl) rfl ?_
                        refine ev_aload_n (i := 0) 147 dX11_count_146 rfl rfl rfl ?_
                        refine ev_get (v := .int (S0.1 94 62)) 150 dX11_count_147 dk_94 fl_11_254 (by decide) rfl rfl rfl ?_
                        exact ev_ireturn dX11_count_150 rfl (rx_ret_i h)
                      · replace h := rx_if_f c25 h
                        by_cases c26 : x1 = 11
                        · replace h := rx_if_t c26 h
                          refine ev_tableIn 151 dX11_count_1 (by rw [c26]; decide) (by rw [c26]; decide) (off := 150) (by rw [c26]; rfl) rfl ?_
                          refine ev_aload_n (i := 0) 152 dX11_count_151 rfl rfl rfl ?_
                          refine ev_get (v := .ref 137) 155 dX11_count_152 dk_94 fl_11_146 (by decide) rfl rfl rfl ?_
                          refine ev_iconst (v := 0) 156 dX11_count_155 (by decide) rfl ?_
                          refine ex_zald 0 157 dX11_count_156 dk_137 (rx_vin (by decide)) (by decide) rfl ?_
                          obtain ⟨J165_2, eJ165_2, h⟩ := rx_let_o h
                          have hJ165_2 : ∀ (x27 : Int32) (S28 : rx_S), J165_2 x27 S28 = some (zr, zS) → EV gM (d + 1) mX11_count 165 [some (.ref 94), none] [.int x27] S28 (rx_pi zr zS) := by
                            intro x27 S28 h
                            subst eJ165_2
                            refine ev_aload_n (i := 0) 166 dX11_count_165 rfl rfl rfl ?_
                            refine ev_get (v := .ref 137) 169 dX11_count_166 dk_94 fl_11_146 (by decide) rfl rfl rfl ?_
                            refine ev_iconst (v := 1) 170 dX11_count_169 (by decide) rfl ?_
                            refine ex_zald 1 171 dX11_count_170 dk_137 (rx_vin (by decide)) (by decide) rfl ?_
                            obtain ⟨J179_3, eJ179_3, h⟩ := rx_let_o h
                            have hJ179_3 : ∀ (x29 : Int32) (x30 : Int32) (S31 : rx_S), J179_3 x29 x30 S31 = some (zr, zS) → EV gM (d + 1) mX11_count 179 [some (.ref 94), none] [.int x30, .int x29] S31 (rx_pi zr zS) := by
                              intro x29 x30 S31 h
                              subst eJ179_3
                              refine ev_iadd 180 dX11_count_179 rfl ?_
                              refine ev_aload_n (i := 0) 181 dX11_count_180 rfl rfl rfl ?_
                              refine ev_get (v := .ref 137) 184 dX11_count_181 dk_94 fl_11_146 (by decide) rfl rfl rfl ?_
                              refine ev_iconst (v := 2) 185 dX11_count_184 (by decide) rfl ?_
                              refine ex_zald 2 186 dX11_count_185 dk_137 (rx_vin (by decide)) (by decide) rfl ?_
                              refine ev_if_eq 193 189 dX11_count_186 rfl rfl (fun c32 => ?_) (fun c32 => ?_)
                              · replace h := rx_if_t c32 h
                                refine ev_iconst (v := 0) 194 dX11_count_193 (by decide) rfl ?_
                                refine ev_iadd 195 dX11_count_194 rfl ?_
                                exact ev_ireturn dX11_count_195 rfl (rx_ret_i h)
                              · replace h := rx_if_f c32 h
                                refine ev_iconst (v := 1) 190 dX11_count_189 (by decide) rfl ?_
                                refine ev_goto 194 dX11_count_190 rfl ?_
                                refine ev_iadd 195 dX11_count_194 rfl ?_
                                exact ev_ireturn dX11_count_195 rfl (rx_ret_i h)
                            refine ev_if_eq 178 174 dX11_count_171 rfl rfl (fun c33 => ?_) (fun c33 => ?_)
                            · replace h := rx_if_t c33 h
                              refine ev_iconst (v := 0) 179 dX11_count_178 (by decide) rfl ?_
                              exact (hJ179_3 _ _ _ h).fewer (rx_le_s (rx_le_n rx_le_0))
                            · replace h := rx_if_f c33 h
                              refine ev_iconst (v := 1) 175 dX11_count_174 (by decide) rfl ?_
                              refine ev_goto 179 dX11_count_175 rfl ?_
                              exact (hJ179_3 _ _ _ h).fewer (rx_le_s (rx_le_n rx_le_0))
                          refine ev_if_eq 164 160 dX11_count_157 rfl rfl (fun c34 => ?_) (fun c34 => ?_)
                          · replace h := rx_if_t c34 h
                            refine ev_iconst (v := 0) 165 dX11_count_164 (by decide) rfl ?_
                            exact (hJ165_2 _ _ h).fewer (rx_le_s (rx_le_n rx_le_0))
                          · replace h := rx_if_f c34 h
                            refine ev_iconst (v := 1) 161 dX11_count_160 (by decide) rfl ?_
                            refine ev_goto 165 dX11_count_161 rfl ?_
                            exact (hJ165_2 _ _ h).fewer (rx_le_s (rx_le_n rx_le_0))
                        · replace h := rx_if_f c26 h
                          by_cases c35 : x1 = 12
                          · replace h := rx_if_t c35 h
                            refine ev_tableIn 196 dX11_count_1 (by rw [c35]; decide) (by rw [c35]; decide) (off := 195) (by rw [c35]; rfl) rfl ?_
                            refine ev_aload_n (i := 0) 197 dX11_count_196 rfl rfl rfl ?_
                            refine ev_bipush (v := 40) 199 dX11_count_197 (by decide) rfl ?_
                            refine ev_iconst (v := 4) 200 dX11_count_199 (by decide) rfl ?_
                            obtain ⟨x37, S36, g38, h⟩ := rx_bd_o h
                            refine ev_cVi2 203 dX11_count_200 (em_X11_sumNow g38) mm_X11_sumNow mv_X11_sumNow lk_11_463 dk_94 (by decide) rfl (Nat.le_of_ble_eq_true rfl) (Nat.le_of_ble_eq_true rfl) rfl ?_
                            exact ev_ireturn dX11_count_203 rfl (rx_ret_i h)
                          · replace h := rx_if_f c35 h
                            by_cases c39 : x1 = 13
                            · replace h := rx_if_t c39 h
                              refine ev_tableIn 204 dX11_count_1 (by rw [c39]; decide) (by rw [c39]; decide) (off := 203) (by rw [c39]; rfl) rfl ?_
                              refine ev_aload_n (i := 0) 205 dX11_count_204 rfl rfl rfl ?_
                              refine ev_iconst (v := 0) 206 dX11_count_205 (by decide) rfl ?_
                              refine ev_bipush (v := 6) 208 dX11_count_206 (by decide) rfl ?_
                              obtain ⟨x41, S40, g42, h⟩ := rx_bd_o h
                              refine ev_cVi2 211 dX11_count_208 (em_X11_sumNow g42) mm_X11_sumNow mv_X11_sumNow lk_11_463 dk_94 (by decide) rfl (Nat.le_of_ble_eq_true rfl) (Nat.le_of_ble_eq_true rfl) rfl ?_
                              exact ev_ireturn dX11_count_211 rfl (rx_ret_i h)
                            · replace h := rx_if_f c39 h
                              refine ev_tableOut 212 dX11_count_1 (by have q0 := rx_ne c6 (z := 0) (by decide); have q1 := rx_ne c8 (z := 1) (by decide); have q2 := rx_ne c10 (z := 2) (by decide); have q3 := rx_ne c12 (z := 3) (by decide); have q4 := rx_ne c13 (z := 4) (by decide); have q5 := rx_ne c17 (z := 5) (by decide); have q6 := rx_ne c21 (z := 6) (by decide); have q7 := rx_ne c22 (z := 7) (by decide); have q8 := rx_ne c23 (z := 8) (by decide); have q9 := rx_ne c24 (z := 9) (by decide); have q10 := rx_ne c25 (z := 10) (by decide); have q11 := rx_ne c26 (z := 11) (by decide); have q12 := rx_ne c35 (z := 12) (by decide); have q13 := rx_ne c39 (z := 13) (by decide); omega) rfl ?_
                              refine ev_iconst (v := (-1)) 213 dX11_count_212 (by decide) rfl ?_
                              exact ev_ireturn dX11_count_213 rfl (rx_ret_i h)

