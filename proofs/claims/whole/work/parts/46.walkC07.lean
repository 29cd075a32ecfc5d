def f_X6_fittingWord_L9 (N : Nat) : Nat → Int32 → Int32 → Int32 → Int32 → Int32 → rx_S → Option (Int32 × rx_S)
  | 0, _, _, _, _, _, _ => none
  | n + 1, x8, x9, x10, x11, x12, S13 => if (8 : Int32) ≤ x12 then (some ((-1), S13)) else (rx_gd ((x8 * 8) + x12) 32 (rx_let (S13.1 84 (Int32.toNatClampNeg ((x8 * 8) + x12))) (fun x16 => if x16 = 8 then (rx_bd (f_X6_endAt (x8 + 1) x9 S13) (fun x32 S31 => rx_gd x32 30 (if (S31.1 85 (Int32.toNatClampNeg x32)) = 0 then (rx_let (x12 + 1) (fun x36 => f_X6_fittingWord_L9 N n x8 x9 x10 x11 x36 S31)) else (some (x12, S31))))) else (if x11 ≤ x9 then (rx_let (x12 + 1) (fun x19 => f_X6_fittingWord_L9 N n x8 x9 x10 x11 x19 S13)) else (rx_bd (f_X5_wordAt x10 x11 x9 S13) (fun x21 S20 => if x16 = x21 then (rx_bd (f_X6_endAt (x8 + 1) (x9 + 1) S20) (fun x26 S25 => rx_gd x26 30 (if (S25.1 85 (Int32.toNatClampNeg x26)) = 0 then (rx_let (x12 + 1) (fun x30 => f_X6_fittingWord_L9 N n x8 x9 x10 x11 x30 S25)) else (some (x12, S25))))) else (rx_let (x12 + 1) (fun x24 => f_X6_fittingWord_L9 N n x8 x9 x10 x11 x24 S20))))))))
def f_X6_fittingWord (N : Nat) (x1 : Int32) (x2 : Int32) (x3 : Int32) (S0 : rx_S) : Option (Int32 × rx_S) := rx_bd (f_X5_size N x3 S0) (fun x6 S5 => f_X6_fittingWord_L9 N N x1 x2 x3 x6 0 S5)
set_option maxHeartbeats 4000000 in
set_option maxRecDepth 20000 in
theorem em_X6_fittingWord_L9 {d N : Nat} {zr : Int32} {zS : rx_S} : ∀ (n : Nat) (x8 : Int32) (x9 : Int32) (x10 : Int32) (x11 : Int32) (x12 : Int32) (S13 : rx_S), f_X6_fittingWord_L9 N n x8 x9 x10 x11 x12 S13 = some (zr, zS) → EV gC (d + 1) mX6_fittingWord 9 [some (.ref 81), some (.int x8), some (.int x9), some (.int x10), some (.int x11), some (.int x12), none] [] S13 (rx_pi zr zS) := by
  intro n
  induction n with
  | zero => intro x8 x9 x10 x11 x12 S13 h; cases h
  | succ n ih =>
    intro x8 x9 x10 x11 x12 S13 h
    rw [f_X6_fittingWord_L9] at h
    refine ev_iload 11 dX6_fittingWord_9 rfl rfl ?_
    refine ev_bipush (v := 8) 13 dX6_fittingWord_11 (by decide) rfl ?_
    refine ev_icmp_ge 99 16 dX6_fittingWord_13 rfl rfl (fun c14 => ?_) (fun c14 => ?_)
    · replace h := rx_if_t c14 h
      refine ev_iconst (v := (-1)) 100 dX6_fittingWord_99 (by decide) rfl ?_
      exact ev_ireturn dX6_fittingWord_100 rfl (rx_ret_i h)
    · replace h := rx_if_f c14 h
      refine ev_aload_n (i := 0) 17 dX6_fittingWord_16 rfl rfl rfl ?_
      refine ev_get (v := .ref 84) 20 dX6_fittingWord_17 dk_81 fl_6_18 (by decide) rfl rfl rfl ?_
      refine ev_iload_n (i := 1) 21 dX6_fittingWord_20 rfl rfl rfl ?_
      refine ev_bipush (v := 8) 23 dX6_fittingWord_21 (by decide) rfl ?_
      refine ev_imul 24 dX6_fittingWord_23 rfl ?_
      refine ev_iload 26 dX6_fittingWord_24 rfl rfl ?_
      refine ev_iadd 27 dX6_fittingWord_26 rfl ?_
      obtain ⟨g15, h⟩ := rx_gd_o h
      refine ex_iald _ 28 dX6_fittingWord_27 dk_84 g15 rfl rfl ?_
      obtain ⟨x16, ex16, h⟩ := rx_let_o h
      refine ev_nm ex16 ?_
      refine ev_istore (ls' := [some (.ref 81), some (.int x8), some (.int x9), some (.int x10), some (.int x11), some (.int x12), some (.int x16)]) 30 dX6_fittingWord_28 (Nat.le_of_ble_eq_true rfl) rfl rfl ?_
      refine ev_iload 32 dX6_fittingWord_30 rfl rfl ?_
      refine ev_bipush (v := 8) 34 dX6_fittingWord_32 (by decide) rfl ?_
      refine ev_icmp_ne 55 37 dX6_fittingWord_34 rfl rfl (fun c17 => ?_) (fun c17 => ?_)
      · replace h := rx_if_f c17 h
        refine ev_iload_n (i := 2) 56 dX6_fittingWord_55 rfl rfl rfl ?_
        refine ev_iload 58 dX6_fittingWord_56 rfl rfl ?_
        refine ev_icmp_ge 93 61 dX6_fittingWord_58 rfl rfl (fun c18 => ?_) (fun c18 => ?_)
        · replace h := rx_if_t c18 h
          obtain ⟨x19, ex19, h⟩ := rx_let_o h
          refine ev_iinc (v := x19) (ls' := [some (.ref 81), some (.int x8), some (.int x9), some (.int x10), some (.int x11), some (.int x19), some (.int x16)]) 96 dX6_fittingWord_93 rfl (by rw [ex19]; rfl) (Nat.le_of_ble_eq_true rfl) rfl rfl ?_
          refine ev_goto 9 dX6_fittingWord_96 rfl ?_
          exact (ih _ _ _ _ _ _ h).fewer (rx_le_s (rx_le_s (rx_le_s (rx_le_s (rx_le_s (rx_le_s (rx_le_n rx_le_0)))))))
        · replace h := rx_if_f c18 h
          refine ev_iload 63 dX6_fittingWord_61 rfl rfl ?_
          refine ev_iload_n (i := 3) 64 dX6_fittingWord_63 rfl rfl rfl ?_
          refine ev_iload 66 dX6_fittingWord_64 rfl rfl ?_
          refine ev_iload_n (i := 2) 67 dX6_fittingWord_66 rfl rfl rfl ?_
          obtain ⟨x21, S20, g22, h⟩ := rx_bd_o h
          refine ev_cSi3 70 dX6_fittingWord_67 (em_X5_wordAt g22) mm_X5_wordAt ms_X5_wordAt lk_6_82 (Nat.le_of_ble_eq_true rfl) (Nat.le_of_ble_eq_true rfl) rfl ?_
          refine ev_icmp_ne 93 73 dX6_fittingWord_70 rfl rfl (fun c23 => ?_) (fun c23 => ?_)
          · replace h := rx_if_f c23 h
            obtain ⟨x24, ex24, h⟩ := rx_let_o h
            refine ev_iinc (v := x24) (ls' := [some (.ref 81), some (.int x8), some (.int x9), some (.int x10), some (.int x11), some (.int x24), some (.int x16)]) 96 dX6_fittingWord_93 rfl (by rw [ex24]; rfl) (Nat.le_of_ble_eq_true rfl) rfl rfl ?_
            refine ev_goto 9 dX6_fittingWord_96 rfl ?_
            exact (ih _ _ _ _ _ _ h).fewer (rx_le_s (rx_le_s (rx_le_s (rx_le_s (rx_le_s (rx_le_s (rx_le_n rx_le_0)))))))
          · replace h := rx_if_t c23 h
            refine ev_aload_n (i := 0) 74 dX6_fittingWord_73 rfl rfl rfl ?_
            refine ev_get (v := .ref 85) 77 dX6_fittingWord_74 dk_81 fl_6_22 (by decide) rfl rfl rfl ?_
            refine ev_iload_n (i := 1) 78 dX6_fittingWord_77 rfl rfl rfl ?_
            refine ev_iconst (v := 1) 79 dX6_fittingWord_78 (by decide) rfl ?_
            refine ev_iadd 80 dX6_fittingWord_79 rfl ?_
            refine ev_iload_n (i := 2) 81 dX6_fittingWord_80 rfl rfl rfl ?_
            refine ev_iconst (v := 1) 82 dX6_fittingWord_81 (by decide) rfl ?_
            refine ev_iadd 83 dX6_fittingWord_82 rfl ?_
            obtain ⟨x26, S25, g27, h⟩ := rx_bd_o h
            refine ev_cSi2 86 dX6_fittingWord_83 (em_X6_endAt g27) mm_X6_endAt ms_X6_endAt lk_6_75 (Nat.le_of_ble_eq_true rfl) (Nat.le_of_ble_eq_true rfl) rfl ?_
            obtain ⟨g28, h⟩ := rx_gd_o h
            refine ex_zald _ 87 dX6_fittingWord_86 dk_85 g28 rfl rfl ?_
            refine ev_if_eq 93 90 dX6_fittingWord_87 rfl rfl (fun c29 => ?_) (fun c29 => ?_)
            · replace h := rx_if_t c29 h
              obtain ⟨x30, ex30, h⟩ := rx_let_o h
              refine ev_iinc (v := x30) (ls' := [some (.ref 81), some (.int x8), some (.int x9), some (.int x10), some (.int x11), some (.int x30), some (.int x16)]) 96 dX6_fittingWord_93 rfl (by rw [ex30]; rfl) (Nat.le_of_ble_eq_true rfl) rfl rfl ?_
              refine ev_goto 9 dX6_fittingWord_96 rfl ?_
              exact (ih _ _ _ _ _ _ h).fewer (rx_le_s (rx_le_s (rx_le_s (rx_le_s (rx_le_s (rx_le_s (rx_le_n rx_le_0)))))))
            · replace h := rx_if_f c29 h
              refine ev_iload 92 dX6_fittingWord_90 rfl rfl ?_
              exact ev_ireturn dX6_fittingWord_92 rfl (rx_ret_i h)
      · replace h := rx_if_t c17 h
        refine ev_aload_n (i := 0) 38 dX6_fittingWord_37 rfl rfl rfl ?_
        refine ev_get (v := .ref 85) 41 dX6_fittingWord_38 dk_81 fl_6_22 (by decide) rfl rfl rfl ?_
        refine ev_iload_n (i := 1) 42 dX6_fittingWord_41 rfl rfl rfl ?_
        refine ev_iconst (v := 1) 43 dX6_fittingWord_42 (by decide) rfl ?_
        refine ev_iadd 44 dX6_fittingWord_43 rfl ?_
        refine ev_iload_n (i := 2) 45 dX6_fittingWord_44 rfl rfl rfl ?_
        obtain ⟨x32, S31, g33, h⟩ := rx_bd_o h
        refine ev_cSi2 48 dX6_fittingWord_45 (em_X6_endAt g33) mm_X6_endAt ms_X6_endAt lk_6_75 (Nat.le_of_ble_eq_true rfl) (Nat.le_of_ble_eq_true rfl) rfl ?_
        obtain ⟨g34, h⟩ := rx_gd_o h
        refine ex_zald _ 49 dX6_fittingWord_48 dk_85 g34 rfl rfl ?_
        refine ev_if_eq 93 52 dX6_fittingWord_49 rfl rfl (fun c35 => ?_) (fun c35 => ?_)
        · replace h := rx_if_t c35 h
          obtain ⟨x36, ex36, h⟩ := rx_let_o h
          refine ev_iinc (v := x36) (ls' := [some (.ref 81), some (.int x8), some (.int x9), some (.int x10), some (.int x11), some (.int x36), some (.int x16)]) 96 dX6_fittingWord_93 rfl (by rw [ex36]; rfl) (Nat.le_of_ble_eq_true rfl) rfl rfl ?_
          refine ev_goto 9 dX6_fittingWord_96 rfl ?_
          exact (ih _ _ _ _ _ _ h).fewer (rx_le_s (rx_le_s (rx_le_s (rx_le_s (rx_le_s (rx_le_s (rx_le_n rx_le_0)))))))
        · replace h := rx_if_f c35 h
          refine ev_iload 54 dX6_fittingWord_52 rfl rfl ?_
          exact ev_ireturn dX6_fittingWord_54 rfl (rx_ret_i h)

set_option maxHeartbeats 4000000 in
set_option maxRecDepth 20000 in
theorem em_X6_fittingWord {d N : Nat} {x1 : Int32} {x2 : Int32} {x3 : Int32} {S0 : rx_S} {zr : Int32} {zS : rx_S} (h : f_X6_fittingWord N x1 x2 x3 S0 = some (zr, zS)) : EM gC (d + 1) mX6_fittingWord [.ref 81, .int x1, .int x2, .int x3] S0 (rx_pi zr zS) := by
  unfold f_X6_fittingWord at h
  show EV gC (d + 1) mX6_fittingWord 0 [some (.ref 81), some (.int x1), some (.int x2), some (.int x3), none, none, none] [] S0 (rx_pi zr zS)
  refine ev_iload_n (i := 3) 1 dX6_fittingWord_0 rfl rfl rfl ?_
  obtain ⟨x6, S5, g7, h⟩ := rx_bd_o h
  refine ev_cSi1 4 dX6_fittingWord_1 (em_X5_size g7) mm_X5_size ms_X5_size lk_6_71 (Nat.le_of_ble_eq_true rfl) (Nat.le_of_ble_eq_true rfl) rfl ?_
  refine ev_istore (ls' := [some (.ref 81), some (.int x1), some (.int x2), some (.int x3), some (.int x6), none, none]) 6 dX6_fittingWord_4 (Nat.le_of_ble_eq_true rfl) rfl rfl ?_
  refine ev_iconst (v := 0) 7 dX6_fittingWord_6 (by decide) rfl ?_
  refine ev_istore (ls' := [some (.ref 81), some (.int x1), some (.int x2), some (.int x3), some (.int x6), some (.int 0), none]) 9 dX6_fittingWord_7 (Nat.le_of_ble_eq_true rfl) rfl rfl ?_
  exact (em_X6_fittingWord_L9 _ _ _ _ _ _ _ h).fewer (rx_le_s (rx_le_s (rx_le_s (rx_le_s (rx_le_s (rx_le_s (rx_le_n rx_le_0)))))))

def f_X6_markEnds_L55 (N : Nat) (K97 : Int32 → Int32 → rx_S → Option (Unit × rx_S)) : Nat → Int32 → Int32 → Int32 → rx_S → Option (Unit × rx_S)
  | 0, _, _, _, _ => none
  | n + 1, x19, x20, x21, S22 => if (5 : Int32) < x21 then (K97 x19 x20 S22) else (rx_bd (f_X6_endAt x20 x21 S22) (fun x28 S27 => rx_bd (f_X6_fittingWord N x20 x21 x19 S27) (fun x31 S30 => rx_let (fun (x33 : Int32) (x34 : Int32) (x35 : Int32) (x36 : Int32) (x37 : Int32) (S38 : rx_S) => rx_gd x36 30 (rx_let (rx_ui S38 85 (Int32.toNatClampNeg x36) (vp_nar .boolean x37)) (fun S40 => rx_let (x35 + 1) (fun x41 => f_X6_markEnds_L55 N K97 n x33 x34 x41 S40)))) (fun J90_3 => if x31 = (-1) then (J90_3 x19 x20 x21 x28 0 S30) else (J90_3 x19 x20 x21 x28 1 S30)))))
def f_X6_markEnds_L47 (N : Nat) : Nat → Int32 → Int32 → rx_S → Option (Unit × rx_S)
  | 0, _, _, _ => none
  | n + 1, x11, x12, S13 => if x12 < 0 then (some ((), S13)) else (rx_let (fun (x15 : Int32) (x16 : Int32) (S17 : rx_S) => rx_let (x16 + (-1)) (fun x18 => f_X6_markEnds_L47 N n x15 x18 S17)) (fun J97_2 => f_X6_markEnds_L55 N J97_2 N x11 x12 0 S13))
def f_X6_markEnds_L8 (N : Nat) (K42 : Int32 → Int32 → rx_S → Option (Unit × rx_S)) : Nat → Int32 → Int32 → Int32 → Int32 → rx_S → Option (Unit × rx_S)
  | 0, _, _, _, _, _ => none
  | n + 1, x43, x44, x45, x46, S47 => if (5 : Int32) < x46 then (K42 x43 x44 S47) else (rx_bd (f_X6_endAt x43 x46 S47) (fun x53 S52 => rx_let (fun (x55 : Int32) (x56 : Int32) (x57 : Int32) (x58 : Int32) (x59 : Int32) (x60 : Int32) (S61 : rx_S) => rx_gd x59 30 (rx_let (rx_ui S61 85 (Int32.toNatClampNeg x59) (vp_nar .boolean x60)) (fun S63 => rx_let (x58 + 1) (fun x64 => f_X6_markEnds_L8 N K42 n x55 x56 x57 x64 S63)))) (fun J35_4 => if x46 = x45 then (J35_4 x43 x44 x45 x46 x53 1 S52) else (J35_4 x43 x44 x45 x46 x53 0 S52))))
def f_X6_markEnds (N : Nat) (x1 : Int32) (x2 : Int32) (S0 : rx_S) : Option (Unit × rx_S) := rx_bd (f_X5_size N x2 S0) (fun x5 S4 => rx_let (fun (x7 : Int32) (x8 : Int32) (S9 : rx_S) => rx_let (x7 - 1) (fun x10 => f_X6_markEnds_L47 N N x8 x10 S9)) (fun J42_1 => f_X6_markEnds_L8 N J42_1 N x1 x2 x5 0 S4))
set_option maxHeartbeats 4000000 in
set_option maxRecDepth 20000 in
theorem em_X6_markEnds_L55 {d N : Nat} {K97 : Int32 → Int32 → rx_S → Option (Unit × rx_S)} {zr : Unit} {zS : rx_S} (hK97 : ∀ (x23 : Int32) (x24 : Int32) (S25 : rx_S), K97 x23 x24 S25 = some (zr, zS) → EV gC (d + 2) mX6_markEnds 97 [some (.ref 81), none, some (.int x23), none, some (.int x24), none] [] S25 (rx_pv zS)) : ∀ (n : Nat) (x19 : Int32) (x20 : Int32) (x21 : Int32) (S22 : rx_S), f_X6_markEnds_L55 N K97 n x19 x20 x21 S22 = some (zr, zS) → EV gC (d + 2) mX6_markEnds 55 [some (.ref 81), none, some (.int x19), none, some (.int x20), some (.int x21)] [] S22 (rx_pv zS) := by
  intro n
  induction n with
  | zero => intro x19 x20 x21 S22 h; cases h
  | succ n ih =>
    intro x19 x20 x21 S22 h
    rw [f_X6_markEnds_L55] at h
    refine ev_iload 57 dX6_markEnds_55 rfl rfl ?_
    refine ev_iconst (v := 5) 58 dX6_markEnds_57 (by decide) rfl ?_
    refine ev_icmp_gt 97 61 dX6_markEnds_58 rfl rfl (fun c26 => ?_) (fun c26 => ?_)
    · replace h := rx_if_t c26 h
      exact (hK97 _ _ _ h).fewer (rx_le_s (rx_le_n (rx_le_s (rx_le_n (rx_le_s (rx_le_n rx_le_0))))))
    · replace h := rx_if_f c26 h
      refine ev_aload_n (i := 0) 62 dX6_markEnds_61 rfl rfl rfl ?_
      refine ev_get (v := .ref 85) 65 dX6_markEnds_62 dk_81 fl_6_22 (by decide) rfl rfl rfl ?_
      refine ev_iload 67 dX6_markEnds_65 rfl rfl ?_
      refine ev_iload 69 dX6_markEnds_67 rfl rfl ?_
      obtain ⟨x28, S27, g29, h⟩ := rx_bd_o h
      refine ev_cSi2 72 dX6_markEnds_69 (em_X6_endAt g29) mm_X6_endAt ms_X6_endAt lk_6_75 (Nat.le_of_ble_eq_true rfl) (Nat.le_of_ble_eq_true rfl) rfl ?_
      refine ev_aload_n (i := 0) 73 dX6_markEnds_72 rfl rfl rfl ?_
      refine ev_iload 75 dX6_markEnds_73 rfl rfl ?_
      refine ev_iload 77 dX6_markEnds_75 rfl rfl ?_
      refine ev_iload_n (i := 2) 78 dX6_markEnds_77 rfl rfl rfl ?_
      obtain ⟨x31, S30, g32, h⟩ := rx_bd_o h
      refine ev_cVi3 81 dX6_markEnds_78 (em_X6_fittingWord g32) mm_X6_fittingWord mv_X6_fittingWord lk_6_78 dk_81 (by decide) rfl (Nat.le_of_ble_eq_true rfl) (Nat.le_of_ble_eq_true rfl) rfl ?_
      refine ev_iconst (v := (-1)) 82 dX6_markEnds_81 (by decide) rfl ?_
      obtain ⟨J90_3, eJ90_3, h⟩ := rx_let_o h
      have hJ90_3 : ∀ (x33 : Int32) (x34 : Int32) (x35 : Int32) (x36 : Int32) (x37 : Int32) (S38 : rx_S), J90_3 x33 x34 x35 x36 x37 S38 = some (zr, zS) → EV gC (d + 2) mX6_markEnds 90 [some (.ref 81), none, some (.int x33), none, some (.int x34), some (.int x35)] [.int x37, .int x36, .ref 85] S38 (rx_pv zS) := by
        intro x33 x34 x35 x36 x37 S38 h
        subst eJ90_3
        obtain ⟨g39, h⟩ := rx_gd_o h
        obtain ⟨S40, eS40, h⟩ := rx_let_o h
        refine ex_zast _ 91 dX6_markEnds_90 dk_85 g39 rfl rfl eS40 ?_
        obtain ⟨x41, ex41, h⟩ := rx_let_o h
        refine ev_iinc (v := x41) (ls' := [some (.ref 81), none, some (.int x33), none, some (.int x34), some (.int x41)]) 94 dX6_markEnds_91 rfl (by rw [ex41]; rfl) (Nat.le_of_ble_eq_true rfl) rfl rfl ?_
        refine ev_goto 55 dX6_markEnds_94 rfl ?_
        exact (ih _ _ _ _ h).fewer (rx_le_s (rx_le_n (rx_le_s (rx_le_n (rx_le_s (rx_le_s rx_le_0))))))
      refine ev_icmp_eq 89 85 dX6_markEnds_82 rfl rfl (fun c42 => ?_) (fun c42 => ?_)
      · replace h := rx_if_t c42 h
        refine ev_iconst (v := 0) 90 dX6_markEnds_89 (by decide) rfl ?_
        exact (hJ90_3 _ _ _ _ _ _ h).fewer (rx_le_s (rx_le_n (rx_le_s (rx_le_n (rx_le_s (rx_le_s rx_le_0))))))
      · replace h := rx_if_f c42 h
        refine ev_iconst (v := 1) 86 dX6_markEnds_85 (by decide) rfl ?_
        refine ev_goto 90 dX6_markEnds_86 rfl ?_
        exact (hJ90_3 _ _ _ _ _ _ h).fewer (rx_le_s (rx_le_n (rx_le_s (rx_le_n (rx_le_s (rx_le_s rx_le_0))))))

set_option maxHeartbeats 4000000 in
set_option maxRecDepth 20000 in
theorem em_X6_markEnds_L47 {d N : Nat} {zr : Unit} {zS : rx_S} : ∀ (n : Nat) (x11 : Int32) (x12 : Int32) (S13 : rx_S), f_X6_markEnds_L47 N n x11 x12 S13 = some (zr, zS) → EV gC (d + 2) mX6_markEnds 47 [some (.ref 81), none, some (.int x11), none, some (.int x12), none] [] S13 (rx_pv zS) := by
  intro n
  induction n with
  | zero => intro x11 x12 S13 h; cases h
  | succ n ih =>
    intro x11 x12 S13 h
    rw [f_X6_markEnds_L47] at h
    refine ev_iload 49 dX6_markEnds_47 rfl rfl ?_
    refine ev_if_lt 103 52 dX6_markEnds_49 rfl rfl (fun c14 => ?_) (fun c14 => ?_)
    · replace h := rx_if_t c14 h
      exact ev_return dX6_markEnds_103 rfl (rx_ret_v h)
    · replace h := rx_if_f c14 h
      refine ev_iconst (v := 0) 53 dX6_markEnds_52 (by decide) rfl ?_
      refine ev_istore (ls' := [some (.ref 81), none, some (.int x11), none, some (.int x12), some (.int 0)]) 55 dX6_markEnds_53 (Nat.le_of_ble_eq_true rfl) rfl rfl ?_
      obtain ⟨J97_2, eJ97_2, h⟩ := rx_let_o h
      have hJ97_2 : ∀ (x15 : Int32) (x16 : Int32) (S17 : rx_S), J97_2 x15 x16 S17 = some (zr, zS) → EV gC (d + 2) mX6_markEnds 97 [some (.ref 81), none, some (.int x15), none, some (.int x16), none] [] S17 (rx_pv zS) := by
        intro x15 x16 S17 h
        subst eJ97_2
        obtain ⟨x18, ex18, h⟩ := rx_let_o h
        refine ev_iinc (v := x18) (ls' := [some (.ref 81), none, some (.int x15), none, some (.int x18), none]) 100 dX6_markEnds_97 rfl (by rw [ex18]; rfl) (Nat.le_of_ble_eq_true rfl) rfl rfl ?_
        refine ev_goto 47 dX6_markEnds_100 rfl ?_
        exact (ih _ _ _ h).fewer (rx_le_s (rx_le_n (rx_le_s (rx_le_n (rx_le_s (rx_le_n rx_le_0))))))
      exact (em_X6_markEnds_L55 hJ97_2 _ _ _ _ _ h).fewer (rx_le_s (rx_le_n (rx_le_s (rx_le_n (rx_le_s (rx_le_s rx_le_0))))))

set_option maxHeartbeats 4000000 in
set_option maxRecDepth 20000 in
theorem em_X6_markEnds_L8 {d N : Nat} {K42 : Int32 → Int32 → rx_S → Option (Unit × rx_S)} {zr : Unit} {zS : rx_S} (hK42 : ∀ (x48 : Int32) (x49 : Int32) (S50 : rx_S), K42 x48 x49 S50 = some (zr, zS) → EV gC (d + 2) mX6_markEnds 42 [some (.ref 81), some (.int x48), some (.int x49), none, none, none] [] S50 (rx_pv zS)) : ∀ (n : Nat) (x43 : Int32) (x44 : Int32) (x45 : Int32) (x46 : Int32) (S47 : rx_S), f_X6_markEnds_L8 N K42 n x43 x44 x45 x46 S47 = some (zr, zS) → EV gC (d + 2) mX6_markEnds 8 [some (.ref 81), some (.int x43), some (.int x44), some (.int x45), some (.int x46), none] [] S47 (rx_pv zS) := by
  intro n
  induction n with
  | zero => intro x43 x44 x45 x46 S47 h; cases h
  | succ n ih =>
    intro x43 x44 x45 x46 S47 h
    rw [f_X6_markEnds_L8] at h
    refine ev_iload 10 dX6_markEnds_8 rfl rfl ?_
    refine ev_iconst (v := 5) 11 dX6_markEnds_10 (by decide) rfl ?_
    refine ev_icmp_gt 42 14 dX6_markEnds_11 rfl rfl (fun c51 => ?_) (fun c51 => ?_)
    · replace h := rx_if_t c51 h
      exact (hK42 _ _ _ h).fewer (rx_le_s (rx_le_s (rx_le_s (rx_le_n (rx_le_n (rx_le_n rx_le_0))))))
    · replace h := rx_if_f c51 h
      refine ev_aload_n (i := 0) 15 dX6_markEnds_14 rfl rfl rfl ?_
      refine ev_get (v := .ref 85) 18 dX6_markEnds_15 dk_81 fl_6_22 (by decide) rfl rfl rfl ?_
      refine ev_iload_n (i := 1) 19 dX6_markEnds_18 rfl rfl rfl ?_
      refine ev_iload 21 dX6_markEnds_19 rfl rfl ?_
      obtain ⟨x53, S52, g54, h⟩ := rx_bd_o h
      refine ev_cSi2 24 dX6_markEnds_21 (em_X6_endAt g54) mm_X6_endAt ms_X6_endAt lk_6_75 (Nat.le_of_ble_eq_true rfl) (Nat.le_of_ble_eq_true rfl) rfl ?_
      refine ev_iload 26 dX6_markEnds_24 rfl rfl ?_
      refine ev_iload_n (i := 3) 27 dX6_markEnds_26 rfl rfl rfl ?_
      obtain ⟨J35_4, eJ35_4, h⟩ := rx_let_o h
      have hJ35_4 : ∀ (x55 : Int32) (x56 : Int32) (x57 : Int32) (x58 : Int32) (x59 : Int32) (x60 : Int32) (S61 : rx_S), J35_4 x55 x56 x57 x58 x59 x60 S61 = some (zr, zS) → EV gC (d + 2) mX6_markEnds 35 [some (.ref 81), some (.int x55), some (.int x56), some (.int x57), some (.int x58), none] [.int x60, .int x59, .ref 85] S61 (rx_pv zS) := by
        intro x55 x56 x57 x58 x59 x60 S61 h
        subst eJ35_4
        obtain ⟨g62, h⟩ := rx_gd_o h
        obtain ⟨S63, eS63, h⟩ := rx_let_o h
        refine ex_zast _ 36 dX6_markEnds_35 dk_85 g62 rfl rfl eS63 ?_
        obtain ⟨x64, ex64, h⟩ := rx_let_o h
        refine ev_iinc (v := x64) (ls' := [some (.ref 81), some (.int x55), some (.int x56), some (.int x57), some (.int x64), none]) 39 dX6_markEnds_36 rfl (by rw [ex64]; rfl) (Nat.le_of_ble_eq_true rfl) rfl rfl ?_
        refine ev_goto 8 dX6_markEnds_39 rfl ?_
        exact (ih _ _ _ _ _ h).fewer (rx_le_s (rx_le_s (rx_le_s (rx_le_s (rx_le_s (rx_le_n rx_le_0))))))
      refine ev_icmp_ne 34 30 dX6_markEnds_27 rfl rfl (fun c65 => ?_) (fun c65 => ?_)
      · replace h := rx_if_f c65 h
        refine ev_iconst (v := 0) 35 dX6_markEnds_34 (by decide) rfl ?_
        exact (hJ35_4 _ _ _ _ _ _ _ h).fewer (rx_le_s (rx_le_s (rx_le_s (rx_le_s (rx_le_s (rx_le_n rx_le_0))))))
      · replace h := rx_if_t c65 h
        refine ev_iconst (v := 1) 31 dX6_markEnds_30 (by decide) rfl ?_
        refine ev_goto 35 dX6_markEnds_31 rfl ?_
        exact (hJ35_4 _ _ _ _ _ _ _ h).fewer (rx_le_s (rx_le_s (rx_le_s (rx_le_s (rx_le_s (rx_le_n rx_le_0))))))

set_option maxHeartbeats 4000000 in
set_option maxRecDepth 20000 in
theorem em_X6_markEnds {d N : Nat} {x1 : Int32} {x2 : Int32} {S0 : rx_S} {zr : Unit} {zS : rx_S} (h : f_X6_markEnds N x1 x2 S0 = some (zr, zS)) : EM gC (d + 2) mX6_markEnds [.ref 81, .int x1, .int x2] S0 (rx_pv zS) := by
  unfold f_X6_markEnds at h
  show EV gC (d + 2) mX6_markEnds 0 [some (.ref 81), some (.int x1), some (.int x2), none, none, none] [] S0 (rx_pv zS)
  refine ev_iload_n (i := 2) 1 dX6_markEnds_0 rfl rfl rfl ?_
  obtain ⟨x5, S4, g6, h⟩ := rx_bd_o h
  refine ev_cSi1 4 dX6_markEnds_1 (em_X5_size g6) mm_X5_size ms_X5_size lk_6_71 (Nat.le_of_ble_eq_true rfl) (Nat.le_of_ble_eq_true rfl) rfl ?_
  refine ev_istore_n (ls' := [some (.ref 81), some (.int x1), some (.int x2), some (.int x5), none, none]) 5 dX6_markEnds_4 rfl (Nat.le_of_ble_eq_true rfl) rfl rfl ?_
  refine ev_iconst (v := 0) 6 dX6_markEnds_5 (by decide) rfl ?_
  refine ev_istore (ls' := [some (.ref 81), some (.int x1), some (.int x2), some (.int x5), some (.int 0), none]) 8 dX6_markEnds_6 (Nat.le_of_ble_eq_true rfl) rfl rfl ?_
  obtain ⟨J42_1, eJ42_1, h⟩ := rx_let_o h
  have hJ42_1 : ∀ (x7 : Int32) (x8 : Int32) (S9 : rx_S), J42_1 x7 x8 S9 = some (zr, zS) → EV gC (d + 2) mX6_markEnds 42 [some (.ref 81), some (.int x7), some (.int x8), none, none, none] [] S9 (rx_pv zS) := by
    intro x7 x8 S9 h
    subst eJ42_1
    refine ev_iload_n (i := 1) 43 dX6_markEnds_42 rfl rfl rfl ?_
    refine ev_iconst (v := 1) 44 dX6_markEnds_43 (by decide) rfl ?_
    refine ev_isub 45 dX6_markEnds_44 rfl ?_
    obtain ⟨x10, ex10, h⟩ := rx_let_o h
    refine ev_nm ex10 ?_
    refine ev_istore (ls' := [some (.ref 81), some (.int x7), some (.int x8), none, some (.int x10), none]) 47 dX6_markEnds_45 (Nat.le_of_ble_eq_true rfl) rfl rfl ?_
    exact (em_X6_markEnds_L47 _ _ _ _ h).fewer (rx_le_s (rx_le_n (rx_le_s (rx_le_n (rx_le_s (rx_le_n rx_le_0))))))
  exact (em_X6_markEnds_L8 hJ42_1 _ _ _ _ _ _ h).fewer (rx_le_s (rx_le_s (rx_le_s (rx_le_s (rx_le_s (rx_le_n rx_le_0))))))

def f_X6_leastRow_L8 (N : Nat) : Nat → Int32 → Int32 → Int32 → Int32 → Int32 → rx_S → Option (Int32 × rx_S)
  | 0, _, _, _, _, _, _ => none
  | n + 1, x4, x5, x6, x7, x8, S9 => if x4 ≤ x8 then (some (x6, S9)) else (if (5 : Int32) < x7 then (some (x6, S9)) else (rx_bd (f_X6_fittingWord N x8 x7 x5 S9) (fun x13 S12 => if x13 = (-1) then (some ((-2), S12)) else (rx_gd ((x8 * 8) + x13) 32 (rx_let (fun (x17 : Int32) (x18 : Int32) (x19 : Int32) (x20 : Int32) (x21 : Int32) (x22 : Int32) (x23 : Int32) (S24 : rx_S) => rx_let (x22 + x23) (fun x25 => rx_bd (f_X5_with x19 x21 S24) (fun x27 S26 => rx_let (x20 + 1) (fun x29 => f_X6_leastRow_L8 N n x17 x18 x27 x25 x29 S26)))) (fun J65_1 => if (S12.1 84 (Int32.toNatClampNeg ((x8 * 8) + x13))) = 8 then (J65_1 x4 x5 x6 x8 x13 x7 0 S12) else (J65_1 x4 x5 x6 x8 x13 x7 1 S12)))))))
def f_X6_leastRow (N : Nat) (x1 : Int32) (x2 : Int32) (S0 : rx_S) : Option (Int32 × rx_S) := f_X6_leastRow_L8 N N x1 x2 1 0 0 S0
set_option maxHeartbeats 4000000 in
set_option maxRecDepth 20000 in
theorem em_X6_leastRow_L8 {d N : Nat} {zr : Int32} {zS : rx_S} : ∀ (n : Nat) (x4 : Int32) (x5 : Int32) (x6 : Int32) (x7 : Int32) (x8 : Int32) (S9 : rx_S), f_X6_leastRow_L8 N n x4 x5 x6 x7 x8 S9 = some (zr, zS) → EV gC (d + 2) mX6_leastRow 8 [some (.ref 81), some (.int x4), some (.int x5), some (.int x6), some (.int x7), some (.int x8), none] [] S9 (rx_pi zr zS) := by
  intro n
  induction n with
  | zero => intro x4 x5 x6 x7 x8 S9 h; cases h
  | succ n ih =>
    intro x4 x5 x6 x7 x8 S9 h
    rw [f_X6_leastRow_L8] at h
    refine ev_iload 10 dX6_leastRow_8 rfl rfl ?_
    refine ev_iload_n (i := 1) 11 dX6_leastRow_10 rfl rfl rfl ?_
    refine ev_icmp_ge 81 14 dX6_leastRow_11 rfl rfl (fun c10 => ?_) (fun c10 => ?_)
    · replace h := rx_if_t c10 h
      refine ev_iload_n (i := 3) 82 dX6_leastRow_81 rfl rfl rfl ?_
      exact ev_ireturn dX6_leastRow_82 rfl (rx_ret_i h)
    · replace h := rx_if_f c10 h
      refine ev_iload 16 dX6_leastRow_14 rfl rfl ?_
      refine ev_iconst (v := 5) 17 dX6_leastRow_16 (by decide) rfl ?_
      refine ev_icmp_gt 81 20 dX6_leastRow_17 rfl rfl (fun c11 => ?_) (fun c11 => ?_)
      · replace h := rx_if_t c11 h
        refine ev_iload_n (i := 3) 82 dX6_leastRow_81 rfl rfl rfl ?_
        exact ev_ireturn dX6_leastRow_82 rfl (rx_ret_i h)
      · replace h := rx_if_f c11 h
        refine ev_aload_n (i := 0) 21 dX6_leastRow_20 rfl rfl rfl ?_
        refine ev_iload 23 dX6_leastRow_21 rfl rfl ?_
        refine ev_iload 25 dX6_leastRow_23 rfl rfl ?_
        refine ev_iload_n (i := 2) 26 dX6_leastRow_25 rfl rfl rfl ?_
        obtain ⟨x13, S12, g14, h⟩ := rx_bd_o h
        refine ev_cVi3 29 dX6_leastRow_26 (em_X6_fittingWord g14) mm_X6_fittingWord mv_X6_fittingWord lk_6_78 dk_81 (by decide) rfl (Nat.le_of_ble_eq_true rfl) (Nat.le_of_ble_eq_true rfl) rfl ?_
        refine ev_istore (ls' := [some (.ref 81), some (.int x4), some (.int x5), some (.int x6), some (.int x7), some (.int x8), some (.int x13)]) 31 dX6_leastRow_29 (Nat.le_of_ble_eq_true rfl) rfl rfl ?_
        refine ev_iload 33 dX6_leastRow_31 rfl rfl ?_
        refine ev_iconst (v := (-1)) 34 dX6_leastRow_33 (by decide) rfl ?_
        refine ev_icmp_ne 40 37 dX6_leastRow_34 rfl rfl (fun c15 => ?_) (fun c15 => ?_)
        · replace h := rx_if_f c15 h
          refine ev_iload 42 dX6_leastRow_40 rfl rfl ?_
          refine ev_aload_n (i := 0) 43 dX6_leastRow_42 rfl rfl rfl ?_
          refine ev_get (v := .ref 84) 46 dX6_leastRow_43 dk_81 fl_6_18 (by decide) rfl rfl rfl ?_
          refine ev_iload 48 dX6_leastRow_46 rfl rfl ?_
          refine ev_bipush (v := 8) 50 dX6_leastRow_48 (by decide) rfl ?_
          refine ev_imul 51 dX6_leastRow_50 rfl ?_
          refine ev_iload 53 dX6_leastRow_51 rfl rfl ?_
          refine ev_iadd 54 dX6_leastRow_53 rfl ?_
          obtain ⟨g16, h⟩ := rx_gd_o h
          refine ex_iald _ 55 dX6_leastRow_54 dk_84 g16 rfl rfl ?_
          refine ev_bipush (v := 8) 57 dX6_leastRow_55 (by decide) rfl ?_
          obtain ⟨J65_1, eJ65_1, h⟩ := rx_let_o h
          have hJ65_1 : ∀ (x17 : Int32) (x18 : Int32) (x19 : Int32) (x20 : Int32) (x21 : Int32) (x22 : Int32) (x23 : Int32) (S24 : rx_S), J65_1 x17 x18 x19 x20 x21 x22 x23 S24 = some (zr, zS) → EV gC (d + 2) mX6_leastRow 65 [some (.ref 81), some (.int x17), some (.int x18), some (.int x19), none, some (.int x20), some (.int x21)] [.int x23, .int x22] S24 (rx_pi zr zS) := by
            intro x17 x18 x19 x20 x21 x22 x23 S24 h
            subst eJ65_1
            refine ev_iadd 66 dX6_leastRow_65 rfl ?_
            obtain ⟨x25, ex25, h⟩ := rx_let_o h
            refine ev_nm ex25 ?_
            refine ev_istore (ls' := [some (.ref 81), some (.int x17), some (.int x18), some (.int x19), some (.int x25), some (.int x20), some (.int x21)]) 68 dX6_leastRow_66 (Nat.le_of_ble_eq_true rfl) rfl rfl ?_
            refine ev_iload_n (i := 3) 69 dX6_leastRow_68 rfl rfl rfl ?_
            refine ev_iload 71 dX6_leastRow_69 rfl rfl ?_
            obtain ⟨x27, S26, g28, h⟩ := rx_bd_o h
            refine ev_cSi2 74 dX6_leastRow_71 (em_X5_with g28) mm_X5_with ms_X5_with lk_6_85 (Nat.le_of_ble_eq_true rfl) (Nat.le_of_ble_eq_true rfl) rfl ?_
            refine ev_istore_n (ls' := [some (.ref 81), some (.int x17), some (.int x18), some (.int x27), some (.int x25), some (.int x20), some (.int x21)]) 75 dX6_leastRow_74 rfl (Nat.le_of_ble_eq_true rfl) rfl rfl ?_
            obtain ⟨x29, ex29, h⟩ := rx_let_o h
            refine ev_iinc (v := x29) (ls' := [some (.ref 81), some (.int x17), some (.int x18), some (.int x27), some (.int x25), some (.int x29), some (.int x21)]) 78 dX6_leastRow_75 rfl (by rw [ex29]; rfl) (Nat.le_of_ble_eq_true rfl) rfl rfl ?_
            refine ev_goto 8 dX6_leastRow_78 rfl ?_
            exact (ih _ _ _ _ _ _ h).fewer (rx_le_s (rx_le_s (rx_le_s (rx_le_s (rx_le_s (rx_le_s (rx_le_n rx_le_0)))))))
          refine ev_icmp_ne 64 60 dX6_leastRow_57 rfl rfl (fun c30 => ?_) (fun c30 => ?_)
          · replace h := rx_if_f c30 h
            refine ev_iconst (v := 1) 65 dX6_leastRow_64 (by decide) rfl ?_
            exact (hJ65_1 _ _ _ _ _ _ _ _ h).fewer (rx_le_s (rx_le_s (rx_le_s (rx_le_s (rx_le_n (rx_le_s (rx_le_s rx_le_0)))))))
          · replace h := rx_if_t c30 h
            refine ev_iconst (v := 0) 61 dX6_leastRow_60 (by decide) rfl ?_
            refine ev_goto 65 dX6_leastRow_61 rfl ?_
            exact (hJ65_1 _ _ _ _ _ _ _ _ h).fewer (rx_le_s (rx_le_s (rx_le_s (rx_le_s (rx_le_n (rx_le_s (rx_le_s rx_le_0)))))))
        · replace h := rx_if_t c15 h
          refine ev_bipush (v := (-2)) 39 dX6_leastRow_37 (by decide) rfl ?_
          exact ev_ireturn dX6_leastRow_39 rfl (rx_ret_i h)

set_option maxHeartbeats 4000000 in
set_option maxRecDepth 20000 in
theorem em_X6_leastRow {d N : Nat} {x1 : Int32} {x2 : Int32} {S0 : rx_S} {zr : Int32} {zS : rx_S} (h : f_X6_leastRow N x1 x2 S0 = some (zr, zS)) : EM gC (d + 2) mX6_leastRow [.ref 81, .int x1, .int x2] S0 (rx_pi zr zS) := by
  unfold f_X6_leastRow at h
  show EV gC (d + 2) mX6_leastRow 0 [some (.ref 81), some (.int x1), some (.int x2), none, none, none, none] [] S0 (rx_pi zr zS)
  refine ev_iconst (v := 1) 1 dX6_leastRow_0 (by decide) rfl ?_
  refine ev_istore_n (ls' := [some (.ref 81), some (.int x1), some (.int x2), some (.int 1), none, none, none]) 2 dX6_leastRow_1 rfl (Nat.le_of_ble_eq_true rfl) rfl rfl ?_
  refine ev_iconst (v := 0) 3 dX6_leastRow_2 (by decide) rfl ?_
  refine ev_istore (ls' := [some (.ref 81), some (.int x1), some (.int x2), some (.int 1), some (.int 0), none, none]) 5 dX6_leastRow_3 (Nat.le_of_ble_eq_true rfl) rfl rfl ?_
  refine ev_iconst (v := 0) 6 dX6_leastRow_5 (by decide) rfl ?_
  refine ev_istore (ls' := [some (.ref 81), some (.int x1), some (.int x2), some (.int 1), some (.int 0), some (.int 0), none]) 8 dX6_leastRow_6 (Nat.le_of_ble_eq_true rfl) rfl rfl ?_
  exact (em_X6_leastRow_L8 _ _ _ _ _ _ _ h).fewer (rx_le_s (rx_le_s (rx_le_s (rx_le_s (rx_le_s (rx_le_s (rx_le_n rx_le_0)))))))

def f_X6_rowPutAs_L60 (N : Nat) (K82 : Int32 → Int32 → rx_S → Option (Int32 × rx_S)) : Nat → Int32 → Int32 → rx_S → Option (Int32 × rx_S)
  | 0, _, _, _ => none
  | n + 1, x13, x14, S15 => if (4 : Int32) < x14 then (some ((-2), S15)) else (rx_bd (f_X6_markEnds N x14 x13 S15) (fun x21 S20 => if (S20.1 85 0) = 0 then (rx_let (x14 + 1) (fun x24 => f_X6_rowPutAs_L60 N K82 n x13 x24 S20)) else (K82 x13 x14 S20)))
def f_X6_rowPutAs_L12 (N : Nat) (K51 : Int32 → Int32 → Int32 → rx_S → Option (Int32 × rx_S)) : Nat → Int32 → Int32 → Int32 → Int32 → rx_S → Option (Int32 × rx_S)
  | 0, _, _, _, _, _ => none
  | n + 1, x37, x38, x39, x40, S41 => if (8 : Int32) ≤ x40 then (K51 x37 x38 x39 S41) else (rx_bd (f_X7_putWord 32 N x37 x40 x39 S41) (fun x48 S47 => rx_gd ((x39 * 8) + x40) 32 (rx_let (rx_ui S47 84 (Int32.toNatClampNeg ((x39 * 8) + x40)) x48) (fun S51 => rx_let (x40 + 1) (fun x52 => f_X6_rowPutAs_L12 N K51 n x37 x38 x39 x52 S51)))))
def f_X6_rowPutAs_L3 (N : Nat) (K57 : Int32 → rx_S → Option (Int32 × rx_S)) : Nat → Int32 → Int32 → Int32 → rx_S → Option (Int32 × rx_S)
  | 0, _, _, _, _ => none
  | n + 1, x25, x26, x27, S28 => if (4 : Int32) ≤ x27 then (K57 x26 S28) else (rx_let (fun (x32 : Int32) (x33 : Int32) (x34 : Int32) (S35 : rx_S) => rx_let (x34 + 1) (fun x36 => f_X6_rowPutAs_L3 N K57 n x32 x33 x36 S35)) (fun J51_3 => f_X6_rowPutAs_L12 N J51_3 N x25 x26 x27 0 S28))
def f_X6_rowPutAs (N : Nat) (x2 : Int32) (x3 : Int32) (S0 : rx_S) : Option (Int32 × rx_S) := rx_let (fun (x5 : Int32) (S6 : rx_S) => rx_let (fun (x7 : Int32) (x8 : Int32) (S9 : rx_S) => rx_bd (f_X6_leastRow N x8 x7 S9) (fun x11 S10 => some (x11, S10))) (fun J82_2 => f_X6_rowPutAs_L60 N J82_2 N x5 0 S6)) (fun J57_1 => f_X6_rowPutAs_L3 N J57_1 N x2 x3 0 S0)
set_option maxHeartbeats 4000000 in
set_option maxRecDepth 20000 in
theorem em_X6_rowPutAs_L60 {d N : Nat} {K82 : Int32 → Int32 → rx_S → Option (Int32 × rx_S)} {zr : Int32} {zS : rx_S} (hK82 : ∀ (x16 : Int32) (x17 : Int32) (S18 : rx_S), K82 x16 x17 S18 = some (zr, zS) → EV gC (d + 4) mX6_rowPutAs 82 [some (.ref 81), some (.ref 32), none, some (.int x16), some (.int x17), none] [] S18 (rx_pi zr zS)) : ∀ (n : Nat) (x13 : Int32) (x14 : Int32) (S15 : rx_S), f_X6_rowPutAs_L60 N K82 n x13 x14 S15 = some (zr, zS) → EV gC (d + 4) mX6_rowPutAs 60 [some (.ref 81), some (.ref 32), none, some (.int x13), some (.int x14), none] [] S15 (rx_pi zr zS) := by
  intro n
  induction n with
  | zero => intro x13 x14 S15 h; cases h
  | succ n ih =>
    intro x13 x14 S15 h
    rw [f_X6_rowPutAs_L60] at h
    refine ev_iload 62 dX6_rowPutAs_60 rfl rfl ?_
    refine ev_iconst (v := 4) 63 dX6_rowPutAs_62 (by decide) rfl ?_
    refine ev_icmp_gt 96 66 dX6_rowPutAs_63 rfl rfl (fun c19 => ?_) (fun c19 => ?_)
    · replace h := rx_if_t c19 h
      refine ev_bipush (v := (-2)) 98 dX6_rowPutAs_96 (by decide) rfl ?_
      exact ev_ireturn dX6_rowPutAs_98 rfl (rx_ret_i h)
    · replace h := rx_if_f c19 h
      refine ev_aload_n (i := 0) 67 dX6_rowPutAs_66 rfl rfl rfl ?_
      refine ev_iload 69 dX6_rowPutAs_67 rfl rfl ?_
      refine ev_iload_n (i := 3) 70 dX6_rowPutAs_69 rfl rfl rfl ?_
      obtain ⟨x21, S20, g22, h⟩ := rx_bd_o h
      refine ev_cVv2 73 dX6_rowPutAs_70 (em_X6_markEnds g22) mm_X6_markEnds mv_X6_markEnds lk_6_64 dk_81 (by decide) rfl (Nat.le_of_ble_eq_true rfl) (Nat.le_of_ble_eq_true rfl) rfl ?_
      refine ev_aload_n (i := 0) 74 dX6_rowPutAs_73 rfl rfl rfl ?_
      refine ev_get (v := .ref 85) 77 dX6_rowPutAs_74 dk_81 fl_6_22 (by decide) rfl rfl rfl ?_
      refine ev_iconst (v := 0) 78 dX6_rowPutAs_77 (by decide) rfl ?_
      refine ex_zald 0 79 dX6_rowPutAs_78 dk_85 (rx_vin (by decide)) (by decide) rfl ?_
      refine ev_if_eq 90 82 dX6_rowPutAs_79 rfl rfl (fun c23 => ?_) (fun c23 => ?_)
      · replace h := rx_if_t c23 h
        obtain ⟨x24, ex24, h⟩ := rx_let_o h
        refine ev_iinc (v := x24) (ls' := [some (.ref 81), some (.ref 32), none, some (.int x13), some (.int x24), none]) 93 dX6_rowPutAs_90 rfl (by rw [ex24]; rfl) (Nat.le_of_ble_eq_true rfl) rfl rfl ?_
        refine ev_goto 60 dX6_rowPutAs_93 rfl ?_
        exact (ih _ _ _ h).fewer (rx_le_s (rx_le_s (rx_le_n (rx_le_s (rx_le_s (rx_le_n rx_le_0))))))
      · replace h := rx_if_f c23 h
        exact (hK82 _ _ _ h).fewer (rx_le_s (rx_le_s (rx_le_n (rx_le_s (rx_le_s (rx_le_n rx_le_0))))))

set_option maxHeartbeats 4000000 in
set_option maxRecDepth 20000 in
theorem em_X6_rowPutAs_L12 {d N : Nat} {K51 : Int32 → Int32 → Int32 → rx_S → Option (Int32 × rx_S)} {zr : Int32} {zS : rx_S} (hK51 : ∀ (x42 : Int32) (x43 : Int32) (x44 : Int32) (S45 : rx_S), K51 x42 x43 x44 S45 = some (zr, zS) → EV gC (d + 4) mX6_rowPutAs 51 [some (.ref 81), some (.ref 32), some (.int x42), some (.int x43), some (.int x44), none] [] S45 (rx_pi zr zS)) : ∀ (n : Nat) (x37 : Int32) (x38 : Int32) (x39 : Int32) (x40 : Int32) (S41 : rx_S), f_X6_rowPutAs_L12 N K51 n x37 x38 x39 x40 S41 = some (zr, zS) → EV gC (d + 4) mX6_rowPutAs 12 [some (.ref 81), some (.ref 32), some (.int x37), some (.int x38), some (.int x39), some (.int x40)] [] S41 (rx_pi zr zS) := by
  intro n
  induction n with
  | zero => intro x37 x38 x39 x40 S41 h; cases h
  | succ n ih =>
    intro x37 x38 x39 x40 S41 h
    rw [f_X6_rowPutAs_L12] at h
    refine ev_iload 14 dX6_rowPutAs_12 rfl rfl ?_
    refine ev_bipush (v := 8) 16 dX6_rowPutAs_14 (by decide) rfl ?_
    refine ev_icmp_ge 51 19 dX6_rowPutAs_16 rfl rfl (fun c46 => ?_) (fun c46 => ?_)
    · replace h := rx_if_t c46 h
      exact (hK51 _ _ _ _ h).fewer (rx_le_s (rx_le_s (rx_le_s (rx_le_s (rx_le_s (rx_le_n rx_le_0))))))
    · replace h := rx_if_f c46 h
      refine ev_aload_n (i := 0) 20 dX6_rowPutAs_19 rfl rfl rfl ?_
      refine ev_get (v := .ref 84) 23 dX6_rowPutAs_20 dk_81 fl_6_18 (by decide) rfl rfl rfl ?_
      refine ev_iload 25 dX6_rowPutAs_23 rfl rfl ?_
      refine ev_bipush (v := 8) 27 dX6_rowPutAs_25 (by decide) rfl ?_
      refine ev_imul 28 dX6_rowPutAs_27 rfl ?_
      refine ev_iload 30 dX6_rowPutAs_28 rfl rfl ?_
      refine ev_iadd 31 dX6_rowPutAs_30 rfl ?_
      refine ev_aload_n (i := 0) 32 dX6_rowPutAs_31 rfl rfl rfl ?_
      refine ev_get (v := .ref 80) 35 dX6_rowPutAs_32 dk_81 fl_6_36 (by decide) rfl rfl rfl ?_
      refine ev_aload_n (i := 1) 36 dX6_rowPutAs_35 rfl rfl rfl ?_
      refine ev_iload_n (i := 2) 37 dX6_rowPutAs_36 rfl rfl rfl ?_
      refine ev_iload 39 dX6_rowPutAs_37 rfl rfl ?_
      refine ev_iload 41 dX6_rowPutAs_39 rfl rfl ?_
      obtain ⟨x48, S47, g49, h⟩ := rx_bd_o h
      refine ev_cVi4 44 dX6_rowPutAs_41 (em_X7_putWord_32 g49) mm_X7_putWord mv_X7_putWord lk_6_61 dk_80 (by decide) rfl (Nat.le_of_ble_eq_true rfl) (Nat.le_of_ble_eq_true rfl) rfl ?_
      obtain ⟨g50, h⟩ := rx_gd_o h
      obtain ⟨S51, eS51, h⟩ := rx_let_o h
      refine ex_iast _ 45 dX6_rowPutAs_44 dk_84 g50 rfl rfl eS51 ?_
      obtain ⟨x52, ex52, h⟩ := rx_let_o h
      refine ev_iinc (v := x52) (ls' := [some (.ref 81), some (.ref 32), some (.int x37), some (.int x38), some (.int x39), some (.int x52)]) 48 dX6_rowPutAs_45 rfl (by rw [ex52]; rfl) (Nat.le_of_ble_eq_true rfl) rfl rfl ?_
      refine ev_goto 12 dX6_rowPutAs_48 rfl ?_
      exact (ih _ _ _ _ _ h).fewer (rx_le_s (rx_le_s (rx_le_s (rx_le_s (rx_le_s (rx_le_s rx_le_0))))))

set_option maxHeartbeats 4000000 in
set_option maxRecDepth 20000 in
theorem em_X6_rowPutAs_L3 {d N : Nat} {K57 : Int32 → rx_S → Option (Int32 × rx_S)} {zr : Int32} {zS : rx_S} (hK57 : ∀ (x29 : Int32) (S30 : rx_S), K57 x29 S30 = some (zr, zS) → EV gC (d + 4) mX6_rowPutAs 57 [some (.ref 81), some (.ref 32), none, some (.int x29), none, none] [] S30 (rx_pi zr zS)) : ∀ (n : Nat) (x25 : Int32) (x26 : Int32) (x27 : Int32) (S28 : rx_S), f_X6_rowPutAs_L3 N K57 n x25 x26 x27 S28 = some (zr, zS) → EV gC (d + 4) mX6_rowPutAs 3 [some (.ref 81), some (.ref 32), some (.int x25), some (.int x26), some (.int x27), none] [] S28 (rx_pi zr zS) := by
  intro n
  induction n with
  | zero => intro x25 x26 x27 S28 h; cases h
  | succ n ih =>
    intro x25 x26 x27 S28 h
    rw [f_X6_rowPutAs_L3] at h
    refine ev_iload 5 dX6_rowPutAs_3 rfl rfl ?_
    refine ev_iconst (v := 4) 6 dX6_rowPutAs_5 (by decide) rfl ?_
    refine ev_icmp_ge 57 9 dX6_rowPutAs_6 rfl rfl (fun c31 => ?_) (fun c31 => ?_)
    · replace h := rx_if_t c31 h
      exact (hK57 _ _ h).fewer (rx_le_s (rx_le_s (rx_le_n (rx_le_s (rx_le_n (rx_le_n rx_le_0))))))
    · replace h := rx_if_f c31 h
      refine ev_iconst (v := 0) 10 dX6_rowPutAs_9 (by decide) rfl ?_
      refine ev_istore (ls' := [some (.ref 81), some (.ref 32), some (.int x25), some (.int x26), some (.int x27), some (.int 0)]) 12 dX6_rowPutAs_10 (Nat.le_of_ble_eq_true rfl) rfl rfl ?_
      obtain ⟨J51_3, eJ51_3, h⟩ := rx_let_o h
      have hJ51_3 : ∀ (x32 : Int32) (x33 : Int32) (x34 : Int32) (S35 : rx_S), J51_3 x32 x33 x34 S35 = some (zr, zS) → EV gC (d + 4) mX6_rowPutAs 51 [some (.ref 81), some (.ref 32), some (.int x32), some (.int x33), some (.int x34), none] [] S35 (rx_pi zr zS) := by
        intro x32 x33 x34 S35 h
        subst eJ51_3
        obtain ⟨x36, ex36, h⟩ := rx_let_o h
        refine ev_iinc (v := x36) (ls' := [some (.ref 81), some (.ref 32), some (.int x32), some (.int x33), some (.int x36), none]) 54 dX6_rowPutAs_51 rfl (by rw [ex36]; rfl) (Nat.le_of_ble_eq_true rfl) rfl rfl ?_
        refine ev_goto 3 dX6_rowPutAs_54 rfl ?_
        exact (ih _ _ _ _ h).fewer (rx_le_s (rx_le_s (rx_le_s (rx_le_s (rx_le_s (rx_le_n rx_le_0))))))
      exact (em_X6_rowPutAs_L12 hJ51_3 _ _ _ _ _ _ h).fewer (rx_le_s (rx_le_s (rx_le_s (rx_le_s (rx_le_s (rx_le_s rx_le_0))))))

set_option maxHeartbeats 4000000 in
set_option maxRecDepth 20000 in
theorem em_X6_rowPutAs {d N : Nat} {x2 : Int32} {x3 : Int32} {S0 : rx_S} {zr : Int32} {zS : rx_S} (h : f_X6_rowPutAs N x2 x3 S0 = some (zr, zS)) : EM gC (d + 4) mX6_rowPutAs [.ref 81, .ref 32, .int x2, .int x3] S0 (rx_pi zr zS) := by
  unfold f_X6_rowPutAs at h
  show EV gC (d + 4) mX6_rowPutAs 0 [some (.ref 81), some (.ref 32), some (.int x2), some (.int x3), none, none] [] S0 (rx_pi zr zS)
  refine ev_iconst (v := 0) 1 dX6_rowPutAs_0 (by decide) rfl ?_
  refine ev_istore (ls' := [some (.ref 81), some (.ref 32), some (.int x2), some (.int x3), some (.int 0), none]) 3 dX6_rowPutAs_1 (Nat.le_of_ble_eq_true rfl) rfl rfl ?_
  obtain ⟨J57_1, eJ57_1, h⟩ := rx_let_o h
  have hJ57_1 : ∀ (x5 : Int32) (S6 : rx_S), J57_1 x5 S6 = some (zr, zS) → EV gC (d + 4) mX6_rowPutAs 57 [some (.ref 81), some (.ref 32), none, some (.int x5), none, none] [] S6 (rx_pi zr zS) := by
    intro x5 S6 h
    subst eJ57_1
    refine ev_iconst (v := 0) 58 dX6_rowPutAs_57 (by decide) rfl ?_
    refine ev_istore (ls' := [some (.ref 81), some (.ref 32), none, some (.int x5), some (.int 0), none]) 60 dX6_rowPutAs_58 (Nat.le_of_ble_eq_true rfl) rfl rfl ?_
    obtain ⟨J82_2, eJ82_2, h⟩ := rx_let_o h
    have hJ82_2 : ∀ (x7 : Int32) (x8 : Int32) (S9 : rx_S), J82_2 x7 x8 S9 = some (zr, zS) → EV gC (d + 4) mX6_rowPutAs 82 [some (.ref 81), some (.ref 32), none, some (.int x7), some (.int x8), none] [] S9 (rx_pi zr zS) := by
      intro x7 x8 S9 h
      subst eJ82_2
      refine ev_aload_n (i := 0) 83 dX6_rowPutAs_82 rfl rfl rfl ?_
      refine ev_iload 85 dX6_rowPutAs_83 rfl rfl ?_
      refine ev_iload_n (i := 3) 86 dX6_rowPutAs_85 rfl rfl rfl ?_
      obtain ⟨x11, S10, g12, h⟩ := rx_bd_o h
      refine ev_cVi2 89 dX6_rowPutAs_86 (em_X6_leastRow g12) mm_X6_leastRow mv_X6_leastRow lk_6_68 dk_81 (by decide) rfl (Nat.le_of_ble_eq_true rfl) (Nat.le_of_ble_eq_true rfl) rfl ?_
      exact ev_ireturn dX6_rowPutAs_89 rfl (rx_ret_i h)
    exact (em_X6_rowPutAs_L60 hJ82_2 _ _ _ _ h).fewer (rx_le_s (rx_le_s (rx_le_n (rx_le_s (rx_le_s (rx_le_n rx_le_0))))))
  exact (em_X6_rowPutAs_L3 hJ57_1 _ _ _ _ _ h).fewer (rx_le_s (rx_le_s (rx_le_s (rx_le_s (rx_le_s (rx_le_n rx_le_0))))))

def f_X6_fillLosses_L51 (N : Nat) (K101 : Int32 → Int32 → rx_S → Option (Int32 × rx_S)) : Nat → Int32 → Int32 → Int32 → Int32 → rx_S → Option (Int32 × rx_S)
  | 0, _, _, _, _, _ => none
  | n + 1, x22, x23, x24, x25, S26 => if (S26.1 2 8) ≤ x25 then (K101 x22 x23 S26) else (rx_bd (f_X7_putRow 32 N x25 x24 S26) (fun x32 S31 => rx_bd (f_X5_changes N x24 x32 S31) (fun x35 S34 => rx_gd ((x22 * 4) + x25) 12 (rx_let (rx_ui S34 86 (Int32.toNatClampNeg ((x22 * 4) + x25)) x35) (fun S38 => rx_let (x25 + 1) (fun x39 => f_X6_fillLosses_L51 N K101 n x22 x23 x24 x39 S38))))))
def f_X6_fillLosses_L4 (N : Nat) : Nat → Int32 → Int32 → rx_S → Option (Int32 × rx_S)
  | 0, _, _, _ => none
  | n + 1, x3, x4, S5 => if (S5.1 2 7) ≤ x4 then (some (x3, S5)) else (if (3 : Int32) ≤ x4 then (some (x3, S5)) else (rx_gd ((19 : Int32) + x4) 48 (if (S5.1 32 (Int32.toNatClampNeg ((19 : Int32) + x4))) = 0 then (rx_bd (f_X7_speakerOf 32 x4 S5) (fun x12 S11 => rx_bd (f_X7_rowOf 32 N x12 S11) (fun x15 S14 => rx_let (fun (x17 : Int32) (x18 : Int32) (S19 : rx_S) => rx_let (x17 + 1) (fun x20 => rx_let (x18 + 1) (fun x21 => f_X6_fillLosses_L4 N n x20 x21 S19))) (fun J101_1 => f_X6_fillLosses_L51 N J101_1 N x3 x4 x15 0 S14)))) else (rx_let (x4 + 1) (fun x10 => f_X6_fillLosses_L4 N n x3 x10 S5)))))
def f_X6_fillLosses (N : Nat) (S0 : rx_S) : Option (Int32 × rx_S) := f_X6_fillLosses_L4 N N 0 0 S0
set_option maxHeartbeats 4000000 in
set_option maxRecDepth 20000 in
theorem em_X6_fillLosses_L51 {d N : Nat} {K101 : Int32 → Int32 → rx_S → Option (Int32 × rx_S)} {zr : Int32} {zS : rx_S} (hK101 : ∀ (x27 : Int32) (x28 : Int32) (S29 : rx_S), K101 x27 x28 S29 = some (zr, zS) → EV gC (d + 5) mX6_fillLosses 101 [some (.ref 81), some (.ref 32), some (.int x27), some (.int x28), none, none] [] S29 (rx_pi zr zS)) : ∀ (n : Nat) (x22 : Int32) (x23 : Int32) (x24 : Int32) (x25 : Int32) (S26 : rx_S), f_X6_fillLosses_L51 N K101 n x22 x23 x24 x25 S26 = some (zr, zS) → EV gC (d + 5) mX6_fillLosses 51 [some (.ref 81), some (.ref 32), some (.int x22), some (.int x23), some (.int x24), some (.int x25)] [] S26 (rx_pi zr zS) := by
  intro n
  induction n with
  | zero => intro x22 x23 x24 x25 S26 h; cases h
  | succ n ih =>
    intro x22 x23 x24 x25 S26 h
    rw [f_X6_fillLosses_L51] at h
    refine ev_iload 53 dX6_fillLosses_51 rfl rfl ?_
    refine ev_aload_n (i := 0) 54 dX6_fillLosses_53 rfl rfl rfl ?_
    refine ev_get (v := .ref 2) 57 dX6_fillLosses_54 dk_81 fl_6_32 (by decide) rfl rfl rfl ?_
    refine ev_get (v := .int (S26.1 2 8)) 60 dX6_fillLosses_57 dk_2 fl_6_51 (by decide) rfl rfl rfl ?_
    refine ev_icmp_ge 101 63 dX6_fillLosses_60 rfl rfl (fun c30 => ?_) (fun c30 => ?_)
    · replace h := rx_if_t c30 h
      exact (hK101 _ _ _ h).fewer (rx_le_s (rx_le_s (rx_le_s (rx_le_s (rx_le_n (rx_le_n rx_le_0))))))
    · replace h := rx_if_f c30 h
      refine ev_aload_n (i := 0) 64 dX6_fillLosses_63 rfl rfl rfl ?_
      refine ev_get (v := .ref 86) 67 dX6_fillLosses_64 dk_81 fl_6_26 (by decide) rfl rfl rfl ?_
      refine ev_iload_n (i := 2) 68 dX6_fillLosses_67 rfl rfl rfl ?_
      refine ev_iconst (v := 4) 69 dX6_fillLosses_68 (by decide) rfl ?_
      refine ev_imul 70 dX6_fillLosses_69 rfl ?_
      refine ev_iload 72 dX6_fillLosses_70 rfl rfl ?_
      refine ev_iadd 73 dX6_fillLosses_72 rfl ?_
      refine ev_aload_n (i := 0) 74 dX6_fillLosses_73 rfl rfl rfl ?_
      refine ev_get (v := .ref 82) 77 dX6_fillLosses_74 dk_81 fl_6_12 (by decide) rfl rfl rfl ?_
      refine ev_iload 79 dX6_fillLosses_77 rfl rfl ?_
      refine ev_aload_n (i := 0) 80 dX6_fillLosses_79 rfl rfl rfl ?_
      refine ev_get (v := .ref 80) 83 dX6_fillLosses_80 dk_81 fl_6_36 (by decide) rfl rfl rfl ?_
      refine ev_aload_n (i := 1) 84 dX6_fillLosses_83 rfl rfl rfl ?_
      refine ev_iload 86 dX6_fillLosses_84 rfl rfl ?_
      refine ev_iload 88 dX6_fillLosses_86 rfl rfl ?_
      obtain ⟨x32, S31, g33, h⟩ := rx_bd_o h
      refine ev_cVi3 91 dX6_fillLosses_88 (em_X7_putRow_32 g33) mm_X7_putRow mv_X7_putRow lk_6_40 dk_80 (by decide) rfl (Nat.le_of_ble_eq_true rfl) (Nat.le_of_ble_eq_true rfl) rfl ?_
      obtain ⟨x35, S34, g36, h⟩ := rx_bd_o h
      refine ev_cVi2 94 dX6_fillLosses_91 (em_X5_changes g36) mm_X5_changes mv_X5_changes lk_6_46 dk_82 (by decide) rfl (Nat.le_of_ble_eq_true rfl) (Nat.le_of_ble_eq_true rfl) rfl ?_
      obtain ⟨g37, h⟩ := rx_gd_o h
      obtain ⟨S38, eS38, h⟩ := rx_let_o h
      refine ex_iast _ 95 dX6_fillLosses_94 dk_86 g37 rfl rfl eS38 ?_
      obtain ⟨x39, ex39, h⟩ := rx_let_o h
      refine ev_iinc (v := x39) (ls' := [some (.ref 81), some (.ref 32), some (.int x22), some (.int x23), some (.int x24), some (.int x39)]) 98 dX6_fillLosses_95 rfl (by rw [ex39]; rfl) (Nat.le_of_ble_eq_true rfl) rfl rfl ?_
      refine ev_goto 51 dX6_fillLosses_98 rfl ?_
      exact (ih _ _ _ _ _ h).fewer (rx_le_s (rx_le_s (rx_le_s (rx_le_s (rx_le_s (rx_le_s rx_le_0))))))

set_option maxHeartbeats 4000000 in
set_option maxRecDepth 20000 in
theorem em_X6_fillLosses_L4 {d N : Nat} {zr : Int32} {zS : rx_S} : ∀ (n : Nat) (x3 : Int32) (x4 : Int32) (S5 : rx_S), f_X6_fillLosses_L4 N n x3 x4 S5 = some (zr, zS) → EV gC (d + 5) mX6_fillLosses 4 [some (.ref 81), some (.ref 32), some (.int x3), some (.int x4), none, none] [] S5 (rx_pi zr zS) := by
  intro n
  induction n with
  | zero => intro x3 x4 S5 h; cases h
  | succ n ih =>
    intro x3 x4 S5 h
    rw [f_X6_fillLosses_L4] at h
    refine ev_iload_n (i := 3) 5 dX6_fillLosses_4 rfl rfl rfl ?_
    refine ev_aload_n (i := 0) 6 dX6_fillLosses_5 rfl rfl rfl ?_
    refine ev_get (v := .ref 2) 9 dX6_fillLosses_6 dk_81 fl_6_32 (by decide) rfl rfl rfl ?_
    refine ev_get (v := .int (S5.1 2 7)) 12 dX6_fillLosses_9 dk_2 fl_6_98 (by decide) rfl rfl rfl ?_
    refine ev_icmp_ge 110 15 dX6_fillLosses_12 rfl rfl (fun c6 => ?_) (fun c6 => ?_)
    · replace h := rx_if_t c6 h
      refine ev_iload_n (i := 2) 111 dX6_fillLosses_110 rfl rfl rfl ?_
      exact ev_ireturn dX6_fillLosses_111 rfl (rx_ret_i h)
    · replace h := rx_if_f c6 h
      refine ev_iload_n (i := 3) 16 dX6_fillLosses_15 rfl rfl rfl ?_
      refine ev_iconst (v := 3) 17 dX6_fillLosses_16 (by decide) rfl ?_
      refine ev_icmp_ge 110 20 dX6_fillLosses_17 rfl rfl (fun c7 => ?_) (fun c7 => ?_)
      · replace h := rx_if_t c7 h
        refine ev_iload_n (i := 2) 111 dX6_fillLosses_110 rfl rfl rfl ?_
        exact ev_ireturn dX6_fillLosses_111 rfl (rx_ret_i h)
      · replace h := rx_if_f c7 h
        refine ev_aload_n (i := 1) 21 dX6_fillLosses_20 rfl rfl rfl ?_
        refine ev_bipush (v := 19) 23 dX6_fillLosses_21 (by decide) rfl ?_
        refine ev_iload_n (i := 3) 24 dX6_fillLosses_23 rfl rfl rfl ?_
        refine ev_iadd 25 dX6_fillLosses_24 rfl ?_
        obtain ⟨g8, h⟩ := rx_gd_o h
        refine ex_iald _ 26 dX6_fillLosses_25 dk_32 g8 rfl rfl ?_
        refine ev_if_ne 104 29 dX6_fillLosses_26 rfl rfl (fun c9 => ?_) (fun c9 => ?_)
        · replace h := rx_if_f c9 h
          obtain ⟨x10, ex10, h⟩ := rx_let_o h
          refine ev_iinc (v := x10) (ls' := [some (.ref 81), some (.ref 32), some (.int x3), some (.int x10), none, none]) 107 dX6_fillLosses_104 rfl (by rw [ex10]; rfl) (Nat.le_of_ble_eq_true rfl) rfl rfl ?_
          refine ev_goto 4 dX6_fillLosses_107 rfl ?_
          exact (ih _ _ _ h).fewer (rx_le_s (rx_le_s (rx_le_s (rx_le_s (rx_le_n (rx_le_n rx_le_0))))))
        · replace h := rx_if_t c9 h
          refine ev_aload_n (i := 0) 30 dX6_fillLosses_29 rfl rfl rfl ?_
          refine ev_get (v := .ref 80) 33 dX6_fillLosses_30 dk_81 fl_6_36 (by decide) rfl rfl rfl ?_
          refine ev_aload_n (i := 1) 34 dX6_fillLosses_33 rfl rfl rfl ?_
          refine ev_aload_n (i := 0) 35 dX6_fillLosses_34 rfl rfl rfl ?_
          refine ev_get (v := .ref 80) 38 dX6_fillLosses_35 dk_81 fl_6_36 (by decide) rfl rfl rfl ?_
          refine ev_aload_n (i := 1) 39 dX6_fillLosses_38 rfl rfl rfl ?_
          refine ev_iload_n (i := 3) 40 dX6_fillLosses_39 rfl rfl rfl ?_
          obtain ⟨x12, S11, g13, h⟩ := rx_bd_o h
          refine ev_cVi2 43 dX6_fillLosses_40 (em_X7_speakerOf_32 g13) mm_X7_speakerOf mv_X7_speakerOf lk_6_101 dk_80 (by decide) rfl (Nat.le_of_ble_eq_true rfl) (Nat.le_of_ble_eq_true rfl) rfl ?_
          obtain ⟨x15, S14, g16, h⟩ := rx_bd_o h
          refine ev_cVi2 46 dX6_fillLosses_43 (em_X7_rowOf_32 g16) mm_X7_rowOf mv_X7_rowOf lk_6_105 dk_80 (by decide) rfl (Nat.le_of_ble_eq_true rfl) (Nat.le_of_ble_eq_true rfl) rfl ?_
          refine ev_istore (ls' := [some (.ref 81), some (.ref 32), some (.int x3), some (.int x4), some (.int x15), none]) 48 dX6_fillLosses_46 (Nat.le_of_ble_eq_true rfl) rfl rfl ?_
          refine ev_iconst (v := 0) 49 dX6_fillLosses_48 (by decide) rfl ?_
          refine ev_istore (ls' := [some (.ref 81), some (.ref 32), some (.int x3), some (.int x4), some (.int x15), some (.int 0)]) 51 dX6_fillLosses_49 (Nat.le_of_ble_eq_true rfl) rfl rfl ?_
          obtain ⟨J101_1, eJ101_1, h⟩ := rx_let_o h
          have hJ101_1 : ∀ (x17 : Int32) (x18 : Int32) (S19 : rx_S), J101_1 x17 x18 S19 = some (zr, zS) → EV gC (d + 5) mX6_fillLosses 101 [some (.ref 81), some (.ref 32), some (.int x17), some (.int x18), none, none] [] S19 (rx_pi zr zS) := by
            intro x17 x18 S19 h
            subst eJ101_1
            obtain ⟨x20, ex20, h⟩ := rx_let_o h
            refine ev_iinc (v := x20) (ls' := [some (.ref 81), some (.ref 32), some (.int x20), some (.int x18), none, none]) 104 dX6_fillLosses_101 rfl (by rw [ex20]; rfl) (Nat.le_of_ble_eq_true rfl) rfl rfl ?_
            obtain ⟨x21, ex21, h⟩ := rx_let_o h
            refine ev_iinc (v := x21) (ls' := [some (.ref 81), some (.ref 32), some (.int x20), some (.int x21), none, none]) 107 dX6_fillLosses_104 rfl (by rw [ex21]; rfl) (Nat.le_of_ble_eq_true rfl) rfl rfl ?_
            refine ev_goto 4 dX6_fillLosses_107 rfl ?_
            exact (ih _ _ _ h).fewer (rx_le_s (rx_le_s (rx_le_s (rx_le_s (rx_le_n (rx_le_n rx_le_0))))))
          exact (em_X6_fillLosses_L51 hJ101_1 _ _ _ _ _ _ h).fewer (rx_le_s (rx_le_s (rx_le_s (rx_le_s (rx_le_s (rx_le_s rx_le_0))))))

set_option maxHeartbeats 4000000 in
set_option maxRecDepth 20000 in
theorem em_X6_fillLosses {d N : Nat} {S0 : rx_S} {zr : Int32} {zS : rx_S} (h : f_X6_fillLosses N S0 = some (zr, zS)) : EM gC (d + 5) mX6_fillLosses [.ref 81, .ref 32] S0 (rx_pi zr zS) := by
  unfold f_X6_fillLosses at h
  show EV gC (d + 5) mX6_fillLosses 0 [some (.ref 81), some (.ref 32), none, none, none, none] [] S0 (rx_pi zr zS)
  refine ev_iconst (v := 0) 1 dX6_fillLosses_0 (by decide) rfl ?_
  refine ev_istore_n (ls' := [some (.ref 81), some (.ref 32), some (.int 0), none, none, none]) 2 dX6_fillLosses_1 rfl (Nat.le_of_ble_eq_true rfl) rfl rfl ?_
  refine ev_iconst (v := 0) 3 dX6_fillLosses_2 (by decide) rfl ?_
  refine ev_istore_n (ls' := [some (.ref 81), some (.ref 32), some (.int 0), some (.int 0), none, none]) 4 dX6_fillLosses_3 rfl (Nat.le_of_ble_eq_true rfl) rfl rfl ?_
  exact (em_X6_fillLosses_L4 _ _ _ _ h).fewer (rx_le_s (rx_le_s (rx_le_s (rx_le_s (rx_le_n (rx_le_n rx_le_0))))))

def f_X6_choose_L7 (N : Nat) : Nat → Int32 → Int32 → rx_S → Option (Unit × rx_S)
  | 0, _, _, _ => none
  | n + 1, x5, x6, S7 => if x6 < 0 then (some ((), S7)) else (rx_let (fun (x9 : Int32) (x10 : Int32) (x11 : Int32) (x12 : Int32) (S13 : rx_S) => rx_gd x11 3 (rx_let (rx_ui S13 87 (Int32.toNatClampNeg x11) x12) (fun S15 => if (S15.1 2 8) ≤ 0 then (rx_let (x10 + (-1)) (fun x17 => f_X6_choose_L7 N n 0 x17 S15)) else (rx_nz (S15.1 2 8) (rx_let (x9 / (S15.1 2 8)) (fun x19 => rx_let (x10 + (-1)) (fun x20 => f_X6_choose_L7 N n x19 x20 S15))))))) (fun J41_1 => if (S7.1 2 8) ≤ 0 then (J41_1 x5 x6 x6 0 S7) else (rx_nz (S7.1 2 8) (J41_1 x5 x6 x6 (rx_rem x5 (S7.1 2 8)) S7))))
def f_X6_choose (N : Nat) (x1 : Int32) (x2 : Int32) (S0 : rx_S) : Option (Unit × rx_S) := rx_let (x2 - 1) (fun x4 => f_X6_choose_L7 N N x1 x4 S0)
set_option maxHeartbeats 4000000 in
set_option maxRecDepth 20000 in
theorem em_X6_choose_L7 {d N : Nat} {zr : Unit} {zS : rx_S} : ∀ (n : Nat) (x5 : Int32) (x6 : Int32) (S7 : rx_S), f_X6_choose_L7 N n x5 x6 S7 = some (zr, zS) → EV gC d mX6_choose 7 [some (.ref 81), none, none, some (.int x5), some (.int x6)] [] S7 (rx_pv zS) := by
  intro n
  induction n with
  | zero => intro x5 x6 S7 h; cases h
  | succ n ih =>
    intro x5 x6 S7 h
    rw [f_X6_choose_L7] at h
    refine ev_iload 9 dX6_choose_7 rfl rfl ?_
    refine ev_if_lt 72 12 dX6_choose_9 rfl rfl (fun c8 => ?_) (fun c8 => ?_)
    · replace h := rx_if_t c8 h
      exact ev_return dX6_choose_72 rfl (rx_ret_v h)
    · replace h := rx_if_f c8 h
      refine ev_aload_n (i := 0) 13 dX6_choose_12 rfl rfl rfl ?_
      refine ev_get (v := .ref 87) 16 dX6_choose_13 dk_81 fl_6_29 (by decide) rfl rfl rfl ?_
      refine ev_iload 18 dX6_choose_16 rfl rfl ?_
      refine ev_aload_n (i := 0) 19 dX6_choose_18 rfl rfl rfl ?_
      refine ev_get (v := .ref 2) 22 dX6_choose_19 dk_81 fl_6_32 (by decide) rfl rfl rfl ?_
      refine ev_get (v := .int (S7.1 2 8)) 25 dX6_choose_22 dk_2 fl_6_51 (by decide) rfl rfl rfl ?_
      obtain ⟨J41_1, eJ41_1, h⟩ := rx_let_o h
      have hJ41_1 : ∀ (x9 : Int32) (x10 : Int32) (x11 : Int32) (x12 : Int32) (S13 : rx_S), J41_1 x9 x10 x11 x12 S13 = some (zr, zS) → EV gC d mX6_choose 41 [some (.ref 81), none, none, some (.int x9), some (.int x10)] [.int x12, .int x11, .ref 87] S13 (rx_pv zS) := by
        intro x9 x10 x11 x12 S13 h
        subst eJ41_1
        obtain ⟨g14, h⟩ := rx_gd_o h
        obtain ⟨S15, eS15, h⟩ := rx_let_o h
        refine ex_iast _ 42 dX6_choose_41 dk_87 g14 rfl rfl eS15 ?_
        refine ev_aload_n (i := 0) 43 dX6_choose_42 rfl rfl rfl ?_
        refine ev_get (v := .ref 2) 46 dX6_choose_43 dk_81 fl_6_32 (by decide) rfl rfl rfl ?_
        refine ev_get (v := .int (S15.1 2 8)) 49 dX6_choose_46 dk_2 fl_6_51 (by decide) rfl rfl rfl ?_
        refine ev_if_le 64 52 dX6_choose_49 rfl rfl (fun c16 => ?_) (fun c16 => ?_)
        · replace h := rx_if_t c16 h
          refine ev_iconst (v := 0) 65 dX6_choose_64 (by decide) rfl ?_
          refine ev_istore_n (ls' := [some (.ref 81), none, none, some (.int 0), some (.int x10)]) 66 dX6_choose_65 rfl (Nat.le_of_ble_eq_true rfl) rfl rfl ?_
          obtain ⟨x17, ex17, h⟩ := rx_let_o h
          refine ev_iinc (v := x17) (ls' := [some (.ref 81), none, none, some (.int 0), some (.int x17)]) 69 dX6_choose_66 rfl (by rw [ex17]; rfl) (Nat.le_of_ble_eq_true rfl) rfl rfl ?_
          refine ev_goto 7 dX6_choose_69 rfl ?_
          exact (ih _ _ _ h).fewer (rx_le_s (rx_le_n (rx_le_n (rx_le_s (rx_le_s rx_le_0)))))
        · replace h := rx_if_f c16 h
          refine ev_iload_n (i := 3) 53 dX6_choose_52 rfl rfl rfl ?_
          refine ev_aload_n (i := 0) 54 dX6_choose_53 rfl rfl rfl ?_
          refine ev_get (v := .ref 2) 57 dX6_choose_54 dk_81 fl_6_32 (by decide) rfl rfl rfl ?_
          refine ev_get (v := .int (S15.1 2 8)) 60 dX6_choose_57 dk_2 fl_6_51 (by decide) rfl rfl rfl ?_
          obtain ⟨g18, h⟩ := rx_nz_o h
          refine ev_idiv 61 dX6_choose_60 g18 rfl ?_
          refine ev_goto 65 dX6_choose_61 rfl ?_
          obtain ⟨x19, ex19, h⟩ := rx_let_o h
          refine ev_nm ex19 ?_
          refine ev_istore_n (ls' := [some (.ref 81), none, none, some (.int x19), some (.int x10)]) 66 dX6_choose_65 rfl (Nat.le_of_ble_eq_true rfl) rfl rfl ?_
          obtain ⟨x20, ex20, h⟩ := rx_let_o h
          refine ev_iinc (v := x20) (ls' := [some (.ref 81), none, none, some (.int x19), some (.int x20)]) 69 dX6_choose_66 rfl (by rw [ex20]; rfl) (Nat.le_of_ble_eq_true rfl) rfl rfl ?_
          refine ev_goto 7 dX6_choose_69 rfl ?_
          exact (ih _ _ _ h).fewer (rx_le_s (rx_le_n (rx_le_n (rx_le_s (rx_le_s rx_le_0)))))
      refine ev_if_le 40 28 dX6_choose_25 rfl rfl (fun c21 => ?_) (fun c21 => ?_)
      · replace h := rx_if_t c21 h
        refine ev_iconst (v := 0) 41 dX6_choose_40 (by decide) rfl ?_
        exact (hJ41_1 _ _ _ _ _ h).fewer (rx_le_s (rx_le_n (rx_le_n (rx_le_s (rx_le_s rx_le_0)))))
      · replace h := rx_if_f c21 h
        refine ev_iload_n (i := 3) 29 dX6_choose_28 rfl rfl rfl ?_
        refine ev_aload_n (i := 0) 30 dX6_choose_29 rfl rfl rfl ?_
        refine ev_get (v := .ref 2) 33 dX6_choose_30 dk_81 fl_6_32 (by decide) rfl rfl rfl ?_
        refine ev_get (v := .int (S7.1 2 8)) 36 dX6_choose_33 dk_2 fl_6_51 (by decide) rfl rfl rfl ?_
        obtain ⟨g22, h⟩ := rx_nz_o h
        refine ev_rem 37 dX6_choose_36 g22 rfl ?_
        refine ev_goto 41 dX6_choose_37 rfl ?_
        exact (hJ41_1 _ _ _ _ _ h).fewer (rx_le_s (rx_le_n (rx_le_n (rx_le_s (rx_le_s rx_le_0)))))

set_option maxHeartbeats 4000000 in
set_option maxRecDepth 20000 in
theorem em_X6_choose {d N : Nat} {x1 : Int32} {x2 : Int32} {S0 : rx_S} {zr : Unit} {zS : rx_S} (h : f_X6_choose N x1 x2 S0 = some (zr, zS)) : EM gC d mX6_choose [.ref 81, .int x1, .int x2] S0 (rx_pv zS) := by
  unfold f_X6_choose at h
  show EV gC d mX6_choose 0 [some (.ref 81), some (.int x1), some (.int x2), none, none] [] S0 (rx_pv zS)
  refine ev_iload_n (i := 1) 1 dX6_choose_0 rfl rfl rfl ?_
  refine ev_istore_n (ls' := [some (.ref 81), some (.int x1), some (.int x2), some (.int x1), none]) 2 dX6_choose_1 rfl (Nat.le_of_ble_eq_true rfl) rfl rfl ?_
  refine ev_iload_n (i := 2) 3 dX6_choose_2 rfl rfl rfl ?_
  refine ev_iconst (v := 1) 4 dX6_choose_3 (by decide) rfl ?_
  refine ev_isub 5 dX6_choose_4 rfl ?_
  obtain ⟨x4, ex4, h⟩ := rx_let_o h
  refine ev_nm ex4 ?_
  refine ev_istore (ls' := [some (.ref 81), some (.int x1), some (.int x2), some (.int x1), some (.int x4)]) 7 dX6_choose_5 (Nat.le_of_ble_eq_true rfl) rfl rfl ?_
  exact (em_X6_choose_L7 _ _ _ _ h).fewer (rx_le_s (rx_le_n (rx_le_n (rx_le_s (rx_le_s rx_le_0)))))

def f_X6_lossOf_L14 (N : Nat) : Nat → Int32 → Int32 → Int32 → Int32 → rx_S → Option (Int32 × rx_S)
  | 0, _, _, _, _, _ => none
  | n + 1, x7, x8, x9, x10, S11 => if x7 ≤ x10 then (some (x9, S11)) else (rx_gd x10 3 (rx_let ((1 : Int32) <<< ((S11.1 87 (Int32.toNatClampNeg x10)) &&& 31)) (fun x14 => if (x8 &&& x14) = 0 then (rx_let (x8 ||| x14) (fun x16 => rx_gd x10 3 (rx_gd ((x10 * 4) + (S11.1 87 (Int32.toNatClampNeg x10))) 12 (rx_let (x9 + (S11.1 86 (Int32.toNatClampNeg ((x10 * 4) + (S11.1 87 (Int32.toNatClampNeg x10)))))) (fun x19 => rx_let (x10 + 1) (fun x20 => f_X6_lossOf_L14 N n x7 x16 x19 x20 S11)))))) else (some (1000000, S11)))))
def f_X6_lossOf (N : Nat) (x1 : Int32) (x2 : Int32) (S0 : rx_S) : Option (Int32 × rx_S) := rx_bd (f_X6_choose N x1 x2 S0) (fun x5 S4 => f_X6_lossOf_L14 N N x2 0 0 0 S4)
set_option maxHeartbeats 4000000 in
set_option maxRecDepth 20000 in
theorem em_X6_lossOf_L14 {d N : Nat} {zr : Int32} {zS : rx_S} : ∀ (n : Nat) (x7 : Int32) (x8 : Int32) (x9 : Int32) (x10 : Int32) (S11 : rx_S), f_X6_lossOf_L14 N n x7 x8 x9 x10 S11 = some (zr, zS) → EV gC (d + 1) mX6_lossOf 14 [some (.ref 81), none, some (.int x7), some (.int x8), some (.int x9), some (.int x10), none] [] S11 (rx_pi zr zS) := by
  intro n
  induction n with
  | zero => intro x7 x8 x9 x10 S11 h; cases h
  | succ n ih =>
    intro x7 x8 x9 x10 S11 h
    rw [f_X6_lossOf_L14] at h
    refine ev_iload 16 dX6_lossOf_14 rfl rfl ?_
    refine ev_iload_n (i := 2) 17 dX6_lossOf_16 rfl rfl rfl ?_
    refine ev_icmp_ge 74 20 dX6_lossOf_17 rfl rfl (fun c12 => ?_) (fun c12 => ?_)
    · replace h := rx_if_t c12 h
      refine ev_iload 76 dX6_lossOf_74 rfl rfl ?_
      exact ev_ireturn dX6_lossOf_76 rfl (rx_ret_i h)
    · replace h := rx_if_f c12 h
      refine ev_iconst (v := 1) 21 dX6_lossOf_20 (by decide) rfl ?_
      refine ev_aload_n (i := 0) 22 dX6_lossOf_21 rfl rfl rfl ?_
      refine ev_get (v := .ref 87) 25 dX6_lossOf_22 dk_81 fl_6_29 (by decide) rfl rfl rfl ?_
      refine ev_iload 27 dX6_lossOf_25 rfl rfl ?_
      obtain ⟨g13, h⟩ := rx_gd_o h
      refine ex_iald _ 28 dX6_lossOf_27 dk_87 g13 rfl rfl ?_
      refine ev_ishl 29 dX6_lossOf_28 rfl ?_
      obtain ⟨x14, ex14, h⟩ := rx_let_o h
      refine ev_nm ex14 ?_
      refine ev_istore (ls' := [some (.ref 81), none, some (.int x7), some (.int x8), some (.int x9), some (.int x10), some (.int x14)]) 31 dX6_lossOf_29 (Nat.le_of_ble_eq_true rfl) rfl rfl ?_
      refine ev_iload_n (i := 3) 32 dX6_lossOf_31 rfl rfl rfl ?_
      refine ev_iload 34 dX6_lossOf_32 rfl rfl ?_
      refine ev_iand 35 dX6_lossOf_34 rfl ?_
      refine ev_if_eq 41 38 dX6_lossOf_35 rfl rfl (fun c15 => ?_) (fun c15 => ?_)
      · replace h := rx_if_t c15 h
        refine ev_iload_n (i := 3) 42 dX6_lossOf_41 rfl rfl rfl ?_
        refine ev_iload 44 dX6_lossOf_42 rfl rfl ?_
        refine ev_ior 45 dX6_lossOf_44 rfl ?_
        obtain ⟨x16, ex16, h⟩ := rx_let_o h
        refine ev_nm ex16 ?_
        refine ev_istore_n (ls' := [some (.ref 81), none, some (.int x7), some (.int x16), some (.int x9), some (.int x10), some (.int x14)]) 46 dX6_lossOf_45 rfl (Nat.le_of_ble_eq_true rfl) rfl rfl ?_
        refine ev_iload 48 dX6_lossOf_46 rfl rfl ?_
        refine ev_aload_n (i := 0) 49 dX6_lossOf_48 rfl rfl rfl ?_
        refine ev_get (v := .ref 86) 52 dX6_lossOf_49 dk_81 fl_6_26 (by decide) rfl rfl rfl ?_
        refine ev_iload 54 dX6_lossOf_52 rfl rfl ?_
        refine ev_iconst (v := 4) 55 dX6_lossOf_54 (by decide) rfl ?_
        refine ev_imul 56 dX6_lossOf_55 rfl ?_
        refine ev_aload_n (i := 0) 57 dX6_lossOf_56 rfl rfl rfl ?_
        refine ev_get (v := .ref 87) 60 dX6_lossOf_57 dk_81 fl_6_29 (by decide) rfl rfl rfl ?_
        refine ev_iload 62 dX6_lossOf_60 rfl rfl ?_
        obtain ⟨g17, h⟩ := rx_gd_o h
        refine ex_iald _ 63 dX6_lossOf_62 dk_87 g17 rfl rfl ?_
        refine ev_iadd 64 dX6_lossOf_63 rfl ?_
        obtain ⟨g18, h⟩ := rx_gd_o h
        refine ex_iald _ 65 dX6_lossOf_64 dk_86 g18 rfl rfl ?_
        refine ev_iadd 66 dX6_lossOf_65 rfl ?_
        obtain ⟨x19, ex19, h⟩ := rx_let_o h
        refine ev_nm ex19 ?_
        refine ev_istore (ls' := [some (.ref 81), none, some (.int x7), some (.int x16), some (.int x19), some (.int x10), some (.int x14)]) 68 dX6_lossOf_66 (Nat.le_of_ble_eq_true rfl) rfl rfl ?_
        obtain ⟨x20, ex20, h⟩ := rx_let_o h
        refine ev_iinc (v := x20) (ls' := [some (.ref 81), none, some (.int x7), some (.int x16), some (.int x19), some (.int x20), some (.int x14)]) 71 dX6_lossOf_68 rfl (by rw [ex20]; rfl) (Nat.le_of_ble_eq_true rfl) rfl rfl ?_
        refine ev_goto 14 dX6_lossOf_71 rfl ?_
        exact (ih _ _ _ _ _ h).fewer (rx_le_s (rx_le_n (rx_le_s (rx_le_s (rx_le_s (rx_le_s (rx_le_n rx_le_0)))))))
      · replace h := rx_if_f c15 h
        refine ev_ldc (v := 1000000) 40 dX6_lossOf_38 rfl ct_6_50 rfl ?_
        exact ev_ireturn dX6_lossOf_40 rfl (rx_ret_i h)

set_option maxHeartbeats 4000000 in
set_option maxRecDepth 20000 in
theorem em_X6_lossOf {d N : Nat} {x1 : Int32} {x2 : Int32} {S0 : rx_S} {zr : Int32} {zS : rx_S} (h : f_X6_lossOf N x1 x2 S0 = some (zr, zS)) : EM gC (d + 1) mX6_lossOf [.ref 81, .int x1, .int x2] S0 (rx_pi zr zS) := by
  unfold f_X6_lossOf at h
  show EV gC (d + 1) mX6_lossOf 0 [some (.ref 81), some (.int x1), some (.int x2), none, none, none, none] [] S0 (rx_pi zr zS)
  refine ev_aload_n (i := 0) 1 dX6_lossOf_0 rfl rfl rfl ?_
  refine ev_iload_n (i := 1) 2 dX6_lossOf_1 rfl rfl rfl ?_
  refine ev_iload_n (i := 2) 3 dX6_lossOf_2 rfl rfl rfl ?_
  obtain ⟨x5, S4, g6, h⟩ := rx_bd_o h
  refine ev_cVv2 6 dX6_lossOf_3 (em_X6_choose g6) mm_X6_choose mv_X6_choose lk_6_108 dk_81 (by decide) rfl (Nat.le_of_ble_eq_true rfl) (Nat.le_of_ble_eq_true rfl) rfl ?_
  refine ev_iconst (v := 0) 7 dX6_lossOf_6 (by decide) rfl ?_
  refine ev_istore_n (ls' := [some (.ref 81), some (.int x1), some (.int x2), some (.int 0), none, none, none]) 8 dX6_lossOf_7 rfl (Nat.le_of_ble_eq_true rfl) rfl rfl ?_
  refine ev_iconst (v := 0) 9 dX6_lossOf_8 (by decide) rfl ?_
  refine ev_istore (ls' := [some (.ref 81), some (.int x1), some (.int x2), some (.int 0), some (.int 0), none, none]) 11 dX6_lossOf_9 (Nat.le_of_ble_eq_true rfl) rfl rfl ?_
  refine ev_iconst (v := 0) 12 dX6_lossOf_11 (by decide) rfl ?_
  refine ev_istore (ls' := [some (.ref 81), some (.int x1), some (.int x2), some (.int 0), some (.int 0), some (.int 0), none]) 14 dX6_lossOf_12 (Nat.le_of_ble_eq_true rfl) rfl rfl ?_
  exact (em_X6_lossOf_L14 _ _ _ _ _ _ h).fewer (rx_le_s (rx_le_n (rx_le_s (rx_le_s (rx_le_s (rx_le_s (rx_le_n rx_le_0)))))))

def f_X6_thirdFor_L25 (N : Nat) (K57 : Int32 → Int32 → rx_S → Option (Int32 × rx_S)) : Nat → Int32 → Int32 → Int32 → Int32 → rx_S → Option (Int32 × rx_S)
  | 0, _, _, _, _, _ => none
  | n + 1, x16, x17, x18, x19, S20 => if x16 ≤ x19 then (K57 x17 x18 S20) else (rx_gd ((19 : Int32) + x19) 48 (if (S20.1 32 (Int32.toNatClampNeg ((19 : Int32) + x19))) = 0 then (rx_let (x18 + 1) (fun x29 => rx_let (x19 + 1) (fun x30 => f_X6_thirdFor_L25 N K57 n x16 x17 x29 x30 S20))) else (rx_let (x18 + 0) (fun x27 => rx_let (x19 + 1) (fun x28 => f_X6_thirdFor_L25 N K57 n x16 x17 x27 x28 S20)))))
def f_X6_thirdFor (N : Nat) (x2 : Int32) (x3 : Int32) (x4 : Int32) (S0 : rx_S) : Option (Int32 × rx_S) := rx_gd ((19 : Int32) + x2) 48 (if (S0.1 32 (Int32.toNatClampNeg ((19 : Int32) + x2))) = 0 then (rx_bd (f_X6_choose N x3 x4 S0) (fun x9 S8 => rx_let (fun (x11 : Int32) (x12 : Int32) (S13 : rx_S) => if x11 ≤ x12 then (some ((-2), S13)) else (rx_gd x12 3 (some ((S13.1 87 (Int32.toNatClampNeg x12)), S13)))) (fun J57_1 => f_X6_thirdFor_L25 N J57_1 N x2 x4 0 0 S8))) else (some ((-2), S0)))
set_option maxHeartbeats 4000000 in
set_option maxRecDepth 20000 in
theorem em_X6_thirdFor_L25 {d N : Nat} {K57 : Int32 → Int32 → rx_S → Option (Int32 × rx_S)} {zr : Int32} {zS : rx_S} (hK57 : ∀ (x21 : Int32) (x22 : Int32) (S23 : rx_S), K57 x21 x22 S23 = some (zr, zS) → EV gC (d + 1) mX6_thirdFor 57 [some (.ref 81), some (.ref 32), none, none, some (.int x21), some (.int x22), none] [] S23 (rx_pi zr zS)) : ∀ (n : Nat) (x16 : Int32) (x17 : Int32) (x18 : Int32) (x19 : Int32) (S20 : rx_S), f_X6_thirdFor_L25 N K57 n x16 x17 x18 x19 S20 = some (zr, zS) → EV gC (d + 1) mX6_thirdFor 25 [some (.ref 81), some (.ref 32), some (.int x16), none, some (.int x17), some (.int x18), some (.int x19)] [] S20 (rx_pi zr zS) := by
  intro n
  induction n with
  | zero => intro x16 x17 x18 x19 S20 h; cases h
  | succ n ih =>
    intro x16 x17 x18 x19 S20 h
    rw [f_X6_thirdFor_L25] at h
    refine ev_iload 27 dX6_thirdFor_25 rfl rfl ?_
    refine ev_iload_n (i := 2) 28 dX6_thirdFor_27 rfl rfl rfl ?_
    refine ev_icmp_ge 57 31 dX6_thirdFor_28 rfl rfl (fun c24 => ?_) (fun c24 => ?_)
    · replace h := rx_if_t c24 h
      exact (hK57 _ _ _ h).fewer (rx_le_s (rx_le_s (rx_le_n (rx_le_n (rx_le_s (rx_le_s (rx_le_n rx_le_0)))))))
    · replace h := rx_if_f c24 h
      refine ev_iload 33 dX6_thirdFor_31 rfl rfl ?_
      refine ev_aload_n (i := 1) 34 dX6_thirdFor_33 rfl rfl rfl ?_
      refine ev_bipush (v := 19) 36 dX6_thirdFor_34 (by decide) rfl ?_
      refine ev_iload 38 dX6_thirdFor_36 rfl rfl ?_
      refine ev_iadd 39 dX6_thirdFor_38 rfl ?_
      obtain ⟨g25, h⟩ := rx_gd_o h
      refine ex_iald _ 40 dX6_thirdFor_39 dk_32 g25 rfl rfl ?_
      refine ev_if_ne 47 43 dX6_thirdFor_40 rfl rfl (fun c26 => ?_) (fun c26 => ?_)
      · replace h := rx_if_f c26 h
        refine ev_iconst (v := 0) 48 dX6_thirdFor_47 (by decide) rfl ?_
        refine ev_iadd 49 dX6_thirdFor_48 rfl ?_
        obtain ⟨x27, ex27, h⟩ := rx_let_o h
        refine ev_nm ex27 ?_
        refine ev_istore (ls' := [some (.ref 81), some (.ref 32), some (.int x16), none, some (.int x17), some (.int x27), some (.int x19)]) 51 dX6_thirdFor_49 (Nat.le_of_ble_eq_true rfl) rfl rfl ?_
        obtain ⟨x28, ex28, h⟩ := rx_let_o h
        refine ev_iinc (v := x28) (ls' := [some (.ref 81), some (.ref 32), some (.int x16), none, some (.int x17), some (.int x27), some (.int x28)]) 54 dX6_thirdFor_51 rfl (by rw [ex28]; rfl) (Nat.le_of_ble_eq_true rfl) rfl rfl ?_
        refine ev_goto 25 dX6_thirdFor_54 rfl ?_
        exact (ih _ _ _ _ _ h).fewer (rx_le_s (rx_le_s (rx_le_s (rx_le_n (rx_le_s (rx_le_s (rx_le_s rx_le_0)))))))
      · replace h := rx_if_t c26 h
        refine ev_iconst (v := 1) 44 dX6_thirdFor_43 (by decide) rfl ?_
        refine ev_goto 48 dX6_thirdFor_44 rfl ?_
        refine ev_iadd 49 dX6_thirdFor_48 rfl ?_
        obtain ⟨x29, ex29, h⟩ := rx_let_o h
        refine ev_nm ex29 ?_
        refine ev_istore (ls' := [some (.ref 81), some (.ref 32), some (.int x16), none, some (.int x17), some (.int x29), some (.int x19)]) 51 dX6_thirdFor_49 (Nat.le_of_ble_eq_true rfl) rfl rfl ?_
        obtain ⟨x30, ex30, h⟩ := rx_let_o h
        refine ev_iinc (v := x30) (ls' := [some (.ref 81), some (.ref 32), some (.int x16), none, some (.int x17), some (.int x29), some (.int x30)]) 54 dX6_thirdFor_51 rfl (by rw [ex30]; rfl) (Nat.le_of_ble_eq_true rfl) rfl rfl ?_
        refine ev_goto 25 dX6_thirdFor_54 rfl ?_
        exact (ih _ _ _ _ _ h).fewer (rx_le_s (rx_le_s (rx_le_s (rx_le_n (rx_le_s (rx_le_s (rx_le_s rx_le_0)))))))

set_option maxHeartbeats 4000000 in
set_option maxRecDepth 20000 in
theorem em_X6_thirdFor {d N : Nat} {x2 : Int32} {x3 : Int32} {x4 : Int32} {S0 : rx_S} {zr : Int32} {zS : rx_S} (h : f_X6_thirdFor N x2 x3 x4 S0 = some (zr, zS)) : EM gC (d + 1) mX6_thirdFor [.ref 81, .ref 32, .int x2, .int x3, .int x4] S0 (rx_pi zr zS) := by
  unfold f_X6_thirdFor at h
  show EV gC (d + 1) mX6_thirdFor 0 [some (.ref 81), some (.ref 32), some (.int x2), some (.int x3), some (.int x4), none, none] [] S0 (rx_pi zr zS)
  refine ev_aload_n (i := 1) 1 dX6_thirdFor_0 rfl rfl rfl ?_
  refine ev_bipush (v := 19) 3 dX6_thirdFor_1 (by decide) rfl ?_
  refine ev_iload_n (i := 2) 4 dX6_thirdFor_3 rfl rfl rfl ?_
  refine ev_iadd 5 dX6_thirdFor_4 rfl ?_
  obtain ⟨g6, h⟩ := rx_gd_o h
  refine ex_iald _ 6 dX6_thirdFor_5 dk_32 g6 rfl rfl ?_
  refine ev_if_eq 12 9 dX6_thirdFor_6 rfl rfl (fun c7 => ?_) (fun c7 => ?_)
  · replace h := rx_if_t c7 h
    refine ev_aload_n (i := 0) 13 dX6_thirdFor_12 rfl rfl rfl ?_
    refine ev_iload_n (i := 3) 14 dX6_thirdFor_13 rfl rfl rfl ?_
    refine ev_iload 16 dX6_thirdFor_14 rfl rfl ?_
    obtain ⟨x9, S8, g10, h⟩ := rx_bd_o h
    refine ev_cVv2 19 dX6_thirdFor_16 (em_X6_choose g10) mm_X6_choose mv_X6_choose lk_6_108 dk_81 (by decide) rfl (Nat.le_of_ble_eq_true rfl) (Nat.le_of_ble_eq_true rfl) rfl ?_
    refine ev_iconst (v := 0) 20 dX6_thirdFor_19 (by decide) rfl ?_
    refine ev_istore (ls' := [some (.ref 81), some (.ref 32), some (.int x2), some (.int x3), some (.int x4), some (.int 0), none]) 22 dX6_thirdFor_20 (Nat.le_of_ble_eq_true rfl) rfl rfl ?_
    refine ev_iconst (v := 0) 23 dX6_thirdFor_22 (by decide) rfl ?_
    refine ev_istore (ls' := [some (.ref 81), some (.ref 32), some (.int x2), some (.int x3), some (.int x4), some (.int 0), some (.int 0)]) 25 dX6_thirdFor_23 (Nat.le_of_ble_eq_true rfl) rfl rfl ?_
    obtain ⟨J57_1, eJ57_1, h⟩ := rx_let_o h
    have hJ57_1 : ∀ (x11 : Int32) (x12 : Int32) (S13 : rx_S), J57_1 x11 x12 S13 = some (zr, zS) → EV gC (d + 1) mX6_thirdFor 57 [some (.ref 81), some (.ref 32), none, none, some (.int x11), some (.int x12), none] [] S13 (rx_pi zr zS) := by
      intro x11 x12 S13 h
      subst eJ57_1
      refine ev_iload 59 dX6_thirdFor_57 rfl rfl ?_
      refine ev_iload 61 dX6_thirdFor_59 rfl rfl ?_
      refine ev_icmp_ge 74 64 dX6_thirdFor_61 rfl rfl (fun c14 => ?_) (fun c14 => ?_)
      · replace h := rx_if_t c14 h
        refine ev_bipush (v := (-2)) 76 dX6_thirdFor_74 (by decide) rfl ?_
        exact ev_ireturn dX6_thirdFor_76 rfl (rx_ret_i h)
      · replace h := rx_if_f c14 h
        refine ev_aload_n (i := 0) 65 dX6_thirdFor_64 rfl rfl rfl ?_
        refine ev_get (v := .ref 87) 68 dX6_thirdFor_65 dk_81 fl_6_29 (by decide) rfl rfl rfl ?_
        refine ev_iload 70 dX6_thirdFor_68 rfl rfl ?_
        obtain ⟨g15, h⟩ := rx_gd_o h
        refine ex_iald _ 71 dX6_thirdFor_70 dk_87 g15 rfl rfl ?_
        refine ev_goto 76 dX6_thirdFor_71 rfl ?_
        exact ev_ireturn dX6_thirdFor_76 rfl (rx_ret_i h)
    exact (em_X6_thirdFor_L25 hJ57_1 _ _ _ _ _ _ h).fewer (rx_le_s (rx_le_s (rx_le_s (rx_le_n (rx_le_s (rx_le_s (rx_le_s rx_le_0)))))))
  · replace h := rx_if_f c7 h
    refine ev_bipush (v := (-2)) 11 dX6_thirdFor_9 (by decide) rfl ?_
    exact ev_ireturn dX6_thirdFor_11 rfl (rx_ret_i h)

def f_X6_bestHire_L60 (N : Nat) (K97 : Int32 → Int32 → Int32 → Int32 → rx_S → Option (Int32 × rx_S)) : Nat → Int32 → Int32 → Int32 → Int32 → Int32 → Int32 → rx_S → Option (Int32 × rx_S)
  | 0, _, _, _, _, _, _, _ => none
  | n + 1, x21, x22, x23, x24, x25, x26, S27 => if x23 ≤ x26 then (K97 x21 x22 x24 x25 S27) else (rx_bd (f_X6_lossOf N x26 x22 S27) (fun x35 S34 => if x25 ≤ x35 then (rx_let (x26 + 1) (fun x38 => f_X6_bestHire_L60 N K97 n x21 x22 x23 x24 x25 x38 S34)) else (rx_let (x26 + 1) (fun x39 => f_X6_bestHire_L60 N K97 n x21 x22 x23 x26 x35 x39 S34))))
def f_X6_bestHire_L26 (N : Nat) (K50 : Int32 → Int32 → Int32 → rx_S → Option (Int32 × rx_S)) : Nat → Int32 → Int32 → Int32 → Int32 → rx_S → Option (Int32 × rx_S)
  | 0, _, _, _, _, _ => none
  | n + 1, x40, x41, x42, x43, S44 => if x41 ≤ x43 then (K50 x40 x41 x42 S44) else (rx_let (x42 * (S44.1 2 8)) (fun x50 => rx_let (x43 + 1) (fun x51 => f_X6_bestHire_L26 N K50 n x40 x41 x50 x51 S44)))
def f_X6_bestHire (N : Nat) (x2 : Int32) (S0 : rx_S) : Option (Int32 × rx_S) := rx_bd (f_X6_fillLosses N S0) (fun x5 S4 => if x5 ≤ (S4.1 2 8) then (rx_let (fun (x8 : Int32) (x9 : Int32) (x10 : Int32) (S11 : rx_S) => rx_let (fun (x12 : Int32) (x13 : Int32) (x14 : Int32) (x15 : Int32) (S16 : rx_S) => if x12 = (-1) then (some (x15, S16)) else (rx_bd (f_X6_thirdFor N x12 x14 x13 S16) (fun x19 S18 => some (x19, S18)))) (fun J97_2 => f_X6_bestHire_L60 N J97_2 N x8 x9 x10 0 1000000 0 S11)) (fun J50_1 => f_X6_bestHire_L26 N J50_1 N x2 x5 1 0 S4)) else (some ((-2), S4)))
set_option maxHeartbeats 4000000 in
set_option maxRecDepth 20000 in
theorem em_X6_bestHire_L60 {d N : Nat} {K97 : Int32 → Int32 → Int32 → Int32 → rx_S → Option (Int32 × rx_S)} {zr : Int32} {zS : rx_S} (hK97 : ∀ (x28 : Int32) (x29 : Int32) (x30 : Int32) (x31 : Int32) (S32 : rx_S), K97 x28 x29 x30 x31 S32 = some (zr, zS) → EV gC (d + 6) mX6_bestHire 97 [some (.ref 81), some (.ref 32), some (.int x28), some (.int x29), none, some (.int x30), some (.int x31), none, none] [] S32 (rx_pi zr zS)) : ∀ (n : Nat) (x21 : Int32) (x22 : Int32) (x23 : Int32) (x24 : Int32) (x25 : Int32) (x26 : Int32) (S27 : rx_S), f_X6_bestHire_L60 N K97 n x21 x22 x23 x24 x25 x26 S27 = some (zr, zS) → EV gC (d + 6) mX6_bestHire 60 [some (.ref 81), some (.ref 32), some (.int x21), some (.int x22), some (.int x23), some (.int x24), some (.int x25), some (.int x26), none] [] S27 (rx_pi zr zS) := by
  intro n
  induction n with
  | zero => intro x21 x22 x23 x24 x25 x26 S27 h; cases h
  | succ n ih =>
    intro x21 x22 x23 x24 x25 x26 S27 h
    rw [f_X6_bestHire_L60] at h
    refine ev_iload 62 dX6_bestHire_60 rfl rfl ?_
    refine ev_iload 64 dX6_bestHire_62 rfl rfl ?_
    refine ev_icmp_ge 97 67 dX6_bestHire_64 rfl rfl (fun c33 => ?_) (fun c33 => ?_)
    · replace h := rx_if_t c33 h
      exact (hK97 _ _ _ _ _ h).fewer (rx_le_s (rx_le_s (rx_le_s (rx_le_s (rx_le_n (rx_le_s (rx_le_s (rx_le_n (rx_le_n rx_le_0)))))))))
    · replace h := rx_if_f c33 h
      refine ev_aload_n (i := 0) 68 dX6_bestHire_67 rfl rfl rfl ?_
      refine ev_iload 70 dX6_bestHire_68 rfl rfl ?_
      refine ev_iload_n (i := 3) 71 dX6_bestHire_70 rfl rfl rfl ?_
      obtain ⟨x35, S34, g36, h⟩ := rx_bd_o h
      refine ev_cVi2 74 dX6_bestHire_71 (em_X6_lossOf g36) mm_X6_lossOf mv_X6_lossOf lk_6_92 dk_81 (by decide) rfl (Nat.le_of_ble_eq_true rfl) (Nat.le_of_ble_eq_true rfl) rfl ?_
      refine ev_istore (ls' := [some (.ref 81), some (.ref 32), some (.int x21), some (.int x22), some (.int x23), some (.int x24), some (.int x25), some (.int x26), some (.int x35)]) 76 dX6_bestHire_74 (Nat.le_of_ble_eq_true rfl) rfl rfl ?_
      refine ev_iload 78 dX6_bestHire_76 rfl rfl ?_
      refine ev_iload 80 dX6_bestHire_78 rfl rfl ?_
      refine ev_icmp_ge 91 83 dX6_bestHire_80 rfl rfl (fun c37 => ?_) (fun c37 => ?_)
      · replace h := rx_if_t c37 h
        obtain ⟨x38, ex38, h⟩ := rx_let_o h
        refine ev_iinc (v := x38) (ls' := [some (.ref 81), some (.ref 32), some (.int x21), some (.int x22), some (.int x23), some (.int x24), some (.int x25), some (.int x38), some (.int x35)]) 94 dX6_bestHire_91 rfl (by rw [ex38]; rfl) (Nat.le_of_ble_eq_true rfl) rfl rfl ?_
        refine ev_goto 60 dX6_bestHire_94 rfl ?_
        exact (ih _ _ _ _ _ _ _ h).fewer (rx_le_s (rx_le_s (rx_le_s (rx_le_s (rx_le_s (rx_le_s (rx_le_s (rx_le_s (rx_le_n rx_le_0)))))))))
      · replace h := rx_if_f c37 h
        refine ev_iload 85 dX6_bestHire_83 rfl rfl ?_
        refine ev_istore (ls' := [some (.ref 81), some (.ref 32), some (.int x21), some (.int x22), some (.int x23), some (.int x24), some (.int x35), some (.int x26), some (.int x35)]) 87 dX6_bestHire_85 (Nat.le_of_ble_eq_true rfl) rfl rfl ?_
        refine ev_iload 89 dX6_bestHire_87 rfl rfl ?_
        refine ev_istore (ls' := [some (.ref 81), some (.ref 32), some (.int x21), some (.int x22), some (.int x23), some (.int x26), some (.int x35), some (.int x26), some (.int x35)]) 91 dX6_bestHire_89 (Nat.le_of_ble_eq_true rfl) rfl rfl ?_
        obtain ⟨x39, ex39, h⟩ := rx_let_o h
        refine ev_iinc (v := x39) (ls' := [some (.ref 81), some (.ref 32), some (.int x21), some (.int x22), some (.int x23), some (.int x26), some (.int x35), some (.int x39), some (.int x35)]) 94 dX6_bestHire_91 rfl (by rw [ex39]; rfl) (Nat.le_of_ble_eq_true rfl) rfl rfl ?_
        refine ev_goto 60 dX6_bestHire_94 rfl ?_
        exact (ih _ _ _ _ _ _ _ h).fewer (rx_le_s (rx_le_s (rx_le_s (rx_le_s (rx_le_s (rx_le_s (rx_le_s (rx_le_s (rx_le_n rx_le_0)))))))))

set_option maxHeartbeats 4000000 in
set_option maxRecDepth 20000 in
theorem em_X6_bestHire_L26 {d N : Nat} {K50 : Int32 → Int32 → Int32 → rx_S → Option (Int32 × rx_S)} {zr : Int32} {zS : rx_S} (hK50 : ∀ (x45 : Int32) (x46 : Int32) (x47 : Int32) (S48 : rx_S), K50 x45 x46 x47 S48 = some (zr, zS) → EV gC (d + 6) mX6_bestHire 50 [some (.ref 81), some (.ref 32), some (.int x45), some (.int x46), some (.int x47), none, none, none, none] [] S48 (rx_pi zr zS)) : ∀ (n : Nat) (x40 : Int32) (x41 : Int32) (x42 : Int32) (x43 : Int32) (S44 : rx_S), f_X6_bestHire_L26 N K50 n x40 x41 x42 x43 S44 = some (zr, zS) → EV gC (d + 6) mX6_bestHire 26 [some (.ref 81), some (.ref 32), some (.int x40), some (.int x41), some (.int x42), some (.int x43), none, none, none] [] S44 (rx_pi zr zS) := by
  intro n
  induction n with
  | zero => intro x40 x41 x42 x43 S44 h; cases h
  | succ n ih =>
    intro x40 x41 x42 x43 S44 h
    rw [f_X6_bestHire_L26] at h
    refine ev_iload 28 dX6_bestHire_26 rfl rfl ?_
    refine ev_iload_n (i := 3) 29 dX6_bestHire_28 rfl rfl rfl ?_
    refine ev_icmp_ge 50 32 dX6_bestHire_29 rfl rfl (fun c49 => ?_) (fun c49 => ?_)
    · replace h := rx_if_t c49 h
      exact (hK50 _ _ _ _ h).fewer (rx_le_s (rx_le_s (rx_le_s (rx_le_s (rx_le_s (rx_le_n (rx_le_n (rx_le_n (rx_le_n rx_le_0)))))))))
    · replace h := rx_if_f c49 h
      refine ev_iload 34 dX6_bestHire_32 rfl rfl ?_
      refine ev_aload_n (i := 0) 35 dX6_bestHire_34 rfl rfl rfl ?_
      refine ev_get (v := .ref 2) 38 dX6_bestHire_35 dk_81 fl_6_32 (by decide) rfl rfl rfl ?_
      refine ev_get (v := .int (S44.1 2 8)) 41 dX6_bestHire_38 dk_2 fl_6_51 (by decide) rfl rfl rfl ?_
      refine ev_imul 42 dX6_bestHire_41 rfl ?_
      obtain ⟨x50, ex50, h⟩ := rx_let_o h
      refine ev_nm ex50 ?_
      refine ev_istore (ls' := [some (.ref 81), some (.ref 32), some (.int x40), some (.int x41), some (.int x50), some (.int x43), none, none, none]) 44 dX6_bestHire_42 (Nat.le_of_ble_eq_true rfl) rfl rfl ?_
      obtain ⟨x51, ex51, h⟩ := rx_let_o h
      refine ev_iinc (v := x51) (ls' := [some (.ref 81), some (.ref 32), some (.int x40), some (.int x41), some (.int x50), some (.int x51), none, none, none]) 47 dX6_bestHire_44 rfl (by rw [ex51]; rfl) (Nat.le_of_ble_eq_true rfl) rfl rfl ?_
      refine ev_goto 26 dX6_bestHire_47 rfl ?_
      exact (ih _ _ _ _ _ h).fewer (rx_le_s (rx_le_s (rx_le_s (rx_le_s (rx_le_s (rx_le_s (rx_le_n (rx_le_n (rx_le_n rx_le_0)))))))))

set_option maxHeartbeats 4000000 in
set_option maxRecDepth 20000 in
theorem em_X6_bestHire {d N : Nat} {x2 : Int32} {S0 : rx_S} {zr : Int32} {zS : rx_S} (h : f_X6_bestHire N x2 S0 = some (zr, zS)) : EM gC (d + 6) mX6_bestHire [.ref 81, .ref 32, .int x2] S0 (rx_pi zr zS) := by
  unfold f_X6_bestHire at h
  show EV gC (d + 6) mX6_bestHire 0 [some (.ref 81), some (.ref 32), some (.int x2), none, none, none, none, none, none] [] S0 (rx_pi zr zS)
  refine ev_aload_n (i := 0) 1 dX6_bestHire_0 rfl rfl rfl ?_
  refine ev_aload_n (i := 1) 2 dX6_bestHire_1 rfl rfl rfl ?_
  obtain ⟨x5, S4, g6, h⟩ := rx_bd_o h
  refine ev_cVi1 5 dX6_bestHire_2 (em_X6_fillLosses g6) mm_X6_fillLosses mv_X6_fillLosses lk_6_88 dk_81 (by decide) rfl (Nat.le_of_ble_eq_true rfl) (Nat.le_of_ble_eq_true rfl) rfl ?_
  refine ev_istore_n (ls' := [some (.ref 81), some (.ref 32), some (.int x2), some (.int x5), none, none, none, none, none]) 6 dX6_bestHire_5 rfl (Nat.le_of_ble_eq_true rfl) rfl rfl ?_
  refine ev_iload_n (i := 3) 7 dX6_bestHire_6 rfl rfl rfl ?_
  refine ev_aload_n (i := 0) 8 dX6_bestHire_7 rfl rfl rfl ?_
  refine ev_get (v := .ref 2) 11 dX6_bestHire_8 dk_81 fl_6_32 (by decide) rfl rfl rfl ?_
  refine ev_get (v := .int (S4.1 2 8)) 14 dX6_bestHire_11 dk_2 fl_6_51 (by decide) rfl rfl rfl ?_
  refine ev_icmp_le 20 17 dX6_bestHire_14 rfl rfl (fun c7 => ?_) (fun c7 => ?_)
  · replace h := rx_if_t c7 h
    refine ev_iconst (v := 1) 21 dX6_bestHire_20 (by decide) rfl ?_
    refine ev_istore (ls' := [some (.ref 81), some (.ref 32), some (.int x2), some (.int x5), some (.int 1), none, none, none, none]) 23 dX6_bestHire_21 (Nat.le_of_ble_eq_true rfl) rfl rfl ?_
    refine ev_iconst (v := 0) 24 dX6_bestHire_23 (by decide) rfl ?_
    refine ev_istore (ls' := [some (.ref 81), some (.ref 32), some (.int x2), some (.int x5), some (.int 1), some (.int 0), none, none, none]) 26 dX6_bestHire_24 (Nat.le_of_ble_eq_true rfl) rfl rfl ?_
    obtain ⟨J50_1, eJ50_1, h⟩ := rx_let_o h
    have hJ50_1 : ∀ (x8 : Int32) (x9 : Int32) (x10 : Int32) (S11 : rx_S), J50_1 x8 x9 x10 S11 = some (zr, zS) → EV gC (d + 6) mX6_bestHire 50 [some (.ref 81), some (.ref 32), some (.int x8), some (.int x9), some (.int x10), none, none, none, none] [] S11 (rx_pi zr zS) := by
      intro x8 x9 x10 S11 h
      subst eJ50_1
      refine ev_iconst (v := 0) 51 dX6_bestHire_50 (by decide) rfl ?_
      refine ev_istore (ls' := [some (.ref 81), some (.ref 32), some (.int x8), some (.int x9), some (.int x10), some (.int 0), none, none, none]) 53 dX6_bestHire_51 (Nat.le_of_ble_eq_true rfl) rfl rfl ?_
      refine ev_ldc (v := 1000000) 55 dX6_bestHire_53 rfl ct_6_50 rfl ?_
      refine ev_istore (ls' := [some (.ref 81), some (.ref 32), some (.int x8), some (.int x9), some (.int x10), some (.int 0), some (.int 1000000), none, none]) 57 dX6_bestHire_55 (Nat.le_of_ble_eq_true rfl) rfl rfl ?_
      refine ev_iconst (v := 0) 58 dX6_bestHire_57 (by decide) rfl ?_
      refine ev_istore (ls' := [some (.ref 81), some (.ref 32), some (.int x8), some (.int x9), some (.int x10), some (.int 0), some (.int 1000000), some (.int 0), none]) 60 dX6_bestHire_58 (Nat.le_of_ble_eq_true rfl) rfl rfl ?_
      obtain ⟨J97_2, eJ97_2, h⟩ := rx_let_o h
      have hJ97_2 : ∀ (x12 : Int32) (x13 : Int32) (x14 : Int32) (x15 : Int32) (S16 : rx_S), J97_2 x12 x13 x14 x15 S16 = some (zr, zS) → EV gC (d + 6) mX6_bestHire 97 [some (.ref 81), some (.ref 32), some (.int x12), some (.int x13), none, some (.int x14), some (.int x15), none, none] [] S16 (rx_pi zr zS) := by
        intro x12 x13 x14 x15 S16 h
        subst eJ97_2
        refine ev_iload_n (i := 2) 98 dX6_bestHire_97 rfl rfl rfl ?_
        refine ev_iconst (v := (-1)) 99 dX6_bestHire_98 (by decide) rfl ?_
        refine ev_icmp_ne 107 102 dX6_bestHire_99 rfl rfl (fun c17 => ?_) (fun c17 => ?_)
        · replace h := rx_if_f c17 h
          refine ev_aload_n (i := 0) 108 dX6_bestHire_107 rfl rfl rfl ?_
          refine ev_aload_n (i := 1) 109 dX6_bestHire_108 rfl rfl rfl ?_
          refine ev_iload_n (i := 2) 110 dX6_bestHire_109 rfl rfl rfl ?_
          refine ev_iload 112 dX6_bestHire_110 rfl rfl ?_
          refine ev_iload_n (i := 3) 113 dX6_bestHire_112 rfl rfl rfl ?_
          obtain ⟨x19, S18, g20, h⟩ := rx_bd_o h
          refine ev_cVi4 116 dX6_bestHire_113 (em_X6_thirdFor g20) mm_X6_thirdFor mv_X6_thirdFor lk_6_95 dk_81 (by decide) rfl (Nat.le_of_ble_eq_true rfl) (Nat.le_of_ble_eq_true rfl) rfl ?_
          exact ev_ireturn dX6_bestHire_116 rfl (rx_ret_i h)
        · replace h := rx_if_t c17 h
          refine ev_iload 104 dX6_bestHire_102 rfl rfl ?_
          refine ev_goto 116 dX6_bestHire_104 rfl ?_
          exact ev_ireturn dX6_bestHire_116 rfl (rx_ret_i h)
      exact (em_X6_bestHire_L60 hJ97_2 _ _ _ _ _ _ _ _ h).fewer (rx_le_s (rx_le_s (rx_le_s (rx_le_s (rx_le_s (rx_le_s (rx_le_s (rx_le_s (rx_le_n rx_le_0)))))))))
    exact (em_X6_bestHire_L26 hJ50_1 _ _ _ _ _ _ h).fewer (rx_le_s (rx_le_s (rx_le_s (rx_le_s (rx_le_s (rx_le_s (rx_le_n (rx_le_n (rx_le_n rx_le_0)))))))))
  · replace h := rx_if_f c7 h
    refine ev_bipush (v := (-2)) 19 dX6_bestHire_17 (by decide) rfl ?_
    exact ev_ireturn dX6_bestHire_19 rfl (rx_ret_i h)

def f_X8_clear (k : Nat) (N : Nat) (S0 : rx_S) : Option (Unit × rx_S) := rx_bd (f_X2_clear (k + 1) N S0) (fun x3 S2 => rx_let (rx_ui S2 k 6 0) (fun S5 => rx_let (rx_ui S5 k 7 0) (fun S6 => rx_let (rx_ui S6 k 8 0) (fun S7 => rx_let (rx_ui S7 k 9 10) (fun S8 => rx_let (rx_ui S8 k 10 0) (fun S9 => some ((), S9)))))))
set_option maxHeartbeats 4000000 in
set_option maxRecDepth 20000 in
theorem em_X8_clear_2 {d N : Nat} {S0 : rx_S} {zr : Unit} {zS : rx_S} (h : f_X8_clear 2 N S0 = some (zr, zS)) : EM gC (d + 2) mX8_clear [.ref 2] S0 (rx_pv zS) := by
  unfold f_X8_clear at h
  show EV gC (d + 2) mX8_clear 0 [some (.ref 2)] [] S0 (rx_pv zS)
  refine ev_aload_n (i := 0) 1 dX8_clear_0 rfl rfl rfl ?_
  refine ev_get (v := .ref 3) 4 dX8_clear_1 dk_2 fl_8_12 (by decide) rfl rfl rfl ?_
  obtain ⟨x3, S2, g4, h⟩ := rx_bd_o h
  refine ev_cVv0 7 dX8_clear_4 (em_X2_clear_3 g4) mm_X2_clear mv_X2_clear lk_8_34 dk_3 (by decide) rfl (Nat.le_of_ble_eq_true rfl) (Nat.le_of_ble_eq_true rfl) rfl ?_
  refine ev_aload_n (i := 0) 8 dX8_clear_7 rfl rfl rfl ?_
  refine ev_iconst (v := 0) 9 dX8_clear_8 (by decide) rfl ?_
  obtain ⟨S5, eS5, h⟩ := rx_let_o h
  refine ex_put 12 dX8_clear_9 dk_2 fl_8_37 pp_8_6 (by decide) rfl rfl rfl rfl eS5 ?_
  refine ev_aload_n (i := 0) 13 dX8_clear_12 rfl rfl rfl ?_
  refine ev_iconst (v := 0) 14 dX8_clear_13 (by decide) rfl ?_
  obtain ⟨S6, eS6, h⟩ := rx_let_o h
  refine ex_put 17 dX8_clear_14 dk_2 fl_8_41 pp_8_7 (by decide) rfl rfl rfl rfl eS6 ?_
  refine ev_aload_n (i := 0) 18 dX8_clear_17 rfl rfl rfl ?_
  refine ev_iconst (v := 0) 19 dX8_clear_18 (by decide) rfl ?_
  obtain ⟨S7, eS7, h⟩ := rx_let_o h
  refine ex_put 22 dX8_clear_19 dk_2 fl_8_44 pp_8_8 (by decide) rfl rfl rfl rfl eS7 ?_
  refine ev_aload_n (i := 0) 23 dX8_clear_22 rfl rfl rfl ?_
  refine ev_bipush (v := 10) 25 dX8_clear_23 (by decide) rfl ?_
  obtain ⟨S8, eS8, h⟩ := rx_let_o h
  refine ex_put 28 dX8_clear_25 dk_2 fl_8_47 pp_8_9 (by decide) rfl rfl rfl rfl eS8 ?_
  refine ev_aload_n (i := 0) 29 dX8_clear_28 rfl rfl rfl ?_
  refine ev_iconst (v := 0) 30 dX8_clear_29 (by decide) rfl ?_
  obtain ⟨S9, eS9, h⟩ := rx_let_o h
  refine ex_put 33 dX8_clear_30 dk_2 fl_8_50 pp_8_10 (by decide) rfl rfl rfl rfl eS9 ?_
  exact ev_return dX8_clear_33 rfl (rx_ret_v h)

set_option maxHeartbeats 4000000 in
set_option maxRecDepth 20000 in
theorem em_X8_clear_19 {d N : Nat} {S0 : rx_S} {zr : Unit} {zS : rx_S} (h : f_X8_clear 19 N S0 = some (zr, zS)) : EM gC (d + 2) mX8_clear [.ref 19] S0 (rx_pv zS) := by
  unfold f_X8_clear at h
  show EV gC (d + 2) mX8_clear 0 [some (.ref 19)] [] S0 (rx_pv zS)
  refine ev_aload_n (i := 0) 1 dX8_clear_0 rfl rfl rfl ?_
  refine ev_get (v := .ref 20) 4 dX8_clear_1 dk_19 fl_8_12 (by decide) rfl rfl rfl ?_
  obtain ⟨x3, S2, g4, h⟩ := rx_bd_o h
  refine ev_cVv0 7 dX8_clear_4 (em_X2_clear_20 g4) mm_X2_clear mv_X2_clear lk_8_34 dk_20 (by decide) rfl (Nat.le_of_ble_eq_true rfl) (Nat.le_of_ble_eq_true rfl) rfl ?_
  refine ev_aload_n (i := 0) 8 dX8_clear_7 rfl rfl rfl ?_
  refine ev_iconst (v := 0) 9 dX8_clear_8 (by decide) rfl ?_
  obtain ⟨S5, eS5, h⟩ := rx_let_o h
  refine ex_put 12 dX8_clear_9 dk_19 fl_8_37 pp_8_6 (by decide) rfl rfl rfl rfl eS5 ?_
  refine ev_aload_n (i := 0) 13 dX8_clear_12 rfl rfl rfl ?_
  refine ev_iconst (v := 0) 14 dX8_clear_13 (by decide) rfl ?_
  obtain ⟨S6, eS6, h⟩ := rx_let_o h
  refine ex_put 17 dX8_clear_14 dk_19 fl_8_41 pp_8_7 (by decide) rfl rfl rfl rfl eS6 ?_
  refine ev_aload_n (i := 0) 18 dX8_clear_17 rfl rfl rfl ?_
  refine ev_iconst (v := 0) 19 dX8_clear_18 (by decide) rfl ?_
  obtain ⟨S7, eS7, h⟩ := rx_let_o h
  refine ex_put 22 dX8_clear_19 dk_19 fl_8_44 pp_8_8 (by decide) rfl rfl rfl rfl eS7 ?_
  refine ev_aload_n (i := 0) 23 dX8_clear_22 rfl rfl rfl ?_
  refine ev_bipush (v := 10) 25 dX8_clear_23 (by decide) rfl ?_
  obtain ⟨S8, eS8, h⟩ := rx_let_o h
  refine ex_put 28 dX8_clear_25 dk_19 fl_8_47 pp_8_9 (by decide) rfl rfl rfl rfl eS8 ?_
  refine ev_aload_n (i := 0) 29 dX8_clear_28 rfl rfl rfl ?_
  refine ev_iconst (v := 0) 30 dX8_clear_29 (by decide) rfl ?_
  obtain ⟨S9, eS9, h⟩ := rx_let_o h
  refine ex_put 33 dX8_clear_30 dk_19 fl_8_50 pp_8_10 (by decide) rfl rfl rfl rfl eS9 ?_
  exact ev_return dX8_clear_33 rfl (rx_ret_v h)

def f_X8_copy (S0 : rx_S) : Option (Unit × rx_S) := rx_bd (f_X2_copy S0) (fun x4 S3 => rx_let (rx_ur S3 8 (va_cpy (S3.1 25) (S3.1 8) 0 0 6)) (fun S6 => rx_let (rx_ur S6 9 (va_cpy (S6.1 26) (S6.1 9) 0 0 6)) (fun S7 => rx_let (rx_ur S7 10 (va_cpy (S7.1 27) (S7.1 10) 0 0 6)) (fun S8 => rx_let (rx_ur S8 11 (va_cpy (S8.1 28) (S8.1 11) 0 0 4)) (fun S9 => rx_let (rx_ur S9 12 (va_cpy (S9.1 29) (S9.1 12) 0 0 4)) (fun S10 => rx_let (rx_ui S10 2 6 (S10.1 19 6)) (fun S11 => rx_let (rx_ui S11 2 7 (S11.1 19 7)) (fun S12 => rx_let (rx_ui S12 2 8 (S12.1 19 8)) (fun S13 => rx_let (rx_ui S13 2 9 (S13.1 19 9)) (fun S14 => rx_let (rx_ui S14 2 10 (S14.1 19 10)) (fun S15 => some ((), S15))))))))))))
set_option maxHeartbeats 4000000 in
set_option maxRecDepth 20000 in
theorem em_X8_copy {d : Nat} {S0 : rx_S} {zr : Unit} {zS : rx_S} (h : f_X8_copy S0 = some (zr, zS)) : EM gC (d + 2) mX8_copy [.ref 2, .ref 19] S0 (rx_pv zS) := by
  unfold f_X8_copy at h
  show EV gC (d + 2) mX8_copy 0 [some (.ref 2), some (.ref 19)] [] S0 (rx_pv zS)
  refine ev_aload_n (i := 0) 1 dX8_copy_0 rfl rfl rfl ?_
  refine ev_get (v := .ref 3) 4 dX8_copy_1 dk_2 fl_8_12 (by decide) rfl rfl rfl ?_
  refine ev_aload_n (i := 1) 5 dX8_copy_4 rfl rfl rfl ?_
  refine ev_get (v := .ref 20) 8 dX8_copy_5 dk_19 fl_8_12 (by decide) rfl rfl rfl ?_
  obtain ⟨x4, S3, g5, h⟩ := rx_bd_o h
  refine ev_cVv1 11 dX8_copy_8 (em_X2_copy g5) mm_X2_copy mv_X2_copy lk_8_53 dk_3 (by decide) rfl (Nat.le_of_ble_eq_true rfl) (Nat.le_of_ble_eq_true rfl) rfl ?_
  refine ev_aload_n (i := 1) 12 dX8_copy_11 rfl rfl rfl ?_
  refine ev_get (v := .ref 25) 15 dX8_copy_12 dk_19 fl_8_18 (by decide) rfl rfl rfl ?_
  refine ev_iconst (v := 0) 16 dX8_copy_15 (by decide) rfl ?_
  refine ev_aload_n (i := 0) 17 dX8_copy_16 rfl rfl rfl ?_
  refine ev_get (v := .ref 8) 20 dX8_copy_17 dk_2 fl_8_18 (by decide) rfl rfl rfl ?_
  refine ev_iconst (v := 0) 21 dX8_copy_20 (by decide) rfl ?_
  refine ev_bipush (v := 6) 23 dX8_copy_21 (by decide) rfl ?_
  obtain ⟨S6, eS6, h⟩ := rx_let_o h
  refine ex_cp 0 0 6 26 dX8_copy_23 lk_8_57 dk_25 dk_8 (by decide) (by decide) (by decide) (by decide) (by decide) (by decide) (by decide) (by decide) (Nat.le_of_ble_eq_true rfl) rfl eS6 ?_
  refine ev_aload_n (i := 1) 27 dX8_copy_26 rfl rfl rfl ?_
  refine ev_get (v := .ref 26) 30 dX8_copy_27 dk_19 fl_8_22 (by decide) rfl rfl rfl ?_
  refine ev_iconst (v := 0) 31 dX8_copy_30 (by decide) rfl ?_
  refine ev_aload_n (i := 0) 32 dX8_copy_31 rfl rfl rfl ?_
  refine ev_get (v := .ref 9) 35 dX8_copy_32 dk_2 fl_8_22 (by decide) rfl rfl rfl ?_
  refine ev_iconst (v := 0) 36 dX8_copy_35 (by decide) rfl ?_
  refine ev_bipush (v := 6) 38 dX8_copy_36 (by decide) rfl ?_
  obtain ⟨S7, eS7, h⟩ := rx_let_o h
  refine ex_cp 0 0 6 41 dX8_copy_38 lk_8_57 dk_26 dk_9 (by decide) (by decide) (by decide) (by decide) (by decide) (by decide) (by decide) (by decide) (Nat.le_of_ble_eq_true rfl) rfl eS7 ?_
  refine ev_aload_n (i := 1) 42 dX8_copy_41 rfl rfl rfl ?_
  refine ev_get (v := .ref 27) 45 dX8_copy_42 dk_19 fl_8_25 (by decide) rfl rfl rfl ?_
  refine ev_iconst (v := 0) 46 dX8_copy_45 (by decide) rfl ?_
  refine ev_aload_n (i := 0) 47 dX8_copy_46 rfl rfl rfl ?_
  refine ev_get (v := .ref 10) 50 dX8_copy_47 dk_2 fl_8_25 (by decide) rfl rfl rfl ?_
  refine ev_iconst (v := 0) 51 dX8_copy_50 (by decide) rfl ?_
  refine ev_bipush (v := 6) 53 dX8_copy_51 (by decide) rfl ?_
  obtain ⟨S8, eS8, h⟩ := rx_let_o h
  refine ex_cp 0 0 6 56 dX8_copy_53 lk_8_57 dk_27 dk_10 (by decide) (by decide) (by decide) (by decide) (by decide) (by decide) (by decide) (by decide) (Nat.le_of_ble_eq_true rfl) rfl eS8 ?_
  refine ev_aload_n (i := 1) 57 dX8_copy_56 rfl rfl rfl ?_
  refine ev_get (v := .ref 28) 60 dX8_copy_57 dk_19 fl_8_28 (by decide) rfl rfl rfl ?_
  refine ev_iconst (v := 0) 61 dX8_copy_60 (by decide) rfl ?_
  refine ev_aload_n (i := 0) 62 dX8_copy_61 rfl rfl rfl ?_
  refine ev_get (v := .ref 11) 65 dX8_copy_62 dk_2 fl_8_28 (by decide) rfl rfl rfl ?_
  refine ev_iconst (v := 0) 66 dX8_copy_65 (by decide) rfl ?_
  refine ev_iconst (v := 4) 67 dX8_copy_66 (by decide) rfl ?_
  obtain ⟨S9, eS9, h⟩ := rx_let_o h
  refine ex_cp 0 0 4 70 dX8_copy_67 lk_8_57 dk_28 dk_11 (by decide) (by decide) (by decide) (by decide) (by decide) (by decide) (by decide) (by decide) (Nat.le_of_ble_eq_true rfl) rfl eS9 ?_
  refine ev_aload_n (i := 1) 71 dX8_copy_70 rfl rfl rfl ?_
  refine ev_get (v := .ref 29) 74 dX8_copy_71 dk_19 fl_8_31 (by decide) rfl rfl rfl ?_
  refine ev_iconst (v := 0) 75 dX8_copy_74 (by decide) rfl ?_
  refine ev_aload_n (i := 0) 76 dX8_copy_75 rfl rfl rfl ?_
  refine ev_get (v := .ref 12) 79 dX8_copy_76 dk_2 fl_8_31 (by decide) rfl rfl rfl ?_
  refine ev_iconst (v := 0) 80 dX8_copy_79 (by decide) rfl ?_
  refine ev_iconst (v := 4) 81 dX8_copy_80 (by decide) rfl ?_
  obtain ⟨S10, eS10, h⟩ := rx_let_o h
  refine ex_cp 0 0 4 84 dX8_copy_81 lk_8_57 dk_29 dk_12 (by decide) (by decide) (by decide) (by decide) (by decide) (by decide) (by decide) (by decide) (Nat.le_of_ble_eq_true rfl) rfl eS10 ?_
  refine ev_aload_n (i := 0) 85 dX8_copy_84 rfl rfl rfl ?_
  refine ev_aload_n (i := 1) 86 dX8_copy_85 rfl rfl rfl ?_
  refine ev_get (v := .int (S10.1 19 6)) 89 dX8_copy_86 dk_19 fl_8_37 (by decide) rfl rfl rfl ?_
  obtain ⟨S11, eS11, h⟩ := rx_let_o h
  refine ex_put 92 dX8_copy_89 dk_2 fl_8_37 pp_8_6 (by decide) rfl rfl rfl rfl eS11 ?_
  refine ev_aload_n (i := 0) 93 dX8_copy_92 rfl rfl rfl ?_
  refine ev_aload_n (i := 1) 94 dX8_copy_93 rfl rfl rfl ?_
  refine ev_get (v := .int (S11.1 19 7)) 97 dX8_copy_94 dk_19 fl_8_41 (by decide) rfl rfl rfl ?_
  obtain ⟨S12, eS12, h⟩ := rx_let_o h
  refine ex_put 100 dX8_copy_97 dk_2 fl_8_41 pp_8_7 (by decide) rfl rfl rfl rfl eS12 ?_
  refine ev_aload_n (i := 0) 101 dX8_copy_100 rfl rfl rfl ?_
  refine ev_aload_n (i := 1) 102 dX8_copy_101 rfl rfl rfl ?_
  refine ev_get (v := .int (S12.1 19 8)) 105 dX8_copy_102 dk_19 fl_8_44 (by decide) rfl rfl rfl ?_
  obtain ⟨S13, eS13, h⟩ := rx_let_o h
  refine ex_put 108 dX8_copy_105 dk_2 fl_8_44 pp_8_8 (by decide) rfl rfl rfl rfl eS13 ?_
  refine ev_aload_n (i := 0) 109 dX8_copy_108 rfl rfl rfl ?_
  refine ev_aload_n (i := 1) 110 dX8_copy_109 rfl rfl rfl ?_
  refine ev_get (v := .int (S13.1 19 9)) 113 dX8_copy_110 dk_19 fl_8_47 (by decide) rfl rfl rfl ?_
  obtain ⟨S14, eS14, h⟩ := rx_let_o h
  refine ex_put 116 dX8_copy_113 dk_2 fl_8_47 pp_8_9 (by decide) rfl rfl rfl rfl eS14 ?_
  refine ev_aload_n (i := 0) 117 dX8_copy_116 rfl rfl rfl ?_
  refine ev_aload_n (i := 1) 118 dX8_copy_117 rfl rfl rfl ?_
  refine ev_get (v := .int (S14.1 19 10)) 121 dX8_copy_118 dk_19 fl_8_50 (by decide) rfl rfl rfl ?_
  obtain ⟨S15, eS15, h⟩ := rx_let_o h
  refine ex_put 124 dX8_copy_121 dk_2 fl_8_50 pp_8_10 (by decide) rfl rfl rfl rfl eS15 ?_
  exact ev_return dX8_copy_124 rfl (rx_ret_v h)

def f_X8_hasCouple (k : Nat) (x1 : Int32) (S0 : rx_S) : Option (Int32 × rx_S) := if x1 < 0 then (some (0, S0)) else (if (S0.1 k 7) ≤ x1 then (some (0, S0)) else (some (1, S0)))
set_option maxHeartbeats 4000000 in
set_option maxRecDepth 20000 in
theorem em_X8_hasCouple_2 {d : Nat} {x1 : Int32} {S0 : rx_S} {zr : Int32} {zS : rx_S} (h : f_X8_hasCouple 2 x1 S0 = some (zr, zS)) : EM gC d mX8_hasCouple [.ref 2, .int x1] S0 (rx_pi zr zS) := by
  unfold f_X8_hasCouple at h
  show EV gC d mX8_hasCouple 0 [some (.ref 2), some (.int x1)] [] S0 (rx_pi zr zS)
  refine ev_iload_n (i := 1) 1 dX8_hasCouple_0 rfl rfl rfl ?_
  refine ev_if_lt 16 4 dX8_hasCouple_1 rfl rfl (fun c3 => ?_) (fun c3 => ?_)
  · replace h := rx_if_t c3 h
    refine ev_iconst (v := 0) 17 dX8_hasCouple_16 (by decide) rfl ?_
    exact ev_zreturn dX8_hasCouple_17 rfl (by decide) (rx_ret_i h)
  · replace h := rx_if_f c3 h
    refine ev_iload_n (i := 1) 5 dX8_hasCouple_4 rfl rfl rfl ?_
    refine ev_aload_n (i := 0) 6 dX8_hasCouple_5 rfl rfl rfl ?_
    refine ev_get (v := .int (S0.1 2 7)) 9 dX8_hasCouple_6 dk_2 fl_8_41 (by decide) rfl rfl rfl ?_
    refine ev_icmp_ge 16 12 dX8_hasCouple_9 rfl rfl (fun c4 => ?_) (fun c4 => ?_)
    · replace h := rx_if_t c4 h
      refine ev_iconst (v := 0) 17 dX8_hasCouple_16 (by decide) rfl ?_
      exact ev_zreturn dX8_hasCouple_17 rfl (by decide) (rx_ret_i h)
    · replace h := rx_if_f c4 h
      refine ev_iconst (v := 1) 13 dX8_hasCouple_12 (by decide) rfl ?_
      refine ev_goto 17 dX8_hasCouple_13 rfl ?_
      exact ev_zreturn dX8_hasCouple_17 rfl (by decide) (rx_ret_i h)

set_option maxHeartbeats 4000000 in
set_option maxRecDepth 20000 in
theorem em_X8_hasCouple_19 {d : Nat} {x1 : Int32} {S0 : rx_S} {zr : Int32} {zS : rx_S} (h : f_X8_hasCouple 19 x1 S0 = some (zr, zS)) : EM gC d mX8_hasCouple [.ref 19, .int x1] S0 (rx_pi zr zS) := by
  unfold f_X8_hasCouple at h
  show EV gC d mX8_hasCouple 0 [some (.ref 19), some (.int x1)] [] S0 (rx_pi zr zS)
  refine ev_iload_n (i := 1) 1 dX8_hasCouple_0 rfl rfl rfl ?_
  refine ev_if_lt 16 4 dX8_hasCouple_1 rfl rfl (fun c3 => ?_) (fun c3 => ?_)
  · replace h := rx_if_t c3 h
    refine ev_iconst (v := 0) 17 dX8_hasCouple_16 (by decide) rfl ?_
    exact ev_zreturn dX8_hasCouple_17 rfl (by decide) (rx_ret_i h)
  · replace h := rx_if_f c3 h
    refine ev_iload_n (i := 1) 5 dX8_hasCouple_4 rfl rfl rfl ?_
    refine ev_aload_n (i := 0) 6 dX8_hasCouple_5 rfl rfl rfl ?_
    refine ev_get (v := .int (S0.1 19 7)) 9 dX8_hasCouple_6 dk_19 fl_8_41 (by decide) rfl rfl rfl ?_
    refine ev_icmp_ge 16 12 dX8_hasCouple_9 rfl rfl (fun c4 => ?_) (fun c4 => ?_)
    · replace h := rx_if_t c4 h
      refine ev_iconst (v := 0) 17 dX8_hasCouple_16 (by decide) rfl ?_
      exact ev_zreturn dX8_hasCouple_17 rfl (by decide) (rx_ret_i h)
    · replace h := rx_if_f c4 h
      refine ev_iconst (v := 1) 13 dX8_hasCouple_12 (by decide) rfl ?_
      refine ev_goto 17 dX8_hasCouple_13 rfl ?_
      exact ev_zreturn dX8_hasCouple_17 rfl (by decide) (rx_ret_i h)

def f_X8_begin_L76 (N : Nat) : Nat → Int32 → rx_S → Option (Unit × rx_S)
  | 0, _, _ => none
  | n + 1, x6, S7 => if (S7.1 2 8) ≤ x6 then (some ((), S7)) else (rx_gd x6 4 (rx_gd ((28 : Int32) + x6) 48 (rx_let (rx_ui S7 32 (Int32.toNatClampNeg ((28 : Int32) + x6)) (S7.1 12 (Int32.toNatClampNeg x6))) (fun S11 => rx_let (x6 + 1) (fun x12 => f_X8_begin_L76 N n x12 S11)))))
def f_X8_begin_L53 (N : Nat) (K74 : rx_S → Option (Unit × rx_S)) : Nat → Int32 → rx_S → Option (Unit × rx_S)
  | 0, _, _ => none
  | n + 1, x13, S14 => if (S14.1 2 7) ≤ x13 then (K74 S14) else (rx_gd ((16 : Int32) + x13) 48 (rx_let (rx_ui S14 32 (Int32.toNatClampNeg ((16 : Int32) + x13)) (-1)) (fun S18 => rx_let (x13 + 1) (fun x19 => f_X8_begin_L53 N K74 n x19 S18))))
def f_X8_begin_L26 (N : Nat) (K51 : rx_S → Option (Unit × rx_S)) : Nat → Int32 → rx_S → Option (Unit × rx_S)
  | 0, _, _ => none
  | n + 1, x20, S21 => if (S21.1 2 6) ≤ x20 then (K51 S21) else (rx_gd x20 6 (rx_gd ((4 : Int32) + x20) 48 (rx_let (rx_ui S21 32 (Int32.toNatClampNeg ((4 : Int32) + x20)) (S21.1 8 (Int32.toNatClampNeg x20))) (fun S26 => rx_let (x20 + 1) (fun x27 => f_X8_begin_L26 N K51 n x27 S26)))))
def f_X8_begin_L2 (N : Nat) (K24 : rx_S → Option (Unit × rx_S)) : Nat → Int32 → rx_S → Option (Unit × rx_S)
  | 0, _, _ => none
  | n + 1, x28, S29 => if (48 : Int32) ≤ x28 then (K24 S29) else (if (48 : Int32) ≤ x28 then (K24 S29) else (rx_gd x28 48 (rx_let (rx_ui S29 32 (Int32.toNatClampNeg x28) 0) (fun S34 => rx_let (x28 + 1) (fun x35 => f_X8_begin_L2 N K24 n x35 S34)))))
def f_X8_begin (N : Nat) (S0 : rx_S) : Option (Unit × rx_S) := rx_let (fun (S3 : rx_S) => rx_let (fun (S4 : rx_S) => rx_let (fun (S5 : rx_S) => f_X8_begin_L76 N N 0 S5) (fun J74_3 => f_X8_begin_L53 N J74_3 N 0 S4)) (fun J51_2 => f_X8_begin_L26 N J51_2 N 0 S3)) (fun J24_1 => f_X8_begin_L2 N J24_1 N 0 S0)
set_option maxHeartbeats 4000000 in
set_option maxRecDepth 20000 in
theorem em_X8_begin_L76 {d N : Nat} {zr : Unit} {zS : rx_S} : ∀ (n : Nat) (x6 : Int32) (S7 : rx_S), f_X8_begin_L76 N n x6 S7 = some (zr, zS) → EV gC d mX8_begin 76 [some (.ref 2), some (.ref 32), some (.int x6)] [] S7 (rx_pv zS) := by
  intro n
  induction n with
  | zero => intro x6 S7 h; cases h
  | succ n ih =>
    intro x6 S7 h
    rw [f_X8_begin_L76] at h
    refine ev_iload_n (i := 2) 77 dX8_begin_76 rfl rfl rfl ?_
    refine ev_aload_n (i := 0) 78 dX8_begin_77 rfl rfl rfl ?_
    refine ev_get (v := .int (S7.1 2 8)) 81 dX8_begin_78 dk_2 fl_8_44 (by decide) rfl rfl rfl ?_
    refine ev_icmp_ge 102 84 dX8_begin_81 rfl rfl (fun c8 => ?_) (fun c8 => ?_)
    · replace h := rx_if_t c8 h
      exact ev_return dX8_begin_102 rfl (rx_ret_v h)
    · replace h := rx_if_f c8 h
      refine ev_aload_n (i := 1) 85 dX8_begin_84 rfl rfl rfl ?_
      refine ev_bipush (v := 28) 87 dX8_begin_85 (by decide) rfl ?_
      refine ev_iload_n (i := 2) 88 dX8_begin_87 rfl rfl rfl ?_
      refine ev_iadd 89 dX8_begin_88 rfl ?_
      refine ev_aload_n (i := 0) 90 dX8_begin_89 rfl rfl rfl ?_
      refine ev_get (v := .ref 12) 93 dX8_begin_90 dk_2 fl_8_31 (by decide) rfl rfl rfl ?_
      refine ev_iload_n (i := 2) 94 dX8_begin_93 rfl rfl rfl ?_
      obtain ⟨g9, h⟩ := rx_gd_o h
      refine ex_iald _ 95 dX8_begin_94 dk_12 g9 rfl rfl ?_
      obtain ⟨g10, h⟩ := rx_gd_o h
      obtain ⟨S11, eS11, h⟩ := rx_let_o h
      refine ex_iast _ 96 dX8_begin_95 dk_32 g10 rfl rfl eS11 ?_
      obtain ⟨x12, ex12, h⟩ := rx_let_o h
      refine ev_iinc (v := x12) (ls' := [some (.ref 2), some (.ref 32), some (.int x12)]) 99 dX8_begin_96 rfl (by rw [ex12]; rfl) (Nat.le_of_ble_eq_true rfl) rfl rfl ?_
      refine ev_goto 76 dX8_begin_99 rfl ?_
      exact (ih _ _ h).fewer (rx_le_s (rx_le_s (rx_le_s rx_le_0)))

set_option maxHeartbeats 4000000 in
set_option maxRecDepth 20000 in
theorem em_X8_begin_L53 {d N : Nat} {K74 : rx_S → Option (Unit × rx_S)} {zr : Unit} {zS : rx_S} (hK74 : ∀ (S15 : rx_S), K74 S15 = some (zr, zS) → EV gC d mX8_begin 74 [some (.ref 2), some (.ref 32), none] [] S15 (rx_pv zS)) : ∀ (n : Nat) (x13 : Int32) (S14 : rx_S), f_X8_begin_L53 N K74 n x13 S14 = some (zr, zS) → EV gC d mX8_begin 53 [some (.ref 2), some (.ref 32), some (.int x13)] [] S14 (rx_pv zS) := by
  intro n
  induction n with
  | zero => intro x13 S14 h; cases h
  | succ n ih =>
    intro x13 S14 h
    rw [f_X8_begin_L53] at h
    refine ev_iload_n (i := 2) 54 dX8_begin_53 rfl rfl rfl ?_
    refine ev_aload_n (i := 0) 55 dX8_begin_54 rfl rfl rfl ?_
    refine ev_get (v := .int (S14.1 2 7)) 58 dX8_begin_55 dk_2 fl_8_41 (by decide) rfl rfl rfl ?_
    refine ev_icmp_ge 74 61 dX8_begin_58 rfl rfl (fun c16 => ?_) (fun c16 => ?_)
    · replace h := rx_if_t c16 h
      exact (hK74 _ h).fewer (rx_le_s (rx_le_s (rx_le_n rx_le_0)))
    · replace h := rx_if_f c16 h
      refine ev_aload_n (i := 1) 62 dX8_begin_61 rfl rfl rfl ?_
      refine ev_bipush (v := 16) 64 dX8_begin_62 (by decide) rfl ?_
      refine ev_iload_n (i := 2) 65 dX8_begin_64 rfl rfl rfl ?_
      refine ev_iadd 66 dX8_begin_65 rfl ?_
      refine ev_iconst (v := (-1)) 67 dX8_begin_66 (by decide) rfl ?_
      obtain ⟨g17, h⟩ := rx_gd_o h
      obtain ⟨S18, eS18, h⟩ := rx_let_o h
      refine ex_iast _ 68 dX8_begin_67 dk_32 g17 rfl rfl eS18 ?_
      obtain ⟨x19, ex19, h⟩ := rx_let_o h
      refine ev_iinc (v := x19) (ls' := [some (.ref 2), some (.ref 32), some (.int x19)]) 71 dX8_begin_68 rfl (by rw [ex19]; rfl) (Nat.le_of_ble_eq_true rfl) rfl rfl ?_
      refine ev_goto 53 dX8_begin_71 rfl ?_
      exact (ih _ _ h).fewer (rx_le_s (rx_le_s (rx_le_s rx_le_0)))

set_option maxHeartbeats 4000000 in
set_option maxRecDepth 20000 in
theorem em_X8_begin_L26 {d N : Nat} {K51 : rx_S → Option (Unit × rx_S)} {zr : Unit} {zS : rx_S} (hK51 : ∀ (S22 : rx_S), K51 S22 = some (zr, zS) → EV gC d mX8_begin 51 [some (.ref 2), some (.ref 32), none] [] S22 (rx_pv zS)) : ∀ (n : Nat) (x20 : Int32) (S21 : rx_S), f_X8_begin_L26 N K51 n x20 S21 = some (zr, zS) → EV gC d mX8_begin 26 [some (.ref 2), some (.ref 32), some (.int x20)] [] S21 (rx_pv zS) := by
  intro n
  induction n with
  | zero => intro x20 S21 h; cases h
  | succ n ih =>
    intro x20 S21 h
    rw [f_X8_begin_L26] at h
    refine ev_iload_n (i := 2) 27 dX8_begin_26 rfl rfl rfl ?_
    refine ev_aload_n (i := 0) 28 dX8_begin_27 rfl rfl rfl ?_
    refine ev_get (v := .int (S21.1 2 6)) 31 dX8_begin_28 dk_2 fl_8_37 (by decide) rfl rfl rfl ?_
    refine ev_icmp_ge 51 34 dX8_begin_31 rfl rfl (fun c23 => ?_) (fun c23 => ?_)
    · replace h := rx_if_t c23 h
      exact (hK51 _ h).fewer (rx_le_s (rx_le_s (rx_le_n rx_le_0)))
    · replace h := rx_if_f c23 h
      refine ev_aload_n (i := 1) 35 dX8_begin_34 rfl rfl rfl ?_
      refine ev_iconst (v := 4) 36 dX8_begin_35 (by decide) rfl ?_
      refine ev_iload_n (i := 2) 37 dX8_begin_36 rfl rfl rfl ?_
      refine ev_iadd 38 dX8_begin_37 rfl ?_
      refine ev_aload_n (i := 0) 39 dX8_begin_38 rfl rfl rfl ?_
      refine ev_get (v := .ref 8) 42 dX8_begin_39 dk_2 fl_8_18 (by decide) rfl rfl rfl ?_
      refine ev_iload_n (i := 2) 43 dX8_begin_42 rfl rfl rfl ?_
      obtain ⟨g24, h⟩ := rx_gd_o h
      refine ex_iald _ 44 dX8_begin_43 dk_8 g24 rfl rfl ?_
      obtain ⟨g25, h⟩ := rx_gd_o h
      obtain ⟨S26, eS26, h⟩ := rx_let_o h
      refine ex_iast _ 45 dX8_begin_44 dk_32 g25 rfl rfl eS26 ?_
      obtain ⟨x27, ex27, h⟩ := rx_let_o h
      refine ev_iinc (v := x27) (ls' := [some (.ref 2), some (.ref 32), some (.int x27)]) 48 dX8_begin_45 rfl (by rw [ex27]; rfl) (Nat.le_of_ble_eq_true rfl) rfl rfl ?_
      refine ev_goto 26 dX8_begin_48 rfl ?_
      exact (ih _ _ h).fewer (rx_le_s (rx_le_s (rx_le_s rx_le_0)))

set_option maxHeartbeats 4000000 in
set_option maxRecDepth 20000 in
theorem em_X8_begin_L2 {d N : Nat} {K24 : rx_S → Option (Unit × rx_S)} {zr : Unit} {zS : rx_S} (hK24 : ∀ (S30 : rx_S), K24 S30 = some (zr, zS) → EV gC d mX8_begin 24 [some (.ref 2), some (.ref 32), none] [] S30 (rx_pv zS)) : ∀ (n : Nat) (x28 : Int32) (S29 : rx_S), f_X8_begin_L2 N K24 n x28 S29 = some (zr, zS) → EV gC d mX8_begin 2 [some (.ref 2), some (.ref 32), some (.int x28)] [] S29 (rx_pv zS) := by
  intro n
  induction n with
  | zero => intro x28 S29 h; cases h
  | succ n ih =>
    intro x28 S29 h
    rw [f_X8_begin_L2] at h
    refine ev_iload_n (i := 2) 3 dX8_begin_2 rfl rfl rfl ?_
    refine ev_bipush (v := 48) 5 dX8_begin_3 (by decide) rfl ?_
    refine ev_icmp_ge 24 8 dX8_begin_5 rfl rfl (fun c31 => ?_) (fun c31 => ?_)
    · replace h := rx_if_t c31 h
      exact (hK24 _ h).fewer (rx_le_s (rx_le_s (rx_le_n rx_le_0)))
    · replace h := rx_if_f c31 h
      refine ev_iload_n (i := 2) 9 dX8_begin_8 rfl rfl rfl ?_
      refine ev_aload_n (i := 1) 10 dX8_begin_9 rfl rfl rfl ?_
      refine ev_alen (v := 48) 11 dX8_begin_10 dk_32 (by decide) (by decide) rfl ?_
      refine ev_icmp_ge 24 14 dX8_begin_11 rfl rfl (fun c32 => ?_) (fun c32 => ?_)
      · replace h := rx_if_t c32 h
        exact (hK24 _ h).fewer (rx_le_s (rx_le_s (rx_le_n rx_le_0)))
      · replace h := rx_if_f c32 h
        refine ev_aload_n (i := 1) 15 dX8_begin_14 rfl rfl rfl ?_
        refine ev_iload_n (i := 2) 16 dX8_begin_15 rfl rfl rfl ?_
        refine ev_iconst (v := 0) 17 dX8_begin_16 (by decide) rfl ?_
        obtain ⟨g33, h⟩ := rx_gd_o h
        obtain ⟨S34, eS34, h⟩ := rx_let_o h
        refine ex_iast _ 18 dX8_begin_17 dk_32 g33 rfl rfl eS34 ?_
        obtain ⟨x35, ex35, h⟩ := rx_let_o h
        refine ev_iinc (v := x35) (ls' := [some (.ref 2), some (.ref 32), some (.int x35)]) 21 dX8_begin_18 rfl (by rw [ex35]; rfl) (Nat.le_of_ble_eq_true rfl) rfl rfl ?_
        refine ev_goto 2 dX8_begin_21 rfl ?_
        exact (ih _ _ h).fewer (rx_le_s (rx_le_s (rx_le_s rx_le_0)))

set_option maxHeartbeats 4000000 in
set_option maxRecDepth 20000 in
theorem em_X8_begin {d N : Nat} {S0 : rx_S} {zr : Unit} {zS : rx_S} (h : f_X8_begin N S0 = some (zr, zS)) : EM gC d mX8_begin [.ref 2, .ref 32] S0 (rx_pv zS) := by
  unfold f_X8_begin at h
  show EV gC d mX8_begin 0 [some (.ref 2), some (.ref 32), none] [] S0 (rx_pv zS)
  refine ev_iconst (v := 0) 1 dX8_begin_0 (by decide) rfl ?_
  refine ev_istore_n (ls' := [some (.ref 2), some (.ref 32), some (.int 0)]) 2 dX8_begin_1 rfl (Nat.le_of_ble_eq_true rfl) rfl rfl ?_
  obtain ⟨J24_1, eJ24_1, h⟩ := rx_let_o h
  have hJ24_1 : ∀ (S3 : rx_S), J24_1 S3 = some (zr, zS) → EV gC d mX8_begin 24 [some (.ref 2), some (.ref 32), none] [] S3 (rx_pv zS) := by
    intro S3 h
    subst eJ24_1
    refine ev_iconst (v := 0) 25 dX8_begin_24 (by decide) rfl ?_
    refine ev_istore_n (ls' := [some (.ref 2), some (.ref 32), some (.int 0)]) 26 dX8_begin_25 rfl (Nat.le_of_ble_eq_true rfl) rfl rfl ?_
    obtain ⟨J51_2, eJ51_2, h⟩ := rx_let_o h
    have hJ51_2 : ∀ (S4 : rx_S), J51_2 S4 = some (zr, zS) → EV gC d mX8_begin 51 [some (.ref 2), some (.ref 32), none] [] S4 (rx_pv zS) := by
      intro S4 h
      subst eJ51_2
      refine ev_iconst (v := 0) 52 dX8_begin_51 (by decide) rfl ?_
      refine ev_istore_n (ls' := [some (.ref 2), some (.ref 32), some (.int 0)]) 53 dX8_begin_52 rfl (Nat.le_of_ble_eq_true rfl) rfl rfl ?_
      obtain ⟨J74_3, eJ74_3, h⟩ := rx_let_o h
      have hJ74_3 : ∀ (S5 : rx_S), J74_3 S5 = some (zr, zS) → EV gC d mX8_begin 74 [some (.ref 2), some (.ref 32), none] [] S5 (rx_pv zS) := by
        intro S5 h
        subst eJ74_3
        refine ev_iconst (v := 0) 75 dX8_begin_74 (by decide) rfl ?_
        refine ev_istore_n (ls' := [some (.ref 2), some (.ref 32), some (.int 0)]) 76 dX8_begin_75 rfl (Nat.le_of_ble_eq_true rfl) rfl rfl ?_
        exact (em_X8_begin_L76 _ _ _ h).fewer (rx_le_s (rx_le_s (rx_le_s rx_le_0)))
      exact (em_X8_begin_L53 hJ74_3 _ _ _ h).fewer (rx_le_s (rx_le_s (rx_le_s rx_le_0)))
    exact (em_X8_begin_L26 hJ51_2 _ _ _ h).fewer (rx_le_s (rx_le_s (rx_le_s rx_le_0)))
  exact (em_X8_begin_L2 hJ24_1 _ _ _ h).fewer (rx_le_s (rx_le_s (rx_le_s rx_le_0)))

def f_X9_withLetter (x0 : Int64) (x1 : Int32) (S0 : rx_S) : Option (Int64 × rx_S) := some (((x0 * (32 : Int64)) + (Int32.toInt64 ((x1 - 97) + 1))), S0)
set_option maxHeartbeats 4000000 in
set_option maxRecDepth 20000 in
theorem em_X9_withLetter {d : Nat} {x0 : Int64} {x1 : Int32} {S0 : rx_S} {zr : Int64} {zS : rx_S} (h : f_X9_withLetter x0 x1 S0 = some (zr, zS)) : EM gC d mX9_withLetter [.long x0, .int x1] S0 (rx_pl zr zS) := by
  unfold f_X9_withLetter at h
  show EV gC d mX9_withLetter 0 [some (.long x0), none, some (.int x1)] [] S0 (rx_pl zr zS)
  refine ev_lload_n (i := 0) 1 dX9_withLetter_0 rfl rfl rfl ?_
  refine ev_ldc2 (v := 32) 4 dX9_withLetter_1 rfl ct_9_41 rfl ?_
  refine ev_lmul 5 dX9_withLetter_4 rfl ?_
  refine ev_iload_n (i := 2) 6 dX9_withLetter_5 rfl rfl rfl ?_
  refine ev_bipush (v := 97) 8 dX9_withLetter_6 (by decide) rfl ?_
  refine ev_isub 9 dX9_withLetter_8 rfl ?_
  refine ev_iconst (v := 1) 10 dX9_withLetter_9 (by decide) rfl ?_
  refine ev_iadd 11 dX9_withLetter_10 rfl ?_
  refine ev_i2l 12 dX9_withLetter_11 rfl ?_
  refine ev_ladd 13 dX9_withLetter_12 rfl ?_
  exact ev_lreturn dX9_withLetter_13 rfl (rx_ret_l h)

def f_X9_isBlank (x0 : Int32) (S0 : rx_S) : Option (Int32 × rx_S) := if x0 = 9 then (some (1, S0)) else (if x0 = 10 then (some (1, S0)) else (if x0 = 13 then (some (1, S0)) else (if x0 = 32 then (some (1, S0)) else (some (0, S0)))))
set_option maxHeartbeats 4000000 in
set_option maxRecDepth 20000 in
theorem em_X9_isBlank {d : Nat} {x0 : Int32} {S0 : rx_S} {zr : Int32} {zS : rx_S} (h : f_X9_isBlank x0 S0 = some (zr, zS)) : EM gC d mX9_isBlank [.int x0] S0 (rx_pi zr zS) := by
  unfold f_X9_isBlank at h
  show EV gC d mX9_isBlank 0 [some (.int x0)] [] S0 (rx_pi zr zS)
  refine ev_iload_n (i := 0) 1 dX9_isBlank_0 rfl rfl rfl ?_
  refine ev_bipush (v := 9) 3 dX9_isBlank_1 (by decide) rfl ?_
  refine ev_icmp_eq 24 6 dX9_isBlank_3 rfl rfl (fun c2 => ?_) (fun c2 => ?_)
  · replace h := rx_if_t c2 h
    refine ev_iconst (v := 1) 25 dX9_isBlank_24 (by decide) rfl ?_
    refine ev_goto 29 dX9_isBlank_25 rfl ?_
    exact ev_zreturn dX9_isBlank_29 rfl (by decide) (rx_ret_i h)
  · replace h := rx_if_f c2 h
    refine ev_iload_n (i := 0) 7 dX9_isBlank_6 rfl rfl rfl ?_
    refine ev_bipush (v := 10) 9 dX9_isBlank_7 (by decide) rfl ?_
    refine ev_icmp_eq 24 12 dX9_isBlank_9 rfl rfl (fun c3 => ?_) (fun c3 => ?_)
    · replace h := rx_if_t c3 h
      refine ev_iconst (v := 1) 25 dX9_isBlank_24 (by decide) rfl ?_
      refine ev_goto 29 dX9_isBlank_25 rfl ?_
      exact ev_zreturn dX9_isBlank_29 rfl (by decide) (rx_ret_i h)
    · replace h := rx_if_f c3 h
      refine ev_iload_n (i := 0) 13 dX9_isBlank_12 rfl rfl rfl ?_
      refine ev_bipush (v := 13) 15 dX9_isBlank_13 (by decide) rfl ?_
      refine ev_icmp_eq 24 18 dX9_isBlank_15 rfl rfl (fun c4 => ?_) (fun c4 => ?_)
      · replace h := rx_if_t c4 h
        refine ev_iconst (v := 1) 25 dX9_isBlank_24 (by decide) rfl ?_
        refine ev_goto 29 dX9_isBlank_25 rfl ?_
        exact ev_zreturn dX9_isBlank_29 rfl (by decide) (rx_ret_i h)
      · replace h := rx_if_f c4 h
        refine ev_iload_n (i := 0) 19 dX9_isBlank_18 rfl rfl rfl ?_
        refine ev_bipush (v := 32) 21 dX9_isBlank_19 (by decide) rfl ?_
        refine ev_icmp_ne 28 24 dX9_isBlank_21 rfl rfl (fun c5 => ?_) (fun c5 => ?_)
        · replace h := rx_if_f c5 h
          refine ev_iconst (v := 0) 29 dX9_isBlank_28 (by decide) rfl ?_
          exact ev_zreturn dX9_isBlank_29 rfl (by decide) (rx_ret_i h)
        · replace h := rx_if_t c5 h
          refine ev_iconst (v := 1) 25 dX9_isBlank_24 (by decide) rfl ?_
          refine ev_goto 29 dX9_isBlank_25 rfl ?_
          exact ev_zreturn dX9_isBlank_29 rfl (by decide) (rx_ret_i h)

def f_X9_blanksEnd_L2 (N : Nat) : Nat → Int32 → Int32 → rx_S → Option (Int32 × rx_S)
  | 0, _, _, _ => none
  | n + 1, x4, x5, S6 => if x4 ≤ x5 then (some (x5, S6)) else (rx_gd x5 2000 (rx_bd (f_X9_isBlank (S6.1 1 (Int32.toNatClampNeg x5)) S6) (fun x10 S9 => if x10 = 0 then (some (x5, S9)) else (rx_let (x5 + 1) (fun x13 => f_X9_blanksEnd_L2 N n x4 x13 S9)))))
def f_X9_blanksEnd (N : Nat) (x1 : Int32) (x2 : Int32) (S0 : rx_S) : Option (Int32 × rx_S) := f_X9_blanksEnd_L2 N N x2 x1 S0
set_option maxHeartbeats 4000000 in
set_option maxRecDepth 20000 in
theorem em_X9_blanksEnd_L2 {d N : Nat} {zr : Int32} {zS : rx_S} : ∀ (n : Nat) (x4 : Int32) (x5 : Int32) (S6 : rx_S), f_X9_blanksEnd_L2 N n x4 x5 S6 = some (zr, zS) → EV gC (d + 1) mX9_blanksEnd 2 [some (.ref 1), none, some (.int x4), some (.int x5)] [] S6 (rx_pi zr zS) := by
  intro n
  induction n with
  | zero => intro x4 x5 S6 h; cases h
  | succ n ih =>
    intro x4 x5 S6 h
    rw [f_X9_blanksEnd_L2] at h
    refine ev_iload_n (i := 3) 3 dX9_blanksEnd_2 rfl rfl rfl ?_
    refine ev_iload_n (i := 2) 4 dX9_blanksEnd_3 rfl rfl rfl ?_
    refine ev_icmp_ge 22 7 dX9_blanksEnd_4 rfl rfl (fun c7 => ?_) (fun c7 => ?_)
    · replace h := rx_if_t c7 h
      refine ev_iload_n (i := 3) 23 dX9_blanksEnd_22 rfl rfl rfl ?_
      exact ev_ireturn dX9_blanksEnd_23 rfl (rx_ret_i h)
    · replace h := rx_if_f c7 h
      refine ev_aload_n (i := 0) 8 dX9_blanksEnd_7 rfl rfl rfl ?_
      refine ev_iload_n (i := 3) 9 dX9_blanksEnd_8 rfl rfl rfl ?_
      obtain ⟨g8, h⟩ := rx_gd_o h
      refine ex_bald _ 10 dX9_blanksEnd_9 dk_1 g8 rfl rfl ?_
      obtain ⟨x10, S9, g11, h⟩ := rx_bd_o h
      refine ev_cSi1 13 dX9_blanksEnd_10 (em_X9_isBlank g11) mm_X9_isBlank ms_X9_isBlank lk_9_63 (Nat.le_of_ble_eq_true rfl) (Nat.le_of_ble_eq_true rfl) rfl ?_
      refine ev_if_eq 22 16 dX9_blanksEnd_13 rfl rfl (fun c12 => ?_) (fun c12 => ?_)
      · replace h := rx_if_t c12 h
        refine ev_iload_n (i := 3) 23 dX9_blanksEnd_22 rfl rfl rfl ?_
        exact ev_ireturn dX9_blanksEnd_23 rfl (rx_ret_i h)
      · replace h := rx_if_f c12 h
        obtain ⟨x13, ex13, h⟩ := rx_let_o h
        refine ev_iinc (v := x13) (ls' := [some (.ref 1), none, some (.int x4), some (.int x13)]) 19 dX9_blanksEnd_16 rfl (by rw [ex13]; rfl) (Nat.le_of_ble_eq_true rfl) rfl rfl ?_
        refine ev_goto 2 dX9_blanksEnd_19 rfl ?_
        exact (ih _ _ _ h).fewer (rx_le_s (rx_le_n (rx_le_s (rx_le_s rx_le_0))))

set_option maxHeartbeats 4000000 in
set_option maxRecDepth 20000 in
theorem em_X9_blanksEnd {d N : Nat} {x1 : Int32} {x2 : Int32} {S0 : rx_S} {zr : Int32} {zS : rx_S} (h : f_X9_blanksEnd N x1 x2 S0 = some (zr, zS)) : EM gC (d + 1) mX9_blanksEnd [.ref 1, .int x1, .int x2] S0 (rx_pi zr zS) := by
  unfold f_X9_blanksEnd at h
  show EV gC (d + 1) mX9_blanksEnd 0 [some (.ref 1), some (.int x1), some (.int x2), none] [] S0 (rx_pi zr zS)
  refine ev_iload_n (i := 1) 1 dX9_blanksEnd_0 rfl rfl rfl ?_
  refine ev_istore_n (ls' := [some (.ref 1), some (.int x1), some (.int x2), some (.int x1)]) 2 dX9_blanksEnd_1 rfl (Nat.le_of_ble_eq_true rfl) rfl rfl ?_
  exact (em_X9_blanksEnd_L2 _ _ _ _ h).fewer (rx_le_s (rx_le_n (rx_le_s (rx_le_s rx_le_0))))

def f_X9_isLetter (x0 : Int32) (S0 : rx_S) : Option (Int32 × rx_S) := if x0 < 97 then (some (0, S0)) else (if (122 : Int32) < x0 then (some (0, S0)) else (some (1, S0)))
set_option maxHeartbeats 4000000 in
set_option maxRecDepth 20000 in
theorem em_X9_isLetter {d : Nat} {x0 : Int32} {S0 : rx_S} {zr : Int32} {zS : rx_S} (h : f_X9_isLetter x0 S0 = some (zr, zS)) : EM gC d mX9_isLetter [.int x0] S0 (rx_pi zr zS) := by
  unfold f_X9_isLetter at h
  show EV gC d mX9_isLetter 0 [some (.int x0)] [] S0 (rx_pi zr zS)
  refine ev_iload_n (i := 0) 1 dX9_isLetter_0 rfl rfl rfl ?_
  refine ev_bipush (v := 97) 3 dX9_isLetter_1 (by decide) rfl ?_
  refine ev_icmp_lt 16 6 dX9_isLetter_3 rfl rfl (fun c2 => ?_) (fun c2 => ?_)
  · replace h := rx_if_t c2 h
    refine ev_iconst (v := 0) 17 dX9_isLetter_16 (by decide) rfl ?_
    exact ev_zreturn dX9_isLetter_17 rfl (by decide) (rx_ret_i h)
  · replace h := rx_if_f c2 h
    refine ev_iload_n (i := 0) 7 dX9_isLetter_6 rfl rfl rfl ?_
    refine ev_bipush (v := 122) 9 dX9_isLetter_7 (by decide) rfl ?_
    refine ev_icmp_gt 16 12 dX9_isLetter_9 rfl rfl (fun c3 => ?_) (fun c3 => ?_)
    · replace h := rx_if_t c3 h
      refine ev_iconst (v := 0) 17 dX9_isLetter_16 (by decide) rfl ?_
      exact ev_zreturn dX9_isLetter_17 rfl (by decide) (rx_ret_i h)
    · replace h := rx_if_f c3 h
      refine ev_iconst (v := 1) 13 dX9_isLetter_12 (by decide) rfl ?_
      refine ev_goto 17 dX9_isLetter_13 rfl ?_
      exact ev_zreturn dX9_isLetter_17 rfl (by decide) (rx_ret_i h)

