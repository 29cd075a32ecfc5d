def f_X6_fillLosses_L51 (N : Nat) (K101 : Int32 → Int32 → rx_S → Option (Int32 × rx_S)) : Nat → Int32 → Int32 → Int32 → Int32 → rx_S → Option (Int32 × rx_S)
  | 0, _, _, _, _, _ => none
  | n + 1, x22, x23, x24, x25, S26 => if (S26.1 2 8) ≤ x25 then (K101 x22 x23 S26) else (rx_bd (f_X7_putRow 32 N x25 x24 S26) (fun x32 S31 => rx_bd (f_X5_changes N x24 x32 S31) (fun x35 S34 => rx_gd ((x22 * 4) + x25) 12 (rx_let (rx_ui S34 86 (Int32.toNatClampNeg ((x22 * 4) + x25)) x35) (fun S38 => rx_let (x25 + 1) (fun x39 => f_X6_fillLosses_L51 N K101 n x22 x23 x24 x39 S38))))))
def f_X6_fillLosses_L4 (N : Nat) : Nat → Int32 → Int32 → rx_S → Option (Int32 × rx_S)
  | 0, _, _, _ => none
  | n + 1, x3, x4, S5 => if (S5.1 2 7) ≤ x4 then (some (x3, S5)) else (if (3 : Int32) ≤ x4 then (some (x3, S5)) else (rx_gd ((19 : Int32) + x4) 48 (if (S5.1 32 (Int32.toNatClampNeg ((19 : Int32) + x4))) = 0 then (rx_bd (f_X7_speakerOf 32 x4 S5) (fun x12 S11 => rx_bd (f_X7_rowOf 32 N x12 S11) (fun x15 S14 => rx_let (fun (x17 : Int32) (x18 : Int32) (S19 : rx_S) => rx_let (x17 + 1) (fun x20 => rx_let (x18 + 1) (fun x21 => f_X6_fillLosses_L4 N n x20 x21 S19))) (fun J101_1 => f_X6_fillLosses_L51 N J101_1 N x3 x4 x15 0 S14)))) else (rx_let (x4 + 1) (fun x10 => f_X6_fillLosses_L4 N n x3 x10 S5)))))
def f_X6_fillLosses (N : Nat) (S0 : rx_S) : Option (Int32 × rx_S) := f_X6_fillLosses_L4 N N 0 0 S0
set_option maxHeartbeats 4000000 in
set_option maxRecDepth 20000 in
theorem em_X6_fillLosses_L51 {d N : Nat} {K101 : Int32 → Int32 → rx_S → Option (Int32 × rx_S)} {zr : Int32} {zS : rx_S} (hK101 : ∀ (x27 : Int32) (x28 : Int32) (S29 : rx_S), K101 x27 x28 S29 = some (zr, zS) → EV gC (d + 5) mX6_fillLosses 101 [some (.ref 81), some (.ref 32), some (.int x27), some (.int x28), none, none] [] S29 (rx_pi zr zS)) : ∀ (n : Nat) (x22 : Int32) (x23 : Int32) (x24 : Int32) (x25 : Int32) (S26 : rx_S), f_X6_fillLosses_L51 N K101 n x22 x23 x24 x25 S26 = some (zr, zS) → EV gC (d + 5) mX6_fillLosses 51 [some (.ref 81), some (.ref 32), some (.int x22), some (.int x23), some (.int x24), some (.int x25)] [] S26 (rx_pi zr zS) := by
  intro n
  induction n with
  | zero => intro x22 x23 x24 x25 S26 h; cases h
  | succ n ih =>
    intro x22 x23 x24 x25 S26 h
    rw [f_X6_fillLosses_L51] at h
    refine ev_iload 53 dX6_fillLosses_51 rfl rfl ?_
    refine ev_aload_n (i := 0) 54 dX6_fillLosses_53 rfl rfl rfl ?_
    refine ev_get (v := .ref 2) 57 dX6_fillLosses_54 dk_81 fl_6_32 (by decide) rfl rfl rfl ?_
    refine ev_get (v := .int (S26.1 2 8)) 60 dX6_fillLosses_57 dk_2 fl_6_51 (by decide) rfl rfl rfl ?_
    refine ev_icmp_ge 101 63 dX6_fillLosses_60 rfl rfl (fun c30 => ?_) (fun c30 => ?_)
    · replace h := rx_if_t c30 h
      exact (hK101 _ _ _ h).fewer (rx_le_s (rx_le_s (rx_le_s (rx_le_s (rx_le_n (rx_le_n rx_le_0))))))
    · replace h := rx_if_f c30 h
      refine ev_aload_n (i := 0) 64 dX6_fillLosses_63 rfl rfl rfl ?_
      refine ev_get (v := .ref 86) 67 dX6_fillLosses_64 dk_81 fl_6_26 (by decide) rfl rfl rfl ?_
      refine ev_iload_n (i := 2) 68 dX6_fillLosses_67 rfl rfl rfl ?_
      refine ev_iconst (v := 4) 69 dX6_fillLosses_68 (by decide) rfl ?_
      refine ev_imul 70 dX6_fillLosses_69 rfl ?_
      refine ev_iload 72 dX6_fillLosses_70 rfl rfl ?_
      refine ev_iadd 73 dX6_fillLosses_72 rfl ?_
      refine ev_aload_n (i := 0) 74 dX6_fillLosses_73 rfl rfl rfl ?_
      refine ev_get (v := .ref 82) 77 dX6_fillLosses_74 dk_81 fl_6_12 (by decide) rfl rfl rfl ?_
      refine ev_iload 79 dX6_fillLosses_77 rfl rfl ?_
      refine ev_aload_n (i := 0) 80 dX6_fillLosses_79 rfl rfl rfl ?_
      refine ev_get (v := .ref 80) 83 dX6_fillLosses_80 dk_81 fl_6_36 (by decide) rfl rfl rfl ?_
      refine ev_aload_n (i := 1) 84 dX6_fillLosses_83 rfl rfl rfl ?_
      refine ev_iload 86 dX6_fillLosses_84 rfl rfl ?_
      refine ev_iload 88 dX6_fillLosses_86 rfl rfl ?_
      obtain ⟨x32, S31, g33, h⟩ := rx_bd_o h
      refine ev_cVi3 91 dX6_fillLosses_88 (em_X7_putRow_32 g33) mm_X7_putRow mv_X7_putRow lk_6_40 dk_80 (by decide) rfl (Nat.le_of_ble_eq_true rfl) (Nat.le_of_ble_eq_true rfl) rfl ?_
      obtain ⟨x35, S34, g36, h⟩ := rx_bd_o h
      refine ev_cVi2 94 dX6_fillLosses_91 (em_X5_changes g36) mm_X5_changes mv_X5_changes lk_6_46 dk_82 (by decide) rfl (Nat.le_of_ble_eq_true rfl) (Nat.le_of_ble_eq_true rfl) rfl ?_
      obtain ⟨g37, h⟩ := rx_gd_o h
      obtain ⟨S38, eS38, h⟩ := rx_let_o h
      refine ex_iast _ 95 dX6_fillLosses_94 dk_86 g37 rfl rfl eS38 ?_
      obtain ⟨x39, ex39, h⟩ := rx_let_o h
      refine ev_iinc (v := x39) (ls' := [some (.ref 81), some (.ref 32), some (.int x22), some (.int x23), some (.int x24), some (.int x39)]) 98 dX6_fillLosses_95 rfl (by rw [ex39]; rfl) (Nat.le_of_ble_eq_true rfl) rfl rfl ?_
      refine ev_goto 51 dX6_fillLosses_98 rfl ?_
      exact (ih _ _ _ _ _ h).fewer (rx_le_s (rx_le_s (rx_le_s (rx_le_s (rx_le_s (rx_le_s rx_le_0))))))

set_option maxHeartbeats 4000000 in
set_option maxRecDepth 20000 in
theorem em_X6_fillLosses_L4 {d N : Nat} {zr : Int32} {zS : rx_S} : ∀ (n : Nat) (x3 : Int32) (x4 : Int32) (S5 : rx_S), f_X6_fillLosses_L4 N n x3 x4 S5 = some (zr, zS) → EV gC (d + 5) mX6_fillLosses 4 [some (.ref 81), some (.ref 32), some (.int x3), some (.int x4), none, none] [] S5 (rx_pi zr zS) := by
  intro n
  induction n with
  | zero => intro x3 x4 S5 h; cases h
  | succ n ih =>
    intro x3 x4 S5 h
    rw [f_X6_fillLosses_L4] at h
    refine ev_iload_n (i := 3) 5 dX6_fillLosses_4 rfl rfl rfl ?_
    refine ev_aload_n (i := 0) 6 dX6_fillLosses_5 rfl rfl rfl ?_
    refine ev_get (v := .ref 2) 9 dX6_fillLosses_6 dk_81 fl_6_32 (by decide) rfl rfl rfl ?_
    refine ev_get (v := .int (S5.1 2 7)) 12 dX6_fillLosses_9 dk_2 fl_6_98 (by decide) rfl rfl rfl ?_
    refine ev_icmp_ge 110 15 dX6_fillLosses_12 rfl rfl (fun c6 => ?_) (fun c6 => ?_)
    · replace h := rx_if_t c6 h
      refine ev_iload_n (i := 2) 111 dX6_fillLosses_110 rfl rfl rfl ?_
      exact ev_ireturn dX6_fillLosses_111 rfl (rx_ret_i h)
    · replace h := rx_if_f c6 h
      refine ev_iload_n (i := 3) 16 dX6_fillLosses_15 rfl rfl rfl ?_
      refine ev_iconst (v := 3) 17 dX6_fillLosses_16 (by decide) rfl ?_
      refine ev_icmp_ge 110 20 dX6_fillLosses_17 rfl rfl (fun c7 => ?_) (fun c7 => ?_)
      · replace h := rx_if_t c7 h
        refine ev_iload_n (i := 2) 111 dX6_fillLosses_110 rfl rfl rfl ?_
        exact ev_ireturn dX6_fillLosses_111 rfl (rx_ret_i h)
      · replace h := rx_if_f c7 h
        refine ev_aload_n (i := 1) 21 dX6_fillLosses_20 rfl rfl rfl ?_
        refine ev_bipush (v := 19) 23 dX6_fillLosses_21 (by decide) rfl ?_
        refine ev_iload_n (i := 3) 24 dX6_fillLosses_23 rfl rfl rfl ?_
        refine ev_iadd 25 dX6_fillLosses_24 rfl ?_
        obtain ⟨g8, h⟩ := rx_gd_o h
        refine ex_iald _ 26 dX6_fillLosses_25 dk_32 g8 rfl rfl ?_
        refine ev_if_ne 104 29 dX6_fillLosses_26 rfl rfl (fun c9 => ?_) (fun c9 => ?_)
        · replace h := rx_if_f c9 h
          obtain ⟨x10, ex10, h⟩ := rx_let_o h
          refine ev_iinc (v := x10) (ls' := [some (.ref 81), some (.ref 32), some (.int x3), some (.int x10), none, none]) 107 dX6_fillLosses_104 rfl (by rw [ex10]; rfl) (Nat.le_of_ble_eq_true rfl) rfl rfl ?_
          refine ev_goto 4 dX6_fillLosses_107 rfl ?_
          exact (ih _ _ _ h).fewer (rx_le_s (rx_le_s (rx_le_s (rx_le_s (rx_le_n (rx_le_n rx_le_0))))))
        · replace h := rx_if_t c9 h
          refine ev_aload_n (i := 0) 30 dX6_fillLosses_29 rfl rfl rfl ?_
          refine ev_get (v := .ref 80) 33 dX6_fillLosses_30 dk_81 fl_6_36 (by decide) rfl rfl rfl ?_
          refine ev_aload_n (i := 1) 34 dX6_fillLosses_33 rfl rfl rfl ?_
          refine ev_aload_n (i := 0) 35 dX6_fillLosses_34 rfl rfl rfl ?_
          refine ev_get (v := .ref 80) 38 dX6_fillLosses_35 dk_81 fl_6_36 (by decide) rfl rfl rfl ?_
          refine ev_aload_n (i := 1) 39 dX6_fillLosses_38 rfl rfl rfl ?_
          refine ev_iload_n (i := 3) 40 dX6_fillLosses_39 rfl rfl rfl ?_
          obtain ⟨x12, S11, g13, h⟩ := rx_bd_o h
          refine ev_cVi2 43 dX6_fillLosses_40 (em_X7_speakerOf_32 g13) mm_X7_speakerOf mv_X7_speakerOf lk_6_101 dk_80 (by decide) rfl (Nat.le_of_ble_eq_true rfl) (Nat.le_of_ble_eq_true rfl) rfl ?_
          obtain ⟨x15, S14, g16, h⟩ := rx_bd_o h
          refine ev_cVi2 46 dX6_fillLosses_43 (em_X7_rowOf_32 g16) mm_X7_rowOf mv_X7_rowOf lk_6_105 dk_80 (by decide) rfl (Nat.le_of_ble_eq_true rfl) (Nat.le_of_ble_eq_true rfl) rfl ?_
          refine ev_istore (ls' := [some (.ref 81), some (.ref 32), some (.int x3), some (.int x4), some (.int x15), none]) 48 dX6_fillLosses_46 (Nat.le_of_ble_eq_true rfl) rfl rfl ?_
          refine ev_iconst (v := 0) 49 dX6_fillLosses_48 (by decide) rfl ?_
          refine ev_istore (ls' := [some (.ref 81), some (.ref 32), some (.int x3), some (.int x4), some (.int x15), some (.int 0)]) 51 dX6_fillLosses_49 (Nat.le_of_ble_eq_true rfl) rfl rfl ?_
          obtain ⟨J101_1, eJ101_1, h⟩ := rx_let_o h
          have hJ101_1 : ∀ (x17 : Int32) (x18 : Int32) (S19 : rx_S), J101_1 x17 x18 S19 = some (zr, zS) → EV gC (d + 5) mX6_fillLosses 101 [some (.ref 81), some (.ref 32), some (.int x17), some (.int x18), none, none] [] S19 (rx_pi zr zS) := by
            intro x17 x18 S19 h
            subst eJ101_1
            obtain ⟨x20, ex20, h⟩ := rx_let_o h
            refine ev_iinc (v := x20) (ls' := [some (.ref 81), some (.ref 32), some (.int x20), some (.int x18), none, none]) 104 dX6_fillLosses_101 rfl (by rw [ex20]; rfl) (Nat.le_of_ble_eq_true rfl) rfl rfl ?_
            obtain ⟨x21, ex21, h⟩ := rx_let_o h
            refine ev_iinc (v := x21) (ls' := [some (.ref 81), some (.ref 32), some (.int x20), some (.int x21), none, none]) 107 dX6_fillLosses_104 rfl (by rw [ex21]; rfl) (Nat.le_of_ble_eq_true rfl) rfl rfl ?_
            refine ev_goto 4 dX6_fillLosses_107 rfl ?_
            exact (ih _ _ _ h).fewer (rx_le_s (rx_le_s (rx_le_s (rx_le_s (rx_le_n (rx_le_n rx_le_0))))))
          exact (em_X6_fillLosses_L51 hJ101_1 _ _ _ _ _ _ h).fewer (rx_le_s (rx_le_s (rx_le_s (rx_le_s (rx_le_s (rx_le_s rx_le_0))))))

set_option maxHeartbeats 4000000 in
set_option maxRecDepth 20000 in
theorem em_X6_fillLosses {d N : Nat} {S0 : rx_S} {zr : Int32} {zS : rx_S} (h : f_X6_fillLosses N S0 = some (zr, zS)) : EM gC (d + 5) mX6_fillLosses [.ref 81, .ref 32] S0 (rx_pi zr zS) := by
  unfold f_X6_fillLosses at h
  show EV gC (d + 5) mX6_fillLosses 0 [some (.ref 81), some (.ref 32), none, none, none, none] [] S0 (rx_pi zr zS)
  refine ev_iconst (v := 0) 1 dX6_fillLosses_0 (by decide) rfl ?_
  refine ev_istore_n (ls' := [some (.ref 81), some (.ref 32), some (.int 0), none, none, none]) 2 dX6_fillLosses_1 rfl (Nat.le_of_ble_eq_true rfl) rfl rfl ?_
  refine ev_iconst (v := 0) 3 dX6_fillLosses_2 (by decide) rfl ?_
  refine ev_istore_n (ls' := [some (.ref 81), some (.ref 32), some (.int 0), some (.int 0), none, none]) 4 dX6_fillLosses_3 rfl (Nat.le_of_ble_eq_true rfl) rfl rfl ?_
  exact (em_X6_fillLosses_L4 _ _ _ _ h).fewer (rx_le_s (rx_le_s (rx_le_s (rx_le_s (rx_le_n (rx_le_n rx_le_0))))))

def f_X6_choose_L7 (N : Nat) : Nat → Int32 → Int32 → rx_S → Option (Unit × rx_S)
  | 0, _, _, _ => none
  | n + 1, x5, x6, S7 => if x6 < 0 then (some ((), S7)) else (rx_let (fun (x9 : Int32) (x10 : Int32) (x11 : Int32) (x12 : Int32) (S13 : rx_S) => rx_gd x11 3 (rx_let (rx_ui S13 87 (Int32.toNatClampNeg x11) x12) (fun S15 => if (S15.1 2 8) ≤ 0 then (rx_let (x10 + (-1)) (fun x17 => f_X6_choose_L7 N n 0 x17 S15)) else (rx_nz (S15.1 2 8) (rx_let (x9 / (S15.1 2 8)) (fun x19 => rx_let (x10 + (-1)) (fun x20 => f_X6_choose_L7 N n x19 x20 S15))))))) (fun J41_1 => if (S7.1 2 8) ≤ 0 then (J41_1 x5 x6 x6 0 S7) else (rx_nz (S7.1 2 8) (J41_1 x5 x6 x6 (rx_rem x5 (S7.1 2 8)) S7))))
def f_X6_choose (N : Nat) (x1 : Int32) (x2 : Int32) (S0 : rx_S) : Option (Unit × rx_S) := rx_let (x2 - 1) (fun x4 => f_X6_choose_L7 N N x1 x4 S0)
set_option maxHeartbeats 4000000 in
set_option maxRecDepth 20000 in
theorem em_X6_choose_L7 {d N : Nat} {zr : Unit} {zS : rx_S} : ∀ (n : Nat) (x5 : Int32) (x6 : Int32) (S7 : rx_S), f_X6_choose_L7 N n x5 x6 S7 = some (zr, zS) → EV gC d mX6_choose 7 [some (.ref 81), none, none, some (.int x5), some (.int x6)] [] S7 (rx_pv zS) := by
  intro n
  induction n with
  | zero => intro x5 x6 S7 h; cases h
  | succ n ih =>
    intro x5 x6 S7 h
    rw [f_X6_choose_L7] at h
    refine ev_iload 9 dX6_choose_7 rfl rfl ?_
    refine ev_if_lt 72 12 dX6_choose_9 rfl rfl (fun c8 => ?_) (fun c8 => ?_)
    · replace h := rx_if_t c8 h
      exact ev_return dX6_choose_72 rfl (rx_ret_v h)
    · replace h := rx_if_f c8 h
      refine ev_aload_n (i := 0) 13 dX6_choose_12 rfl rfl rfl ?_
      refine ev_get (v := .ref 87) 16 dX6_choose_13 dk_81 fl_6_29 (by decide) rfl rfl rfl ?_
      refine ev_iload 18 dX6_choose_16 rfl rfl ?_
      refine ev_aload_n (i := 0) 19 dX6_choose_18 rfl rfl rfl ?_
      refine ev_get (v := .ref 2) 22 dX6_choose_19 dk_81 fl_6_32 (by decide) rfl rfl rfl ?_
      refine ev_get (v := .int (S7.1 2 8)) 25 dX6_choose_22 dk_2 fl_6_51 (by decide) rfl rfl rfl ?_
      obtain ⟨J41_1, eJ41_1, h⟩ := rx_let_o h
      have hJ41_1 : ∀ (x9 : Int32) (x10 : Int32) (x11 : Int32) (x12 : Int32) (S13 : rx_S), J41_1 x9 x10 x11 x12 S13 = some (zr, zS) → EV gC d mX6_choose 41 [some (.ref 81), none, none, some (.int x9), some (.int x10)] [.int x12, .int x11, .ref 87] S13 (rx_pv zS) := by
        intro x9 x10 x11 x12 S13 h
        subst eJ41_1
        obtain ⟨g14, h⟩ := rx_gd_o h
        obtain ⟨S15, eS15, h⟩ := rx_let_o h
        refine ex_iast _ 42 dX6_choose_41 dk_87 g14 rfl rfl eS15 ?_
        refine ev_aload_n (i := 0) 43 dX6_choose_42 rfl rfl rfl ?_
        refine ev_get (v := .ref 2) 46 dX6_choose_43 dk_81 fl_6_32 (by decide) rfl rfl rfl ?_
        refine ev_get (v := .int (S15.1 2 8)) 49 dX6_choose_46 dk_2 fl_6_51 (by decide) rfl rfl rfl ?_
        refine ev_if_le 64 52 dX6_choose_49 rfl rfl (fun c16 => ?_) (fun c16 => ?_)
        · replace h := rx_if_t c16 h
          refine ev_iconst (v := 0) 65 dX6_choose_64 (by decide) rfl ?_
          refine ev_istore_n (ls' := [some (.ref 81), none, none, some (.int 0), some (.int x10)]) 66 dX6_choose_65 rfl (Nat.le_of_ble_eq_true rfl) rfl rfl ?_
          obtain ⟨x17, ex17, h⟩ := rx_let_o h
          refine ev_iinc (v := x17) (ls' := [some (.ref 81), none, none, some (.int 0), some (.int x17)]) 69 dX6_choose_66 rfl (by rw [ex17]; rfl) (Nat.le_of_ble_eq_true rfl) rfl rfl ?_
          refine ev_goto 7 dX6_choose_69 rfl ?_
          exact (ih _ _ _ h).fewer (rx_le_s (rx_le_n (rx_le_n (rx_le_s (rx_le_s rx_le_0)))))
        · replace h := rx_if_f c16 h
          refine ev_iload_n (i := 3) 53 dX6_choose_52 rfl rfl rfl ?_
          refine ev_aload_n (i := 0) 54 dX6_choose_53 rfl rfl rfl ?_
          refine ev_get (v := .ref 2) 57 dX6_choose_54 dk_81 fl_6_32 (by decide) rfl rfl rfl ?_
          refine ev_get (v := .int (S15.1 2 8)) 60 dX6_choose_57 dk_2 fl_6_51 (by decide) rfl rfl rfl ?_
          obtain ⟨g18, h⟩ := rx_nz_o h
          refine ev_idiv 61 dX6_choose_60 g18 rfl ?_
          refine ev_goto 65 dX6_choose_61 rfl ?_
          obtain ⟨x19, ex19, h⟩ := rx_let_o h
          refine ev_nm ex19 ?_
          refine ev_istore_n (ls' := [some (.ref 81), none, none, some (.int x19), some (.int x10)]) 66 dX6_choose_65 rfl (Nat.le_of_ble_eq_true rfl) rfl rfl ?_
          obtain ⟨x20, ex20, h⟩ := rx_let_o h
          refine ev_iinc (v := x20) (ls' := [some (.ref 81), none, none, some (.int x19), some (.int x20)]) 69 dX6_choose_66 rfl (by rw [ex20]; rfl) (Nat.le_of_ble_eq_true rfl) rfl rfl ?_
          refine ev_goto 7 dX6_choose_69 rfl ?_
          exact (ih _ _ _ h).fewer (rx_le_s (rx_le_n (rx_le_n (rx_le_s (rx_le_s rx_le_0)))))
      refine ev_if_le 40 28 dX6_choose_25 rfl rfl (fun c21 => ?_) (fun c21 => ?_)
      · replace h := rx_if_t c21 h
        refine ev_iconst (v := 0) 41 dX6_choose_40 (by decide) rfl ?_
        exact (hJ41_1 _ _ _ _ _ h).fewer (rx_le_s (rx_le_n (rx_le_n (rx_le_s (rx_le_s rx_le_0)))))
      · replace h := rx_if_f c21 h
        refine ev_iload_n (i := 3) 29 dX6_choose_28 rfl rfl rfl ?_
        refine ev_aload_n (i := 0) 30 dX6_choose_29 rfl rfl rfl ?_
        refine ev_get (v := .ref 2) 33 dX6_choose_30 dk_81 fl_6_32 (by decide) rfl rfl rfl ?_
        refine ev_get (v := .int (S7.1 2 8)) 36 dX6_choose_33 dk_2 fl_6_51 (by decide) rfl rfl rfl ?_
        obtain ⟨g22, h⟩ := rx_nz_o h
        refine ev_rem 37 dX6_choose_36 g22 rfl ?_
        refine ev_goto 41 dX6_choose_37 rfl ?_
        exact (hJ41_1 _ _ _ _ _ h).fewer (rx_le_s (rx_le_n (rx_le_n (rx_le_s (rx_le_s rx_le_0)))))

set_option maxHeartbeats 4000000 in
set_option maxRecDepth 20000 in
theorem em_X6_choose {d N : Nat} {x1 : Int32} {x2 : Int32} {S0 : rx_S} {zr : Unit} {zS : rx_S} (h : f_X6_choose N x1 x2 S0 = some (zr, zS)) : EM gC d mX6_choose [.ref 81, .int x1, .int x2] S0 (rx_pv zS) := by
  unfold f_X6_choose at h
  show EV gC d mX6_choose 0 [some (.ref 81), some (.int x1), some (.int x2), none, none] [] S0 (rx_pv zS)
  refine ev_iload_n (i := 1) 1 dX6_choose_0 rfl rfl rfl ?_
  refine ev_istore_n (ls' := [some (.ref 81), some (.int x1), some (.int x2), some (.int x1), none]) 2 dX6_choose_1 rfl (Nat.le_of_ble_eq_true rfl) rfl rfl ?_
  refine ev_iload_n (i := 2) 3 dX6_choose_2 rfl rfl rfl ?_
  refine ev_iconst (v := 1) 4 dX6_choose_3 (by decide) rfl ?_
  refine ev_isub 5 dX6_choose_4 rfl ?_
  obtain ⟨x4, ex4, h⟩ := rx_let_o h
  refine ev_nm ex4 ?_
  refine ev_istore (ls' := [some (.ref 81), some (.int x1), some (.int x2), some (.int x1), some (.int x4)]) 7 dX6_choose_5 (Nat.le_of_ble_eq_true rfl) rfl rfl ?_
  exact (em_X6_choose_L7 _ _ _ _ h).fewer (rx_le_s (rx_le_n (rx_le_n (rx_le_s (rx_le_s rx_le_0)))))

def f_X6_lossOf_L14 (N : Nat) : Nat → Int32 → Int32 → Int32 → Int32 → rx_S → Option (Int32 × rx_S)
  | 0, _, _, _, _, _ => none
  | n + 1, x7, x8, x9, x10, S11 => if x7 ≤ x10 then (some (x9, S11)) else (rx_gd x10 3 (rx_let ((1 : Int32) <<< ((S11.1 87 (Int32.toNatClampNeg x10)) &&& 31)) (fun x14 => if (x8 &&& x14) = 0 then (rx_let (x8 ||| x14) (fun x16 => rx_gd x10 3 (rx_gd ((x10 * 4) + (S11.1 87 (Int32.toNatClampNeg x10))) 12 (rx_let (x9 + (S11.1 86 (Int32.toNatClampNeg ((x10 * 4) + (S11.1 87 (Int32.toNatClampNeg x10)))))) (fun x19 => rx_let (x10 + 1) (fun x20 => f_X6_lossOf_L14 N n x7 x16 x19 x20 S11)))))) else (some (1000000, S11)))))
def f_X6_lossOf (N : Nat) (x1 : Int32) (x2 : Int32) (S0 : rx_S) : Option (Int32 × rx_S) := rx_bd (f_X6_choose N x1 x2 S0) (fun x5 S4 => f_X6_lossOf_L14 N N x2 0 0 0 S4)
set_option maxHeartbeats 4000000 in
set_option maxRecDepth 20000 in
theorem em_X6_lossOf_L14 {d N : Nat} {zr : Int32} {zS : rx_S} : ∀ (n : Nat) (x7 : Int32) (x8 : Int32) (x9 : Int32) (x10 : Int32) (S11 : rx_S), f_X6_lossOf_L14 N n x7 x8 x9 x10 S11 = some (zr, zS) → EV gC (d + 1) mX6_lossOf 14 [some (.ref 81), none, some (.int x7), some (.int x8), some (.int x9), some (.int x10), none] [] S11 (rx_pi zr zS) := by
  intro n
  induction n with
  | zero => intro x7 x8 x9 x10 S11 h; cases h
  | succ n ih =>
    intro x7 x8 x9 x10 S11 h
    rw [f_X6_lossOf_L14] at h
    refine ev_iload 16 dX6_lossOf_14 rfl rfl ?_
    refine ev_iload_n (i := 2) 17 dX6_lossOf_16 rfl rfl rfl ?_
    refine ev_icmp_ge 74 20 dX6_lossOf_17 rfl rfl (fun c12 => ?_) (fun c12 => ?_)
    · replace h := rx_if_t c12 h
      refine ev_iload 76 dX6_lossOf_74 rfl rfl ?_
      exact ev_ireturn dX6_lossOf_76 rfl (rx_ret_i h)
    · replace h := rx_if_f c12 h
      refine ev_iconst (v := 1) 21 dX6_lossOf_20 (by decide) rfl ?_
      refine ev_aload_n (i := 0) 22 dX6_lossOf_21 rfl rfl rfl ?_
      refine ev_get (v := .ref 87) 25 dX6_lossOf_22 dk_81 fl_6_29 (by decide) rfl rfl rfl ?_
      refine ev_iload 27 dX6_lossOf_25 rfl rfl ?_
      obtain ⟨g13, h⟩ := rx_gd_o h
      refine ex_iald _ 28 dX6_lossOf_27 dk_87 g13 rfl rfl ?_
      refine ev_ishl 29 dX6_lossOf_28 rfl ?_
      obtain ⟨x14, ex14, h⟩ := rx_let_o h
      refine ev_nm ex14 ?_
      refine ev_istore (ls' := [some (.ref 81), none, some (.int x7), some (.int x8), some (.int x9), some (.int x10), some (.int x14)]) 31 dX6_lossOf_29 (Nat.le_of_ble_eq_true rfl) rfl rfl ?_
      refine ev_iload_n (i := 3) 32 dX6_lossOf_31 rfl rfl rfl ?_
      refine ev_iload 34 dX6_lossOf_32 rfl rfl ?_
      refine ev_iand 35 dX6_lossOf_34 rfl ?_
      refine ev_if_eq 41 38 dX6_lossOf_35 rfl rfl (fun c15 => ?_) (fun c15 => ?_)
      · replace h := rx_if_t c15 h
        refine ev_iload_n (i := 3) 42 dX6_lossOf_41 rfl rfl rfl ?_
        refine ev_iload 44 dX6_lossOf_42 rfl rfl ?_
        refine ev_ior 45 dX6_lossOf_44 rfl ?_
        obtain ⟨x16, ex16, h⟩ := rx_let_o h
        refine ev_nm ex16 ?_
        refine ev_istore_n (ls' := [some (.ref 81), none, some (.int x7), some (.int x16), some (.int x9), some (.int x10), some (.int x14)]) 46 dX6_lossOf_45 rfl (Nat.le_of_ble_eq_true rfl) rfl rfl ?_
        refine ev_iload 48 dX6_lossOf_46 rfl rfl ?_
        refine ev_aload_n (i := 0) 49 dX6_lossOf_48 rfl rfl rfl ?_
        refine ev_get (v := .ref 86) 52 dX6_lossOf_49 dk_81 fl_6_26 (by decide) rfl rfl rfl ?_
        refine ev_iload 54 dX6_lossOf_52 rfl rfl ?_
        refine ev_iconst (v := 4) 55 dX6_lossOf_54 (by decide) rfl ?_
        refine ev_imul 56 dX6_lossOf_55 rfl ?_
        refine ev_aload_n (i := 0) 57 dX6_lossOf_56 rfl rfl rfl ?_
        refine ev_get (v := .ref 87) 60 dX6_lossOf_57 dk_81 fl_6_29 (by decide) rfl rfl rfl ?_
        refine ev_iload 62 dX6_lossOf_60 rfl rfl ?_
        obtain ⟨g17, h⟩ := rx_gd_o h
        refine ex_iald _ 63 dX6_lossOf_62 dk_87 g17 rfl rfl ?_
        refine ev_iadd 64 dX6_lossOf_63 rfl ?_
        obtain ⟨g18, h⟩ := rx_gd_o h
        refine ex_iald _ 65 dX6_lossOf_64 dk_86 g18 rfl rfl ?_
        refine ev_iadd 66 dX6_lossOf_65 rfl ?_
        obtain ⟨x19, ex19, h⟩ := rx_let_o h
        refine ev_nm ex19 ?_
        refine ev_istore (ls' := [some (.ref 81), none, some (.int x7), some (.int x16), some (.int x19), some (.int x10), some (.int x14)]) 68 dX6_lossOf_66 (Nat.le_of_ble_eq_true rfl) rfl rfl ?_
        obtain ⟨x20, ex20, h⟩ := rx_let_o h
        refine ev_iinc (v := x20) (ls' := [some (.ref 81), none, some (.int x7), some (.int x16), some (.int x19), some (.int x20), some (.int x14)]) 71 dX6_lossOf_68 rfl (by rw [ex20]; rfl) (Nat.le_of_ble_eq_true rfl) rfl rfl ?_
        refine ev_goto 14 dX6_lossOf_71 rfl ?_
        exact (ih _ _ _ _ _ h).fewer (rx_le_s (rx_le_n (rx_le_s (rx_le_s (rx_le_s (rx_le_s (rx_le_n rx_le_0)))))))
      · replace h := rx_if_f c15 h
        refine ev_ldc (v := 1000000) 40 dX6_lossOf_38 rfl ct_6_50 rfl ?_
        exact ev_ireturn dX6_lossOf_40 rfl (rx_ret_i h)

set_option maxHeartbeats 4000000 in
set_option maxRecDepth 20000 in
theorem em_X6_lossOf {d N : Nat} {x1 : Int32} {x2 : Int32} {S0 : rx_S} {zr : Int32} {zS : rx_S} (h : f_X6_lossOf N x1 x2 S0 = some (zr, zS)) : EM gC (d + 1) mX6_lossOf [.ref 81, .int x1, .int x2] S0 (rx_pi zr zS) := by
  unfold f_X6_lossOf at h
  show EV gC (d + 1) mX6_lossOf 0 [some (.ref 81), some (.int x1), some (.int x2), none, none, none, none] [] S0 (rx_pi zr zS)
  refine ev_aload_n (i := 0) 1 dX6_lossOf_0 rfl rfl rfl ?_
  refine ev_iload_n (i := 1) 2 dX6_lossOf_1 rfl rfl rfl ?_
  refine ev_iload_n (i := 2) 3 dX6_lossOf_2 rfl rfl rfl ?_
  obtain ⟨x5, S4, g6, h⟩ := rx_bd_o h
  refine ev_cVv2 6 dX6_lossOf_3 (em_X6_choose g6) mm_X6_choose mv_X6_choose lk_6_108 dk_81 (by decide) rfl (Nat.le_of_ble_eq_true rfl) (Nat.le_of_ble_eq_true rfl) rfl ?_
  refine ev_iconst (v := 0) 7 dX6_lossOf_6 (by decide) rfl ?_
  refine ev_istore_n (ls' := [some (.ref 81), some (.int x1), some (.int x2), some (.int 0), none, none, none]) 8 dX6_lossOf_7 rfl (Nat.le_of_ble_eq_true rfl) rfl rfl ?_
  refine ev_iconst (v := 0) 9 dX6_lossOf_8 (by decide) rfl ?_
  refine ev_istore (ls' := [some (.ref 81), some (.int x1), some (.int x2), some (.int 0), some (.int 0), none, none]) 11 dX6_lossOf_9 (Nat.le_of_ble_eq_true rfl) rfl rfl ?_
  refine ev_iconst (v := 0) 12 dX6_lossOf_11 (by decide) rfl ?_
  refine ev_istore (ls' := [some (.ref 81), some (.int x1), some (.int x2), some (.int 0), some (.int 0), some (.int 0), none]) 14 dX6_lossOf_12 (Nat.le_of_ble_eq_true rfl) rfl rfl ?_
  exact (em_X6_lossOf_L14 _ _ _ _ _ _ h).fewer (rx_le_s (rx_le_n (rx_le_s (rx_le_s (rx_le_s (rx_le_s (rx_le_n rx_le_0)))))))

def f_X6_thirdFor_L25 (N : Nat) (K57 : Int32 → Int32 → rx_S → Option (Int32 × rx_S)) : Nat → Int32 → Int32 → Int32 → Int32 → rx_S → Option (Int32 × rx_S)
  | 0, _, _, _, _, _ => none
  | n + 1, x16, x17, x18, x19, S20 => if x16 ≤ x19 then (K57 x17 x18 S20) else (rx_gd ((19 : Int32) + x19) 48 (if (S20.1 32 (Int32.toNatClampNeg ((19 : Int32) + x19))) = 0 then (rx_let (x18 + 1) (fun x29 => rx_let (x19 + 1) (fun x30 => f_X6_thirdFor_L25 N K57 n x16 x17 x29 x30 S20))) else (rx_let (x18 + 0) (fun x27 => rx_let (x19 + 1) (fun x28 => f_X6_thirdFor_L25 N K57 n x16 x17 x27 x28 S20)))))
def f_X6_thirdFor (N : Nat) (x2 : Int32) (x3 : Int32) (x4 : Int32) (S0 : rx_S) : Option (Int32 × rx_S) := rx_gd ((19 : Int32) + x2) 48 (if (S0.1 32 (Int32.toNatClampNeg ((19 : Int32) + x2))) = 0 then (rx_bd (f_X6_choose N x3 x4 S0) (fun x9 S8 => rx_let (fun (x11 : Int32) (x12 : Int32) (S13 : rx_S) => if x11 ≤ x12 then (some ((-2), S13)) else (rx_gd x12 3 (some ((S13.1 87 (Int32.toNatClampNeg x12)), S13)))) (fun J57_1 => f_X6_thirdFor_L25 N J57_1 N x2 x4 0 0 S8))) else (some ((-2), S0)))
set_option maxHeartbeats 4000000 in
set_option maxRecDepth 20000 in
theorem em_X6_thirdFor_L25 {d N : Nat} {K57 : Int32 → Int32 → rx_S → Option (Int32 × rx_S)} {zr : Int32} {zS : rx_S} (hK57 : ∀ (x21 : Int32) (x22 : Int32) (S23 : rx_S), K57 x21 x22 S23 = some (zr, zS) → EV gC (d + 1) mX6_thirdFor 57 [some (.ref 81), some (.ref 32), none, none, some (.int x21), some (.int x22), none] [] S23 (rx_pi zr zS)) : ∀ (n : Nat) (x16 : Int32) (x17 : Int32) (x18 : Int32) (x19 : Int32) (S20 : rx_S), f_X6_thirdFor_L25 N K57 n x16 x17 x18 x19 S20 = some (zr, zS) → EV gC (d + 1) mX6_thirdFor 25 [some (.ref 81), some (.ref 32), some (.int x16), none, some (.int x17), some (.int x18), some (.int x19)] [] S20 (rx_pi zr zS) := by
  intro n
  induction n with
  | zero => intro x16 x17 x18 x19 S20 h; cases h
  | succ n ih =>
    intro x16 x17 x18 x19 S20 h
    rw [f_X6_thirdFor_L25] at h
    refine ev_iload 27 dX6_thirdFor_25 rfl rfl ?_
    refine ev_iload_n (i := 2) 28 dX6_thirdFor_27 rfl rfl rfl ?_
    refine ev_icmp_ge 57 31 dX6_thirdFor_28 rfl rfl (fun c24 => ?_) (fun c24 => ?_)
    · replace h := rx_if_t c24 h
      exact (hK57 _ _ _ h).fewer (rx_le_s (rx_le_s (rx_le_n (rx_le_n (rx_le_s (rx_le_s (rx_le_n rx_le_0)))))))
    · replace h := rx_if_f c24 h
      refine ev_iload 33 dX6_thirdFor_31 rfl rfl ?_
      refine ev_aload_n (i := 1) 34 dX6_thirdFor_33 rfl rfl rfl ?_
      refine ev_bipush (v := 19) 36 dX6_thirdFor_34 (by decide) rfl ?_
      refine ev_iload 38 dX6_thirdFor_36 rfl rfl ?_
      refine ev_iadd 39 dX6_thirdFor_38 rfl ?_
      obtain ⟨g25, h⟩ := rx_gd_o h
      refine ex_iald _ 40 dX6_thirdFor_39 dk_32 g25 rfl rfl ?_
      refine ev_if_ne 47 43 dX6_thirdFor_40 rfl rfl (fun c26 => ?_) (fun c26 => ?_)
      · replace h := rx_if_f c26 h
        refine ev_iconst (v := 0) 48 dX6_thirdFor_47 (by decide) rfl ?_
        refine ev_iadd 49 dX6_thirdFor_48 rfl ?_
        obtain ⟨x27, ex27, h⟩ := rx_let_o h
        refine ev_nm ex27 ?_
        refine ev_istore (ls' := [some (.ref 81), some (.ref 32), some (.int x16), none, some (.int x17), some (.int x27), some (.int x19)]) 51 dX6_thirdFor_49 (Nat.le_of_ble_eq_true rfl) rfl rfl ?_
        obtain ⟨x28, ex28, h⟩ := rx_let_o h
        refine ev_iinc (v := x28) (ls' := [some (.ref 81), some (.ref 32), some (.int x16), none, some (.int x17), some (.int x27), some (.int x28)]) 54 dX6_thirdFor_51 rfl (by rw [ex28]; rfl) (Nat.le_of_ble_eq_true rfl) rfl rfl ?_
        refine ev_goto 25 dX6_thirdFor_54 rfl ?_
        exact (ih _ _ _ _ _ h).fewer (rx_le_s (rx_le_s (rx_le_s (rx_le_n (rx_le_s (rx_le_s (rx_le_s rx_le_0)))))))
      · replace h := rx_if_t c26 h
        refine ev_iconst (v := 1) 44 dX6_thirdFor_43 (by decide) rfl ?_
        refine ev_goto 48 dX6_thirdFor_44 rfl ?_
        refine ev_iadd 49 dX6_thirdFor_48 rfl ?_
        obtain ⟨x29, ex29, h⟩ := rx_let_o h
        refine ev_nm ex29 ?_
        refine ev_istore (ls' := [some (.ref 81), some (.ref 32), some (.int x16), none, some (.int x17), some (.int x29), some (.int x19)]) 51 dX6_thirdFor_49 (Nat.le_of_ble_eq_true rfl) rfl rfl ?_
        obtain ⟨x30, ex30, h⟩ := rx_let_o h
        refine ev_iinc (v := x30) (ls' := [some (.ref 81), some (.ref 32), some (.int x16), none, some (.int x17), some (.int x29), some (.int x30)]) 54 dX6_thirdFor_51 rfl (by rw [ex30]; rfl) (Nat.le_of_ble_eq_true rfl) rfl rfl ?_
        refine ev_goto 25 dX6_thirdFor_54 rfl ?_
        exact (ih _ _ _ _ _ h).fewer (rx_le_s (rx_le_s (rx_le_s (rx_le_n (rx_le_s (rx_le_s (rx_le_s rx_le_0)))))))

set_option maxHeartbeats 4000000 in
set_option maxRecDepth 20000 in
theorem em_X6_thirdFor {d N : Nat} {x2 : Int32} {x3 : Int32} {x4 : Int32} {S0 : rx_S} {zr : Int32} {zS : rx_S} (h : f_X6_thirdFor N x2 x3 x4 S0 = some (zr, zS)) : EM gC (d + 1) mX6_thirdFor [.ref 81, .ref 32, .int x2, .int x3, .int x4] S0 (rx_pi zr zS) := by
  unfold f_X6_thirdFor at h
  show EV gC (d + 1) mX6_thirdFor 0 [some (.ref 81), some (.ref 32), some (.int x2), some (.int x3), some (.int x4), none, none] [] S0 (rx_pi zr zS)
  refine ev_aload_n (i := 1) 1 dX6_thirdFor_0 rfl rfl rfl ?_
  refine ev_bipush (v := 19) 3 dX6_thirdFor_1 (by decide) rfl ?_
  refine ev_iload_n (i := 2) 4 dX6_thirdFor_3 rfl rfl rfl ?_
  refine ev_iadd 5 dX6_thirdFor_4 rfl ?_
  obtain ⟨g6, h⟩ := rx_gd_o h
  refine ex_iald _ 6 dX6_thirdFor_5 dk_32 g6 rfl rfl ?_
  refine ev_if_eq 12 9 dX6_thirdFor_6 rfl rfl (fun c7 => ?_) (fun c7 => ?_)
  · replace h := rx_if_t c7 h
    refine ev_aload_n (i := 0) 13 dX6_thirdFor_12 rfl rfl rfl ?_
    refine ev_iload_n (i := 3) 14 dX6_thirdFor_13 rfl rfl rfl ?_
    refine ev_iload 16 dX6_thirdFor_14 rfl rfl ?_
    obtain ⟨x9, S8, g10, h⟩ := rx_bd_o h
    refine ev_cVv2 19 dX6_thirdFor_16 (em_X6_choose g10) mm_X6_choose mv_X6_choose lk_6_108 dk_81 (by decide) rfl (Nat.le_of_ble_eq_true rfl) (Nat.le_of_ble_eq_true rfl) rfl ?_
    refine ev_iconst (v := 0) 20 dX6_thirdFor_19 (by decide) rfl ?_
    refine ev_istore (ls' := [some (.ref 81), some (.ref 32), some (.int x2), some (.int x3), some (.int x4), some (.int 0), none]) 22 dX6_thirdFor_20 (Nat.le_of_ble_eq_true rfl) rfl rfl ?_
    refine ev_iconst (v := 0) 23 dX6_thirdFor_22 (by decide) rfl ?_
    refine ev_istore (ls' := [some (.ref 81), some (.ref 32), some (.int x2), some (.int x3), some (.int x4), some (.int 0), some (.int 0)]) 25 dX6_thirdFor_23 (Nat.le_of_ble_eq_true rfl) rfl rfl ?_
    obtain ⟨J57_1, eJ57_1, h⟩ := rx_let_o h
    have hJ57_1 : ∀ (x11 : Int32) (x12 : Int32) (S13 : rx_S), J57_1 x11 x12 S13 = some (zr, zS) → EV gC (d + 1) mX6_thirdFor 57 [some (.ref 81), some (.ref 32), none, none, some (.int x11), some (.int x12), none] [] S13 (rx_pi zr zS) := by
      intro x11 x12 S13 h
      subst eJ57_1
      refine ev_iload 59 dX6_thirdFor_57 rfl rfl ?_
      refine ev_iload 61 dX6_thirdFor_59 rfl rfl ?_
      refine ev_icmp_ge 74 64 dX6_thirdFor_61 rfl rfl (fun c14 => ?_) (fun c14 => ?_)
      · replace h := rx_if_t c14 h
        refine ev_bipush (v := (-2)) 76 dX6_thirdFor_74 (by decide) rfl ?_
        exact ev_ireturn dX6_thirdFor_76 rfl (rx_ret_i h)
      · replace h := rx_if_f c14 h
        refine ev_aload_n (i := 0) 65 dX6_thirdFor_64 rfl rfl rfl ?_
        refine ev_get (v := .ref 87) 68 dX6_thirdFor_65 dk_81 fl_6_29 (by decide) rfl rfl rfl ?_
        refine ev_iload 70 dX6_thirdFor_68 rfl rfl ?_
        obtain ⟨g15, h⟩ := rx_gd_o h
        refine ex_iald _ 71 dX6_thirdFor_70 dk_87 g15 rfl rfl ?_
        refine ev_goto 76 dX6_thirdFor_71 rfl ?_
        exact ev_ireturn dX6_thirdFor_76 rfl (rx_ret_i h)
    exact (em_X6_thirdFor_L25 hJ57_1 _ _ _ _ _ _ h).fewer (rx_le_s (rx_le_s (rx_le_s (rx_le_n (rx_le_s (rx_le_s (rx_le_s rx_le_0)))))))
  · replace h := rx_if_f c7 h
    refine ev_bipush (v := (-2)) 11 dX6_thirdFor_9 (by decide) rfl ?_
    exact ev_ireturn dX6_thirdFor_11 rfl (rx_ret_i h)

def f_X6_bestHire_L60 (N : Nat) (K97 : Int32 → Int32 → Int32 → Int32 → rx_S → Option (Int32 × rx_S)) : Nat → Int32 → Int32 → Int32 → Int32 → Int32 → Int32 → rx_S → Option (Int32 × rx_S)
  | 0, _, _, _, _, _, _, _ => none
  | n + 1, x21, x22, x23, x24, x25, x26, S27 => if x23 ≤ x26 then (K97 x21 x22 x24 x25 S27) else (rx_bd (f_X6_lossOf N x26 x22 S27) (fun x35 S34 => if x25 ≤ x35 then (rx_let (x26 + 1) (fun x38 => f_X6_bestHire_L60 N K97 n x21 x22 x23 x24 x25 x38 S34)) else (rx_let (x26 + 1) (fun x39 => f_X6_bestHire_L60 N K97 n x21 x22 x23 x26 x35 x39 S34))))
def f_X6_bestHire_L26 (N : Nat) (K50 : Int32 → Int32 → Int32 → rx_S → Option (Int32 × rx_S)) : Nat → Int32 → Int32 → Int32 → Int32 → rx_S → Option (Int32 × rx_S)
  | 0, _, _, _, _, _ => none
  | n + 1, x40, x41, x42, x43, S44 => if x41 ≤ x43 then (K50 x40 x41 x42 S44) else (rx_let (x42 * (S44.1 2 8)) (fun x50 => rx_let (x43 + 1) (fun x51 => f_X6_bestHire_L26 N K50 n x40 x41 x50 x51 S44)))
def f_X6_bestHire (N : Nat) (x2 : Int32) (S0 : rx_S) : Option (Int32 × rx_S) := rx_bd (f_X6_fillLosses N S0) (fun x5 S4 => if x5 ≤ (S4.1 2 8) then (rx_let (fun (x8 : Int32) (x9 : Int32) (x10 : Int32) (S11 : rx_S) => rx_let (fun (x12 : Int32) (x13 : Int32) (x14 : Int32) (x15 : Int32) (S16 : rx_S) => if x12 = (-1) then (some (x15, S16)) else (rx_bd (f_X6_thirdFor N x12 x14 x13 S16) (fun x19 S18 => some (x19, S18)))) (fun J97_2 => f_X6_bestHire_L60 N J97_2 N x8 x9 x10 0 1000000 0 S11)) (fun J50_1 => f_X6_bestHire_L26 N J50_1 N x2 x5 1 0 S4)) else (some ((-2), S4)))
set_option maxHeartbeats 4000000 in
set_option maxRecDepth 20000 in
theorem em_X6_bestHire_L60 {d N : Nat} {K97 : Int32 → Int32 → Int32 → Int32 → rx_S → Option (Int32 × rx_S)} {zr : Int32} {zS : rx_S} (hK97 : ∀ (x28 : Int32) (x29 : Int32) (x30 : Int32) (x31 : Int32) (S32 : rx_S), K97 x28 x29 x30 x31 S32 = some (zr, zS) → EV gC (d + 6) mX6_bestHire 97 [some (.ref 81), some (.ref 32), some (.int x28), some (.int x29), none, some (.int x30), some (.int x31), none, none] [] S32 (rx_pi zr zS)) : ∀ (n : Nat) (x21 : Int32) (x22 : Int32) (x23 : Int32) (x24 : Int32) (x25 : Int32) (x26 : Int32) (S27 : rx_S), f_X6_bestHire_L60 N K97 n x21 x22 x23 x24 x25 x26 S27 = some (zr, zS) → EV gC (d + 6) mX6_bestHire 60 [some (.ref 81), some (.ref 32), some (.int x21), some (.int x22), some (.int x23), some (.int x24), some (.int x25), some (.int x26), none] [] S27 (rx_pi zr zS) := by
  intro n
  induction n with
  | zero => intro x21 x22 x23 x24 x25 x26 S27 h; cases h
  | succ n ih =>
    intro x21 x22 x23 x24 x25 x26 S27 h
    rw [f_X6_bestHire_L60] at h
    refine ev_iload 62 dX6_bestHire_60 rfl rfl ?_
    refine ev_iload 64 dX6_bestHire_62 rfl rfl ?_
    refine ev_icmp_ge 97 67 dX6_bestHire_64 rfl rfl (fun c33 => ?_) (fun c33 => ?_)
    · replace h := rx_if_t c33 h
      exact (hK97 _ _ _ _ _ h).fewer (rx_le_s (rx_le_s (rx_le_s (rx_le_s (rx_le_n (rx_le_s (rx_le_s (rx_le_n (rx_le_n rx_le_0)))))))))
    · replace h := rx_if_f c33 h
      refine ev_aload_n (i := 0) 68 dX6_bestHire_67 rfl rfl rfl ?_
      refine ev_iload 70 dX6_bestHire_68 rfl rfl ?_
      refine ev_iload_n (i := 3) 71 dX6_bestHire_70 rfl rfl rfl ?_
      obtain ⟨x35, S34, g36, h⟩ := rx_bd_o h
      refine ev_cVi2 74 dX6_bestHire_71 (em_X6_lossOf g36) mm_X6_lossOf mv_X6_lossOf lk_6_92 dk_81 (by decide) rfl (Nat.le_of_ble_eq_true rfl) (Nat.le_of_ble_eq_true rfl) rfl ?_
      refine ev_istore (ls' := [some (.ref 81), some (.ref 32), some (.int x21), some (.int x22), some (.int x23), some (.int x24), some (.int x25), some (.int x26), some (.int x35)]) 76 dX6_bestHire_74 (Nat.le_of_ble_eq_true rfl) rfl rfl ?_
      refine ev_iload 78 dX6_bestHire_76 rfl rfl ?_
      refine ev_iload 80 dX6_bestHire_78 rfl rfl ?_
      refine ev_icmp_ge 91 83 dX6_bestHire_80 rfl rfl (fun c37 => ?_) (fun c37 => ?_)
      · replace h := rx_if_t c37 h
        obtain ⟨x38, ex38, h⟩ := rx_let_o h
        refine ev_iinc (v := x38) (ls' := [some (.ref 81), some (.ref 32), some (.int x21), some (.int x22), some (.int x23), some (.int x24), some (.int x25), some (.int x38), some (.int x35)]) 94 dX6_bestHire_91 rfl (by rw [ex38]; rfl) (Nat.le_of_ble_eq_true rfl) rfl rfl ?_
        refine ev_goto 60 dX6_bestHire_94 rfl ?_
        exact (ih _ _ _ _ _ _ _ h).fewer (rx_le_s (rx_le_s (rx_le_s (rx_le_s (rx_le_s (rx_le_s (rx_le_s (rx_le_s (rx_le_n rx_le_0)))))))))
      · replace h := rx_if_f c37 h
        refine ev_iload 85 dX6_bestHire_83 rfl rfl ?_
        refine ev_istore (ls' := [some (.ref 81), some (.ref 32), some (.int x21), some (.int x22), some (.int x23), some (.int x24), some (.int x35), some (.int x26), some (.int x35)]) 87 dX6_bestHire_85 (Nat.le_of_ble_eq_true rfl) rfl rfl ?_
        refine ev_iload 89 dX6_bestHire_87 rfl rfl ?_
        refine ev_istore (ls' := [some (.ref 81), some (.ref 32), some (.int x21), some (.int x22), some (.int x23), some (.int x26), some (.int x35), some (.int x26), some (.int x35)]) 91 dX6_bestHire_89 (Nat.le_of_ble_eq_true rfl) rfl rfl ?_
        obtain ⟨x39, ex39, h⟩ := rx_let_o h
        refine ev_iinc (v := x39) (ls' := [some (.ref 81), some (.ref 32), some (.int x21), some (.int x22), some (.int x23), some (.int x26), some (.int x35), some (.int x39), some (.int x35)]) 94 dX6_bestHire_91 rfl (by rw [ex39]; rfl) (Nat.le_of_ble_eq_true rfl) rfl rfl ?_
        refine ev_goto 60 dX6_bestHire_94 rfl ?_
        exact (ih _ _ _ _ _ _ _ h).fewer (rx_le_s (rx_le_s (rx_le_s (rx_le_s (rx_le_s (rx_le_s (rx_le_s (rx_le_s (rx_le_n rx_le_0)))))))))

set_option maxHeartbeats 4000000 in
set_option maxRecDepth 20000 in
theorem em_X6_bestHire_L26 {d N : Nat} {K50 : Int32 → Int32 → Int32 → rx_S → Option (Int32 × rx_S)} {zr : Int32} {zS : rx_S} (hK50 : ∀ (x45 : Int32) (x46 : Int32) (x47 : Int32) (S48 : rx_S), K50 x45 x46 x47 S48 = some (zr, zS) → EV gC (d + 6) mX6_bestHire 50 [some (.ref 81), some (.ref 32), some (.int x45), some (.int x46), some (.int x47), none, none, none, none] [] S48 (rx_pi zr zS)) : ∀ (n : Nat) (x40 : Int32) (x41 : Int32) (x42 : Int32) (x43 : Int32) (S44 : rx_S), f_X6_bestHire_L26 N K50 n x40 x41 x42 x43 S44 = some (zr, zS) → EV gC (d + 6) mX6_bestHire 26 [some (.ref 81), some (.ref 32), some (.int x40), some (.int x41), some (.int x42), some (.int x43), none, none, none] [] S44 (rx_pi zr zS) := by
  intro n
  induction n with
  | zero => intro x40 x41 x42 x43 S44 h; cases h
  | succ n ih =>
    intro x40 x41 x42 x43 S44 h
    rw [f_X6_bestHire_L26] at h
    refine ev_iload 28 dX6_bestHire_26 rfl rfl ?_
    refine ev_iload_n (i := 3) 29 dX6_bestHire_28 rfl rfl rfl ?_
    refine ev_icmp_ge 50 32 dX6_bestHire_29 rfl rfl (fun c49 => ?_) (fun c49 => ?_)
    · replace h := rx_if_t c49 h
      exact (hK50 _ _ _ _ h).fewer (rx_le_s (rx_le_s (rx_le_s (rx_le_s (rx_le_s (rx_le_n (rx_le_n (rx_le_n (rx_le_n rx_le_0)))))))))
    · replace h := rx_if_f c49 h
      refine ev_iload 34 dX6_bestHire_32 rfl rfl ?_
      refine ev_aload_n (i := 0) 35 dX6_bestHire_34 rfl rfl rfl ?_
      refine ev_get (v := .ref 2) 38 dX6_bestHire_35 dk_81 fl_6_32 (by decide) rfl rfl rfl ?_
      refine ev_get (v := .int (S44.1 2 8)) 41 dX6_bestHire_38 dk_2 fl_6_51 (by decide) rfl rfl rfl ?_
      refine ev_imul 42 dX6_bestHire_41 rfl ?_
      obtain ⟨x50, ex50, h⟩ := rx_let_o h
      refine ev_nm ex50 ?_
      refine ev_istore (ls' := [some (.ref 81), some (.ref 32), some (.int x40), some (.int x41), some (.int x50), some (.int x43), none, none, none]) 44 dX6_bestHire_42 (Nat.le_of_ble_eq_true rfl) rfl rfl ?_
      obtain ⟨x51, ex51, h⟩ := rx_let_o h
      refine ev_iinc (v := x51) (ls' := [some (.ref 81), some (.ref 32), some (.int x40), some (.int x41), some (.int x50), some (.int x51), none, none, none]) 47 dX6_bestHire_44 rfl (by rw [ex51]; rfl) (Nat.le_of_ble_eq_true rfl) rfl rfl ?_
      refine ev_goto 26 dX6_bestHire_47 rfl ?_
      exact (ih _ _ _ _ _ h).fewer (rx_le_s (rx_le_s (rx_le_s (rx_le_s (rx_le_s (rx_le_s (rx_le_n (rx_le_n (rx_le_n rx_le_0)))))))))

set_option maxHeartbeats 4000000 in
set_option maxRecDepth 20000 in
theorem em_X6_bestHire {d N : Nat} {x2 : Int32} {S0 : rx_S} {zr : Int32} {zS : rx_S} (h : f_X6_bestHire N x2 S0 = some (zr, zS)) : EM gC (d + 6) mX6_bestHire [.ref 81, .ref 32, .int x2] S0 (rx_pi zr zS) := by
  unfold f_X6_bestHire at h
  show EV gC (d + 6) mX6_bestHire 0 [some (.ref 81), some (.ref 32), some (.int x2), none, none, none, none, none, none] [] S0 (rx_pi zr zS)
  refine ev_aload_n (i := 0) 1 dX6_bestHire_0 rfl rfl rfl ?_
  refine ev_aload_n (i := 1) 2 dX6_bestHire_1 rfl rfl rfl ?_
  obtain ⟨x5, S4, g6, h⟩ := rx_bd_o h
  refine ev_cVi1 5 dX6_bestHire_2 (em_X6_fillLosses g6) mm_X6_fillLosses mv_X6_fillLosses lk_6_88 dk_81 (by decide) rfl (Nat.le_of_ble_eq_true rfl) (Nat.le_of_ble_eq_true rfl) rfl ?_
  refine ev_istore_n (ls' := [some (.ref 81), some (.ref 32), some (.int x2), some (.int x5), none, none, none, none, none]) 6 dX6_bestHire_5 rfl (Nat.le_of_ble_eq_true rfl) rfl rfl ?_
  refine ev_iload_n (i := 3) 7 dX6_bestHire_6 rfl rfl rfl ?_
  refine ev_aload_n (i := 0) 8 dX6_bestHire_7 rfl rfl rfl ?_
  refine ev_get (v := .ref 2) 11 dX6_bestHire_8 dk_81 fl_6_32 (by decide) rfl rfl rfl ?_
  refine ev_get (v := .int (S4.1 2 8)) 14 dX6_bestHire_11 dk_2 fl_6_51 (by decide) rfl rfl rfl ?_
  refine ev_icmp_le 20 17 dX6_bestHire_14 rfl rfl (fun c7 => ?_) (fun c7 => ?_)
  · replace h := rx_if_t c7 h
    refine ev_iconst (v := 1) 21 dX6_bestHire_20 (by decide) rfl ?_
    refine ev_istore (ls' := [some (.ref 81), some (.ref 32), some (.int x2), some (.int x5), some (.int 1), none, none, none, none]) 23 dX6_bestHire_21 (Nat.le_of_ble_eq_true rfl) rfl rfl ?_
    refine ev_iconst (v := 0) 24 dX6_bestHire_23 (by decide) rfl ?_
    refine ev_istore (ls' := [some (.ref 81), some (.ref 32), some (.int x2), some (.int x5), some (.int 1), some (.int 0), none, none, none]) 26 dX6_bestHire_24 (Nat.le_of_ble_eq_true rfl) rfl rfl ?_
    obtain ⟨J50_1, eJ50_1, h⟩ := rx_let_o h
    have hJ50_1 : ∀ (x8 : Int32) (x9 : Int32) (x10 : Int32) (S11 : rx_S), J50_1 x8 x9 x10 S11 = some (zr, zS) → EV gC (d + 6) mX6_bestHire 50 [some (.ref 81), some (.ref 32), some (.int x8), some (.int x9), some (.int x10), none, none, none, none] [] S11 (rx_pi zr zS) := by
      intro x8 x9 x10 S11 h
      subst eJ50_1
      refine ev_iconst (v := 0) 51 dX6_bestHire_50 (by decide) rfl ?_
      refine ev_istore (ls' := [some (.ref 81), some (.ref 32), some (.int x8), some (.int x9), some (.int x10), some (.int 0), none, none, none]) 53 dX6_bestHire_51 (Nat.le_of_ble_eq_true rfl) rfl rfl ?_
      refine ev_ldc (v := 1000000) 55 dX6_bestHire_53 rfl ct_6_50 rfl ?_
      refine ev_istore (ls' := [some (.ref 81), some (.ref 32), some (.int x8), some (.int x9), some (.int x10), some (.int 0), some (.int 1000000), none, none]) 57 dX6_bestHire_55 (Nat.le_of_ble_eq_true rfl) rfl rfl ?_
      refine ev_iconst (v := 0) 58 dX6_bestHire_57 (by decide) rfl ?_
      refine ev_istore (ls' := [some (.ref 81), some (.ref 32), some (.int x8), some (.int x9), some (.int x10), some (.int 0), some (.int 1000000), some (.int 0), none]) 60 dX6_bestHire_58 (Nat.le_of_ble_eq_true rfl) rfl rfl ?_
      obtain ⟨J97_2, eJ97_2, h⟩ := rx_let_o h
      have hJ97_2 : ∀ (x12 : Int32) (x13 : Int32) (x14 : Int32) (x15 : Int32) (S16 : rx_S), J97_2 x12 x13 x14 x15 S16 = some (zr, zS) → EV gC (d + 6) mX6_bestHire 97 [some (.ref 81), some (.ref 32), some (.int x12), some (.int x13), none, some (.int x14), some (.int x15), none, none] [] S16 (rx_pi zr zS) := by
        intro x12 x13 x14 x15 S16 h
        subst eJ97_2
        refine ev_iload_n (i := 2) 98 dX6_bestHire_97 rfl rfl rfl ?_
        refine ev_iconst (v := (-1)) 99 dX6_bestHire_98 (by decide) rfl ?_
        refine ev_icmp_ne 107 102 dX6_bestHire_99 rfl rfl (fun c17 => ?_) (fun c17 => ?_)
        · replace h := rx_if_f c17 h
          refine ev_aload_n (i := 0) 108 dX6_bestHire_107 rfl rfl rfl ?_
          refine ev_aload_n (i := 1) 109 dX6_bestHire_108 rfl rfl rfl ?_
          refine ev_iload_n (i := 2) 110 dX6_bestHire_109 rfl rfl rfl ?_
          refine ev_iload 112 dX6_bestHire_110 rfl rfl ?_
          refine ev_iload_n (i := 3) 113 dX6_bestHire_112 rfl rfl rfl ?_
          obtain ⟨x19, S18, g20, h⟩ := rx_bd_o h
          refine ev_cVi4 116 dX6_bestHire_113 (em_X6_thirdFor g20) mm_X6_thirdFor mv_X6_thirdFor lk_6_95 dk_81 (by decide) rfl (Nat.le_of_ble_eq_true rfl) (Nat.le_of_ble_eq_true rfl) rfl ?_
          exact ev_ireturn dX6_bestHire_116 rfl (rx_ret_i h)
        · replace h := rx_if_t c17 h
          refine ev_iload 104 dX6_bestHire_102 rfl rfl ?_
          refine ev_goto 116 dX6_bestHire_104 rfl ?_
          exact ev_ireturn dX6_bestHire_116 rfl (rx_ret_i h)
      exact (em_X6_bestHire_L60 hJ97_2 _ _ _ _ _ _ _ _ h).fewer (rx_le_s (rx_le_s (rx_le_s (rx_le_s (rx_le_s (rx_le_s (rx_le_s (rx_le_s (rx_le_n rx_le_0)))))))))
    exact (em_X6_bestHire_L26 hJ50_1 _ _ _ _ _ _ h).fewer (rx_le_s (rx_le_s (rx_le_s (rx_le_s (rx_le_s (rx_le_s (rx_le_n (rx_le_n (rx_le_n rx_le_0)))))))))
  · replace h := rx_if_f c7 h
    refine ev_bipush (v := (-2)) 19 dX6_bestHire_17 (by decide) rfl ?_
    exact ev_ireturn dX6_bestHire_19 rfl (rx_ret_i h)

def f_X8_copy (S0 : rx_S) : Option (Unit × rx_S) := rx_bd (f_X2_copy S0) (fun x4 S3 => rx_let (rx_ur S3 8 (va_cpy (S3.1 25) (S3.1 8) 0 0 6)) (fun S6 => rx_let (rx_ur S6 9 (va_cpy (S6.1 26) (S6.1 9) 0 0 6)) (fun S7 => rx_let (rx_ur S7 10 (va_cpy (S7.1 27) (S7.1 10) 0 0 6)) (fun S8 => rx_let (rx_ur S8 11 (va_cpy (S8.1 28) (S8.1 11) 0 0 4)) (fun S9 => rx_let (rx_ur S9 12 (va_cpy (S9.1 29) (S9.1 12) 0 0 4)) (fun S10 => rx_let (rx_ui S10 2 6 (S10.1 19 6)) (fun S11 => rx_let (rx_ui S11 2 7 (S11.1 19 7)) (fun S12 => rx_let (rx_ui S12 2 8 (S12.1 19 8)) (fun S13 => rx_let (rx_ui S13 2 9 (S13.1 19 9)) (fun S14 => rx_let (rx_ui S14 2 10 (S14.1 19 10)) (fun S15 => some ((), S15))))))))))))
set_option maxHeartbeats 4000000 in
set_option maxRecDepth 20000 in
theorem em_X8_copy {d : Nat} {S0 : rx_S} {zr : Unit} {zS : rx_S} (h : f_X8_copy S0 = some (zr, zS)) : EM gC (d + 2) mX8_copy [.ref 2, .ref 19] S0 (rx_pv zS) := by
  unfold f_X8_copy at h
  show EV gC (d + 2) mX8_copy 0 [some (.ref 2), some (.ref 19)] [] S0 (rx_pv zS)
  refine ev_aload_n (i := 0) 1 dX8_copy_0 rfl rfl rfl ?_
  refine ev_get (v := .ref 3) 4 dX8_copy_1 dk_2 fl_8_12 (by decide) rfl rfl rfl ?_
  refine ev_aload_n (i := 1) 5 dX8_copy_4 rfl rfl rfl ?_
  refine ev_get (v := .ref 20) 8 dX8_copy_5 dk_19 fl_8_12 (by decide) rfl rfl rfl ?_
  obtain ⟨x4, S3, g5, h⟩ := rx_bd_o h
  refine ev_cVv1 11 dX8_copy_8 (em_X2_copy g5) mm_X2_copy mv_X2_copy lk_8_53 dk_3 (by decide) rfl (Nat.le_of_ble_eq_true rfl) (Nat.le_of_ble_eq_true rfl) rfl ?_
  refine ev_aload_n (i := 1) 12 dX8_copy_11 rfl rfl rfl ?_
  refine ev_get (v := .ref 25) 15 dX8_copy_12 dk_19 fl_8_18 (by decide) rfl rfl rfl ?_
  refine ev_iconst (v := 0) 16 dX8_copy_15 (by decide) rfl ?_
  refine ev_aload_n (i := 0) 17 dX8_copy_16 rfl rfl rfl ?_
  refine ev_get (v := .ref 8) 20 dX8_copy_17 dk_2 fl_8_18 (by decide) rfl rfl rfl ?_
  refine ev_iconst (v := 0) 21 dX8_copy_20 (by decide) rfl ?_
  refine ev_bipush (v := 6) 23 dX8_copy_21 (by decide) rfl ?_
  obtain ⟨S6, eS6, h⟩ := rx_let_o h
  refine ex_cp 0 0 6 26 dX8_copy_23 lk_8_57 dk_25 dk_8 (by decide) (by decide) (by decide) (by decide) (by decide) (by decide) (by decide) (by decide) (Nat.le_of_ble_eq_true rfl) rfl eS6 ?_
  refine ev_aload_n (i := 1) 27 dX8_copy_26 rfl rfl rfl ?_
  refine ev_get (v := .ref 26) 30 dX8_copy_27 dk_19 fl_8_22 (by decide) rfl rfl rfl ?_
  refine ev_iconst (v := 0) 31 dX8_copy_30 (by decide) rfl ?_
  refine ev_aload_n (i := 0) 32 dX8_copy_31 rfl rfl rfl ?_
  refine ev_get (v := .ref 9) 35 dX8_copy_32 dk_2 fl_8_22 (by decide) rfl rfl rfl ?_
  refine ev_iconst (v := 0) 36 dX8_copy_35 (by decide) rfl ?_
  refine ev_bipush (v := 6) 38 dX8_copy_36 (by decide) rfl ?_
  obtain ⟨S7, eS7, h⟩ := rx_let_o h
  refine ex_cp 0 0 6 41 dX8_copy_38 lk_8_57 dk_26 dk_9 (by decide) (by decide) (by decide) (by decide) (by decide) (by decide) (by decide) (by decide) (Nat.le_of_ble_eq_true rfl) rfl eS7 ?_
  refine ev_aload_n (i := 1) 42 dX8_copy_41 rfl rfl rfl ?_
  refine ev_get (v := .ref 27) 45 dX8_copy_42 dk_19 fl_8_25 (by decide) rfl rfl rfl ?_
  refine ev_iconst (v := 0) 46 dX8_copy_45 (by decide) rfl ?_
  refine ev_aload_n (i := 0) 47 dX8_copy_46 rfl rfl rfl ?_
  refine ev_get (v := .ref 10) 50 dX8_copy_47 dk_2 fl_8_25 (by decide) rfl rfl rfl ?_
  refine ev_iconst (v := 0) 51 dX8_copy_50 (by decide) rfl ?_
  refine ev_bipush (v := 6) 53 dX8_copy_51 (by decide) rfl ?_
  obtain ⟨S8, eS8, h⟩ := rx_let_o h
  refine ex_cp 0 0 6 56 dX8_copy_53 lk_8_57 dk_27 dk_10 (by decide) (by decide) (by decide) (by decide) (by decide) (by decide) (by decide) (by decide) (Nat.le_of_ble_eq_true rfl) rfl eS8 ?_
  refine ev_aload_n (i := 1) 57 dX8_copy_56 rfl rfl rfl ?_
  refine ev_get (v := .ref 28) 60 dX8_copy_57 dk_19 fl_8_28 (by decide) rfl rfl rfl ?_
  refine ev_iconst (v := 0) 61 dX8_copy_60 (by decide) rfl ?_
  refine ev_aload_n (i := 0) 62 dX8_copy_61 rfl rfl rfl ?_
  refine ev_get (v := .ref 11) 65 dX8_copy_62 dk_2 fl_8_28 (by decide) rfl rfl rfl ?_
  refine ev_iconst (v := 0) 66 dX8_copy_65 (by decide) rfl ?_
  refine ev_iconst (v := 4) 67 dX8_copy_66 (by decide) rfl ?_
  obtain ⟨S9, eS9, h⟩ := rx_let_o h
  refine ex_cp 0 0 4 70 dX8_copy_67 lk_8_57 dk_28 dk_11 (by decide) (by decide) (by decide) (by decide) (by decide) (by decide) (by decide) (by decide) (Nat.le_of_ble_eq_true rfl) rfl eS9 ?_
  refine ev_aload_n (i := 1) 71 dX8_copy_70 rfl rfl rfl ?_
  refine ev_get (v := .ref 29) 74 dX8_copy_71 dk_19 fl_8_31 (by decide) rfl rfl rfl ?_
  refine ev_iconst (v := 0) 75 dX8_copy_74 (by decide) rfl ?_
  refine ev_aload_n (i := 0) 76 dX8_copy_75 rfl rfl rfl ?_
  refine ev_get (v := .ref 12) 79 dX8_copy_76 dk_2 fl_8_31 (by decide) rfl rfl rfl ?_
  refine ev_iconst (v := 0) 80 dX8_copy_79 (by decide) rfl ?_
  refine ev_iconst (v := 4) 81 dX8_copy_80 (by decide) rfl ?_
  obtain ⟨S10, eS10, h⟩ := rx_let_o h
  refine ex_cp 0 0 4 84 dX8_copy_81 lk_8_57 dk_29 dk_12 (by decide) (by decide) (by decide) (by decide) (by decide) (by decide) (by decide) (by decide) (Nat.le_of_ble_eq_true rfl) rfl eS10 ?_
  refine ev_aload_n (i := 0) 85 dX8_copy_84 rfl rfl rfl ?_
  refine ev_aload_n (i := 1) 86 dX8_copy_85 rfl rfl rfl ?_
  refine ev_get (v := .int (S10.1 19 6)) 89 dX8_copy_86 dk_19 fl_8_37 (by decide) rfl rfl rfl ?_
  obtain ⟨S11, eS11, h⟩ := rx_let_o h
  refine ex_put 92 dX8_copy_89 dk_2 fl_8_37 pp_8_6 (by decide) rfl rfl rfl rfl eS11 ?_
  refine ev_aload_n (i := 0) 93 dX8_copy_92 rfl rfl rfl ?_
  refine ev_aload_n (i := 1) 94 dX8_copy_93 rfl rfl rfl ?_
  refine ev_get (v := .int (S11.1 19 7)) 97 dX8_copy_94 dk_19 fl_8_41 (by decide) rfl rfl rfl ?_
  obtain ⟨S12, eS12, h⟩ := rx_let_o h
  refine ex_put 100 dX8_copy_97 dk_2 fl_8_41 pp_8_7 (by decide) rfl rfl rfl rfl eS12 ?_
  refine ev_aload_n (i := 0) 101 dX8_copy_100 rfl rfl rfl ?_
  refine ev_aload_n (i := 1) 102 dX8_copy_101 rfl rfl rfl ?_
  refine ev_get (v := .int (S12.1 19 8)) 105 dX8_copy_102 dk_19 fl_8_44 (by decide) rfl rfl rfl ?_
  obtain ⟨S13, eS13, h⟩ := rx_let_o h
  refine ex_put 108 dX8_copy_105 dk_2 fl_8_44 pp_8_8 (by decide) rfl rfl rfl rfl eS13 ?_
  refine ev_aload_n (i := 0) 109 dX8_copy_108 rfl rfl rfl ?_
  refine ev_aload_n (i := 1) 110 dX8_copy_109 rfl rfl rfl ?_
  refine ev_get (v := .int (S13.1 19 9)) 113 dX8_copy_110 dk_19 fl_8_47 (by decide) rfl rfl rfl ?_
  obtain ⟨S14, eS14, h⟩ := rx_let_o h
  refine ex_put 116 dX8_copy_113 dk_2 fl_8_47 pp_8_9 (by decide) rfl rfl rfl rfl eS14 ?_
  refine ev_aload_n (i := 0) 117 dX8_copy_116 rfl rfl rfl ?_
  refine ev_aload_n (i := 1) 118 dX8_copy_117 rfl rfl rfl ?_
  refine ev_get (v := .int (S14.1 19 10)) 121 dX8_copy_118 dk_19 fl_8_50 (by decide) rfl rfl rfl ?_
  obtain ⟨S15, eS15, h⟩ := rx_let_o h
  refine ex_put 124 dX8_copy_121 dk_2 fl_8_50 pp_8_10 (by decide) rfl rfl rfl rfl eS15 ?_
  exact ev_return dX8_copy_124 rfl (rx_ret_v h)

def f_X8_hasCouple (k : Nat) (x1 : Int32) (S0 : rx_S) : Option (Int32 × rx_S) := if x1 < 0 then (some (0, S0)) else (if (S0.1 k 7) ≤ x1 then (some (0, S0)) else (some (1, S0)))
set_option maxHeartbeats 4000000 in
set_option maxRecDepth 20000 in
theorem em_X8_hasCouple_2 {d : Nat} {x1 : Int32} {S0 : rx_S} {zr : Int32} {zS : rx_S} (h : f_X8_hasCouple 2 x1 S0 = some (zr, zS)) : EM gC d mX8_hasCouple [.ref 2, .int x1] S0 (rx_pi zr zS) := by
  unfold f_X8_hasCouple at h
  show EV gC d mX8_hasCouple 0 [some (.ref 2), some (.int x1)] [] S0 (rx_pi zr zS)
  refine ev_iload_n (i := 1) 1 dX8_hasCouple_0 rfl rfl rfl ?_
  refine ev_if_lt 16 4 dX8_hasCouple_1 rfl rfl (fun c3 => ?_) (fun c3 => ?_)
  · replace h := rx_if_t c3 h
    refine ev_iconst (v := 0) 17 dX8_hasCouple_16 (by decide) rfl ?_
    exact ev_zreturn dX8_hasCouple_17 rfl (by decide) (rx_ret_i h)
  · replace h := rx_if_f c3 h
    refine ev_iload_n (i := 1) 5 dX8_hasCouple_4 rfl rfl rfl ?_
    refine ev_aload_n (i := 0) 6 dX8_hasCouple_5 rfl rfl rfl ?_
    refine ev_get (v := .int (S0.1 2 7)) 9 dX8_hasCouple_6 dk_2 fl_8_41 (by decide) rfl rfl rfl ?_
    refine ev_icmp_ge 16 12 dX8_hasCouple_9 rfl rfl (fun c4 => ?_) (fun c4 => ?_)
    · replace h := rx_if_t c4 h
      refine ev_iconst (v := 0) 17 dX8_hasCouple_16 (by decide) rfl ?_
      exact ev_zreturn dX8_hasCouple_17 rfl (by decide) (rx_ret_i h)
    · replace h := rx_if_f c4 h
      refine ev_iconst (v := 1) 13 dX8_hasCouple_12 (by decide) rfl ?_
      refine ev_goto 17 dX8_hasCouple_13 rfl ?_
      exact ev_zreturn dX8_hasCouple_17 rfl (by decide) (rx_ret_i h)

set_option maxHeartbeats 4000000 in
set_option maxRecDepth 20000 in
theorem em_X8_hasCouple_19 {d : Nat} {x1 : Int32} {S0 : rx_S} {zr : Int32} {zS : rx_S} (h : f_X8_hasCouple 19 x1 S0 = some (zr, zS)) : EM gC d mX8_hasCouple [.ref 19, .int x1] S0 (rx_pi zr zS) := by
  unfold f_X8_hasCouple at h
  show EV gC d mX8_hasCouple 0 [some (.ref 19), some (.int x1)] [] S0 (rx_pi zr zS)
  refine ev_iload_n (i := 1) 1 dX8_hasCouple_0 rfl rfl rfl ?_
  refine ev_if_lt 16 4 dX8_hasCouple_1 rfl rfl (fun c3 => ?_) (fun c3 => ?_)
  · replace h := rx_if_t c3 h
    refine ev_iconst (v := 0) 17 dX8_hasCouple_16 (by decide) rfl ?_
    exact ev_zreturn dX8_hasCouple_17 rfl (by decide) (rx_ret_i h)
  · replace h := rx_if_f c3 h
    refine ev_iload_n (i := 1) 5 dX8_hasCouple_4 rfl rfl rfl ?_
    refine ev_aload_n (i := 0) 6 dX8_hasCouple_5 rfl rfl rfl ?_
    refine ev_get (v := .int (S0.1 19 7)) 9 dX8_hasCouple_6 dk_19 fl_8_41 (by decide) rfl rfl rfl ?_
    refine ev_icmp_ge 16 12 dX8_hasCouple_9 rfl rfl (fun c4 => ?_) (fun c4 => ?_)
    · replace h := rx_if_t c4 h
      refine ev_iconst (v := 0) 17 dX8_hasCouple_16 (by decide) rfl ?_
      exact ev_zreturn dX8_hasCouple_17 rfl (by decide) (rx_ret_i h)
    · replace h := rx_if_f c4 h
      refine ev_iconst (v := 1) 13 dX8_hasCouple_12 (by decide) rfl ?_
      refine ev_goto 17 dX8_hasCouple_13 rfl ?_
      exact ev_zreturn dX8_hasCouple_17 rfl (by decide) (rx_ret_i h)

def f_X8_begin_L76 (N : Nat) : Nat → Int32 → rx_S → Option (Unit × rx_S)
  | 0, _, _ => none
  | n + 1, x6, S7 => if (S7.1 2 8) ≤ x6 then (some ((), S7)) else (rx_gd x6 4 (rx_gd ((28 : Int32) + x6) 48 (rx_let (rx_ui S7 32 (Int32.toNatClampNeg ((28 : Int32) + x6)) (S7.1 12 (Int32.toNatClampNeg x6))) (fun S11 => rx_let (x6 + 1) (fun x12 => f_X8_begin_L76 N n x12 S11)))))
def f_X8_begin_L53 (N : Nat) (K74 : rx_S → Option (Unit × rx_S)) : Nat → Int32 → rx_S → Option (Unit × rx_S)
  | 0, _, _ => none
  | n + 1, x13, S14 => if (S14.1 2 7) ≤ x13 then (K74 S14) else (rx_gd ((16 : Int32) + x13) 48 (rx_let (rx_ui S14 32 (Int32.toNatClampNeg ((16 : Int32) + x13)) (-1)) (fun S18 => rx_let (x13 + 1) (fun x19 => f_X8_begin_L53 N K74 n x19 S18))))
def f_X8_begin_L26 (N : Nat) (K51 : rx_S → Option (Unit × rx_S)) : Nat → Int32 → rx_S → Option (Unit × rx_S)
  | 0, _, _ => none
  | n + 1, x20, S21 => if (S21.1 2 6) ≤ x20 then (K51 S21) else (rx_gd x20 6 (rx_gd ((4 : Int32) + x20) 48 (rx_let (rx_ui S21 32 (Int32.toNatClampNeg ((4 : Int32) + x20)) (S21.1 8 (Int32.toNatClampNeg x20))) (fun S26 => rx_let (x20 + 1) (fun x27 => f_X8_begin_L26 N K51 n x27 S26)))))
def f_X8_begin_L2 (N : Nat) (K24 : rx_S → Option (Unit × rx_S)) : Nat → Int32 → rx_S → Option (Unit × rx_S)
  | 0, _, _ => none
  | n + 1, x28, S29 => if (48 : Int32) ≤ x28 then (K24 S29) else (if (48 : Int32) ≤ x28 then (K24 S29) else (rx_gd x28 48 (rx_let (rx_ui S29 32 (Int32.toNatClampNeg x28) 0) (fun S34 => rx_let (x28 + 1) (fun x35 => f_X8_begin_L2 N K24 n x35 S34)))))
def f_X8_begin (N : Nat) (S0 : rx_S) : Option (Unit × rx_S) := rx_let (fun (S3 : rx_S) => rx_let (fun (S4 : rx_S) => rx_let (fun (S5 : rx_S) => f_X8_begin_L76 N N 0 S5) (fun J74_3 => f_X8_begin_L53 N J74_3 N 0 S4)) (fun J51_2 => f_X8_begin_L26 N J51_2 N 0 S3)) (fun J24_1 => f_X8_begin_L2 N J24_1 N 0 S0)
set_option maxHeartbeats 4000000 in
set_option maxRecDepth 20000 in
theorem em_X8_begin_L76 {d N : Nat} {zr : Unit} {zS : rx_S} : ∀ (n : Nat) (x6 : Int32) (S7 : rx_S), f_X8_begin_L76 N n x6 S7 = some (zr, zS) → EV gC d mX8_begin 76 [some (.ref 2), some (.ref 32), some (.int x6)] [] S7 (rx_pv zS) := by
  intro n
  induction n with
  | zero => intro x6 S7 h; cases h
  | succ n ih =>
    intro x6 S7 h
    rw [f_X8_begin_L76] at h
    refine ev_iload_n (i := 2) 77 dX8_begin_76 rfl rfl rfl ?_
    refine ev_aload_n (i := 0) 78 dX8_begin_77 rfl rfl rfl ?_
    refine ev_get (v := .int (S7.1 2 8)) 81 dX8_begin_78 dk_2 fl_8_44 (by decide) rfl rfl rfl ?_
    refine ev_icmp_ge 102 84 dX8_begin_81 rfl rfl (fun c8 => ?_) (fun c8 => ?_)
    · replace h := rx_if_t c8 h
      exact ev_return dX8_begin_102 rfl (rx_ret_v h)
    · replace h := rx_if_f c8 h
      refine ev_aload_n (i := 1) 85 dX8_begin_84 rfl rfl rfl ?_
      refine ev_bipush (v := 28) 87 dX8_begin_85 (by decide) rfl ?_
      refine ev_iload_n (i := 2) 88 dX8_begin_87 rfl rfl rfl ?_
      refine ev_iadd 89 dX8_begin_88 rfl ?_
      refine ev_aload_n (i := 0) 90 dX8_begin_89 rfl rfl rfl ?_
      refine ev_get (v := .ref 12) 93 dX8_begin_90 dk_2 fl_8_31 (by decide) rfl rfl rfl ?_
      refine ev_iload_n (i := 2) 94 dX8_begin_93 rfl rfl rfl ?_
      obtain ⟨g9, h⟩ := rx_gd_o h
      refine ex_iald _ 95 dX8_begin_94 dk_12 g9 rfl rfl ?_
      obtain ⟨g10, h⟩ := rx_gd_o h
      obtain ⟨S11, eS11, h⟩ := rx_let_o h
      refine ex_iast _ 96 dX8_begin_95 dk_32 g10 rfl rfl eS11 ?_
      obtain ⟨x12, ex12, h⟩ := rx_let_o h
      refine ev_iinc (v := x12) (ls' := [some (.ref 2), some (.ref 32), some (.int x12)]) 99 dX8_begin_96 rfl (by rw [ex12]; rfl) (Nat.le_of_ble_eq_true rfl) rfl rfl ?_
      refine ev_goto 76 dX8_begin_99 rfl ?_
      exact (ih _ _ h).fewer (rx_le_s (rx_le_s (rx_le_s rx_le_0)))

set_option maxHeartbeats 4000000 in
set_option maxRecDepth 20000 in
theorem em_X8_begin_L53 {d N : Nat} {K74 : rx_S → Option (Unit × rx_S)} {zr : Unit} {zS : rx_S} (hK74 : ∀ (S15 : rx_S), K74 S15 = some (zr, zS) → EV gC d mX8_begin 74 [some (.ref 2), some (.ref 32), none] [] S15 (rx_pv zS)) : ∀ (n : Nat) (x13 : Int32) (S14 : rx_S), f_X8_begin_L53 N K74 n x13 S14 = some (zr, zS) → EV gC d mX8_begin 53 [some (.ref 2), some (.ref 32), some (.int x13)] [] S14 (rx_pv zS) := by
  intro n
  induction n with
  | zero => intro x13 S14 h; cases h
  | succ n ih =>
    intro x13 S14 h
    rw [f_X8_begin_L53] at h
    refine ev_iload_n (i := 2) 54 dX8_begin_53 rfl rfl rfl ?_
    refine ev_aload_n (i := 0) 55 dX8_begin_54 rfl rfl rfl ?_
    refine ev_get (v := .int (S14.1 2 7)) 58 dX8_begin_55 dk_2 fl_8_41 (by decide) rfl rfl rfl ?_
    refine ev_icmp_ge 74 61 dX8_begin_58 rfl rfl (fun c16 => ?_) (fun c16 => ?_)
    · replace h := rx_if_t c16 h
      exact (hK74 _ h).fewer (rx_le_s (rx_le_s (rx_le_n rx_le_0)))
    · replace h := rx_if_f c16 h
      refine ev_aload_n (i := 1) 62 dX8_begin_61 rfl rfl rfl ?_
      refine ev_bipush (v := 16) 64 dX8_begin_62 (by decide) rfl ?_
      refine ev_iload_n (i := 2) 65 dX8_begin_64 rfl rfl rfl ?_
      refine ev_iadd 66 dX8_begin_65 rfl ?_
      refine ev_iconst (v := (-1)) 67 dX8_begin_66 (by decide) rfl ?_
      obtain ⟨g17, h⟩ := rx_gd_o h
      obtain ⟨S18, eS18, h⟩ := rx_let_o h
      refine ex_iast _ 68 dX8_begin_67 dk_32 g17 rfl rfl eS18 ?_
      obtain ⟨x19, ex19, h⟩ := rx_let_o h
      refine ev_iinc (v := x19) (ls' := [some (.ref 2), some (.ref 32), some (.int x19)]) 71 dX8_begin_68 rfl (by rw [ex19]; rfl) (Nat.le_of_ble_eq_true rfl) rfl rfl ?_
      refine ev_goto 53 dX8_begin_71 rfl ?_
      exact (ih _ _ h).fewer (rx_le_s (rx_le_s (rx_le_s rx_le_0)))

set_option maxHeartbeats 4000000 in
set_option maxRecDepth 20000 in
theorem em_X8_begin_L26 {d N : Nat} {K51 : rx_S → Option (Unit × rx_S)} {zr : Unit} {zS : rx_S} (hK51 : ∀ (S22 : rx_S), K51 S22 = some (zr, zS) → EV gC d mX8_begin 51 [some (.ref 2), some (.ref 32), none] [] S22 (rx_pv zS)) : ∀ (n : Nat) (x20 : Int32) (S21 : rx_S), f_X8_begin_L26 N K51 n x20 S21 = some (zr, zS) → EV gC d mX8_begin 26 [some (.ref 2), some (.ref 32), some (.int x20)] [] S21 (rx_pv zS) := by
  intro n
  induction n with
  | zero => intro x20 S21 h; cases h
  | succ n ih =>
    intro x20 S21 h
    rw [f_X8_begin_L26] at h
    refine ev_iload_n (i := 2) 27 dX8_begin_26 rfl rfl rfl ?_
    refine ev_aload_n (i := 0) 28 dX8_begin_27 rfl rfl rfl ?_
    refine ev_get (v := .int (S21.1 2 6)) 31 dX8_begin_28 dk_2 fl_8_37 (by decide) rfl rfl rfl ?_
    refine ev_icmp_ge 51 34 dX8_begin_31 rfl rfl (fun c23 => ?_) (fun c23 => ?_)
    · replace h := rx_if_t c23 h
      exact (hK51 _ h).fewer (rx_le_s (rx_le_s (rx_le_n rx_le_0)))
    · replace h := rx_if_f c23 h
      refine ev_aload_n (i := 1) 35 dX8_begin_34 rfl rfl rfl ?_
      refine ev_iconst (v := 4) 36 dX8_begin_35 (by decide) rfl ?_
      refine ev_iload_n (i := 2) 37 dX8_begin_36 rfl rfl rfl ?_
      refine ev_iadd 38 dX8_begin_37 rfl ?_
      refine ev_aload_n (i := 0) 39 dX8_begin_38 rfl rfl rfl ?_
      refine ev_get (v := .ref 8) 42 dX8_begin_39 dk_2 fl_8_18 (by decide) rfl rfl rfl ?_
      refine ev_iload_n (i := 2) 43 dX8_begin_42 rfl rfl rfl ?_
      obtain ⟨g24, h⟩ := rx_gd_o h
      refine ex_iald _ 44 dX8_begin_43 dk_8 g24 rfl rfl ?_
      obtain ⟨g25, h⟩ := rx_gd_o h
      obtain ⟨S26, eS26, h⟩ := rx_let_o h
      refine ex_iast _ 45 dX8_begin_44 dk_32 g25 rfl rfl eS26 ?_
      obtain ⟨x27, ex27, h⟩ := rx_let_o h
      refine ev_iinc (v := x27) (ls' := [some (.ref 2), some (.ref 32), some (.int x27)]) 48 dX8_begin_45 rfl (by rw [ex27]; rfl) (Nat.le_of_ble_eq_true rfl) rfl rfl ?_
      refine ev_goto 26 dX8_begin_48 rfl ?_
      exact (ih _ _ h).fewer (rx_le_s (rx_le_s (rx_le_s rx_le_0)))

set_option maxHeartbeats 4000000 in
set_option maxRecDepth 20000 in
theorem em_X8_begin_L2 {d N : Nat} {K24 : rx_S → Option (Unit × rx_S)} {zr : Unit} {zS : rx_S} (hK24 : ∀ (S30 : rx_S), K24 S30 = some (zr, zS) → EV gC d mX8_begin 24 [some (.ref 2), some (.ref 32), none] [] S30 (rx_pv zS)) : ∀ (n : Nat) (x28 : Int32) (S29 : rx_S), f_X8_begin_L2 N K24 n x28 S29 = some (zr, zS) → EV gC d mX8_begin 2 [some (.ref 2), some (.ref 32), some (.int x28)] [] S29 (rx_pv zS) := by
  intro n
  induction n with
  | zero => intro x28 S29 h; cases h
  | succ n ih =>
    intro x28 S29 h
    rw [f_X8_begin_L2] at h
    refine ev_iload_n (i := 2) 3 dX8_begin_2 rfl rfl rfl ?_
    refine ev_bipush (v := 48) 5 dX8_begin_3 (by decide) rfl ?_
    refine ev_icmp_ge 24 8 dX8_begin_5 rfl rfl (fun c31 => ?_) (fun c31 => ?_)
    · replace h := rx_if_t c31 h
      exact (hK24 _ h).fewer (rx_le_s (rx_le_s (rx_le_n rx_le_0)))
    · replace h := rx_if_f c31 h
      refine ev_iload_n (i := 2) 9 dX8_begin_8 rfl rfl rfl ?_
      refine ev_aload_n (i := 1) 10 dX8_begin_9 rfl rfl rfl ?_
      refine ev_alen (v := 48) 11 dX8_begin_10 dk_32 (by decide) (by decide) rfl ?_
      refine ev_icmp_ge 24 14 dX8_begin_11 rfl rfl (fun c32 => ?_) (fun c32 => ?_)
      · replace h := rx_if_t c32 h
        exact (hK24 _ h).fewer (rx_le_s (rx_le_s (rx_le_n rx_le_0)))
      · replace h := rx_if_f c32 h
        refine ev_aload_n (i := 1) 15 dX8_begin_14 rfl rfl rfl ?_
        refine ev_iload_n (i := 2) 16 dX8_begin_15 rfl rfl rfl ?_
        refine ev_iconst (v := 0) 17 dX8_begin_16 (by decide) rfl ?_
        obtain ⟨g33, h⟩ := rx_gd_o h
        obtain ⟨S34, eS34, h⟩ := rx_let_o h
        refine ex_iast _ 18 dX8_begin_17 dk_32 g33 rfl rfl eS34 ?_
        obtain ⟨x35, ex35, h⟩ := rx_let_o h
        refine ev_iinc (v := x35) (ls' := [some (.ref 2), some (.ref 32), some (.int x35)]) 21 dX8_begin_18 rfl (by rw [ex35]; rfl) (Nat.le_of_ble_eq_true rfl) rfl rfl ?_
        refine ev_goto 2 dX8_begin_21 rfl ?_
        exact (ih _ _ h).fewer (rx_le_s (rx_le_s (rx_le_s rx_le_0)))

set_option maxHeartbeats 4000000 in
set_option maxRecDepth 20000 in
theorem em_X8_begin {d N : Nat} {S0 : rx_S} {zr : Unit} {zS : rx_S} (h : f_X8_begin N S0 = some (zr, zS)) : EM gC d mX8_begin [.ref 2, .ref 32] S0 (rx_pv zS) := by
  unfold f_X8_begin at h
  show EV gC d mX8_begin 0 [some (.ref 2), some (.ref 32), none] [] S0 (rx_pv zS)
  refine ev_iconst (v := 0) 1 dX8_begin_0 (by decide) rfl ?_
  refine ev_istore_n (ls' := [some (.ref 2), some (.ref 32), some (.int 0)]) 2 dX8_begin_1 rfl (Nat.le_of_ble_eq_true rfl) rfl rfl ?_
  obtain ⟨J24_1, eJ24_1, h⟩ := rx_let_o h
  have hJ24_1 : ∀ (S3 : rx_S), J24_1 S3 = some (zr, zS) → EV gC d mX8_begin 24 [some (.ref 2), some (.ref 32), none] [] S3 (rx_pv zS) := by
    intro S3 h
    subst eJ24_1
    refine ev_iconst (v := 0) 25 dX8_begin_24 (by decide) rfl ?_
    refine ev_istore_n (ls' := [some (.ref 2), some (.ref 32), some (.int 0)]) 26 dX8_begin_25 rfl (Nat.le_of_ble_eq_true rfl) rfl rfl ?_
    obtain ⟨J51_2, eJ51_2, h⟩ := rx_let_o h
    have hJ51_2 : ∀ (S4 : rx_S), J51_2 S4 = some (zr, zS) → EV gC d mX8_begin 51 [some (.ref 2), some (.ref 32), none] [] S4 (rx_pv zS) := by
      intro S4 h
      subst eJ51_2
      refine ev_iconst (v := 0) 52 dX8_begin_51 (by decide) rfl ?_
      refine ev_istore_n (ls' := [some (.ref 2), some (.ref 32), some (.int 0)]) 53 dX8_begin_52 rfl (Nat.le_of_ble_eq_true rfl) rfl rfl ?_
      obtain ⟨J74_3, eJ74_3, h⟩ := rx_let_o h
      have hJ74_3 : ∀ (S5 : rx_S), J74_3 S5 = some (zr, zS) → EV gC d mX8_begin 74 [some (.ref 2), some (.ref 32), none] [] S5 (rx_pv zS) := by
        intro S5 h
        subst eJ74_3
        refine ev_iconst (v := 0) 75 dX8_begin_74 (by decide) rfl ?_
        refine ev_istore_n (ls' := [some (.ref 2), some (.ref 32), some (.int 0)]) 76 dX8_begin_75 rfl (Nat.le_of_ble_eq_true rfl) rfl rfl ?_
        exact (em_X8_begin_L76 _ _ _ h).fewer (rx_le_s (rx_le_s (rx_le_s rx_le_0)))
      exact (em_X8_begin_L53 hJ74_3 _ _ _ h).fewer (rx_le_s (rx_le_s (rx_le_s rx_le_0)))
    exact (em_X8_begin_L26 hJ51_2 _ _ _ h).fewer (rx_le_s (rx_le_s (rx_le_s rx_le_0)))
  exact (em_X8_begin_L2 hJ24_1 _ _ _ h).fewer (rx_le_s (rx_le_s (rx_le_s rx_le_0)))

def f_X10_addBytes_L3 (N : Nat) : Nat → Int32 → Int32 → rx_S → Option (Unit × rx_S)
  | 0, _, _, _ => none
  | n + 1, x3, x4, S5 => if x4 < 0 then (some ((), S5)) else (if (S5.1 0 1) < 0 then (rx_let (x4 + (-8)) (fun x8 => f_X10_addBytes_L3 N n x3 x8 S5)) else (if (2000 : Int32) ≤ (S5.1 0 1) then (rx_let (x4 + (-8)) (fun x10 => f_X10_addBytes_L3 N n x3 x10 S5)) else (rx_gd (S5.1 0 1) 2000 (rx_let (rx_ui S5 1 (Int32.toNatClampNeg (S5.1 0 1)) (vp_nar .byte (rx_i2b (rx_ushr x3 x4)))) (fun S12 => rx_let (rx_ui S12 0 1 ((S12.1 0 1) + 1)) (fun S13 => rx_let (x4 + (-8)) (fun x14 => f_X10_addBytes_L3 N n x3 x14 S13)))))))
def f_X10_addBytes (N : Nat) (x1 : Int32) (S0 : rx_S) : Option (Unit × rx_S) := f_X10_addBytes_L3 N N x1 24 S0
set_option maxHeartbeats 4000000 in
set_option maxRecDepth 20000 in
theorem em_X10_addBytes_L3 {d N : Nat} {zr : Unit} {zS : rx_S} : ∀ (n : Nat) (x3 : Int32) (x4 : Int32) (S5 : rx_S), f_X10_addBytes_L3 N n x3 x4 S5 = some (zr, zS) → EV gC d mX10_addBytes 3 [some (.ref 0), some (.int x3), some (.int x4)] [] S5 (rx_pv zS) := by
  intro n
  induction n with
  | zero => intro x3 x4 S5 h; cases h
  | succ n ih =>
    intro x3 x4 S5 h
    rw [f_X10_addBytes_L3] at h
    refine ev_iload_n (i := 2) 4 dX10_addBytes_3 rfl rfl rfl ?_
    refine ev_if_lt 53 7 dX10_addBytes_4 rfl rfl (fun c6 => ?_) (fun c6 => ?_)
    · replace h := rx_if_t c6 h
      exact ev_return dX10_addBytes_53 rfl (rx_ret_v h)
    · replace h := rx_if_f c6 h
      refine ev_aload_n (i := 0) 8 dX10_addBytes_7 rfl rfl rfl ?_
      refine ev_get (v := .int (S5.1 0 1)) 11 dX10_addBytes_8 dk_0 fl_10_81 (by decide) rfl rfl rfl ?_
      refine ev_if_lt 47 14 dX10_addBytes_11 rfl rfl (fun c7 => ?_) (fun c7 => ?_)
      · replace h := rx_if_t c7 h
        obtain ⟨x8, ex8, h⟩ := rx_let_o h
        refine ev_iinc (v := x8) (ls' := [some (.ref 0), some (.int x3), some (.int x8)]) 50 dX10_addBytes_47 rfl (by rw [ex8]; rfl) (Nat.le_of_ble_eq_true rfl) rfl rfl ?_
        refine ev_goto 3 dX10_addBytes_50 rfl ?_
        exact (ih _ _ _ h).fewer (rx_le_s (rx_le_s (rx_le_s rx_le_0)))
      · replace h := rx_if_f c7 h
        refine ev_aload_n (i := 0) 15 dX10_addBytes_14 rfl rfl rfl ?_
        refine ev_get (v := .int (S5.1 0 1)) 18 dX10_addBytes_15 dk_0 fl_10_81 (by decide) rfl rfl rfl ?_
        refine ev_sipush (v := 2000) 21 dX10_addBytes_18 (by decide) rfl ?_
        refine ev_icmp_ge 47 24 dX10_addBytes_21 rfl rfl (fun c9 => ?_) (fun c9 => ?_)
        · replace h := rx_if_t c9 h
          obtain ⟨x10, ex10, h⟩ := rx_let_o h
          refine ev_iinc (v := x10) (ls' := [some (.ref 0), some (.int x3), some (.int x10)]) 50 dX10_addBytes_47 rfl (by rw [ex10]; rfl) (Nat.le_of_ble_eq_true rfl) rfl rfl ?_
          refine ev_goto 3 dX10_addBytes_50 rfl ?_
          exact (ih _ _ _ h).fewer (rx_le_s (rx_le_s (rx_le_s rx_le_0)))
        · replace h := rx_if_f c9 h
          refine ev_aload_n (i := 0) 25 dX10_addBytes_24 rfl rfl rfl ?_
          refine ev_get (v := .ref 1) 28 dX10_addBytes_25 dk_0 fl_10_9 (by decide) rfl rfl rfl ?_
          refine ev_aload_n (i := 0) 29 dX10_addBytes_28 rfl rfl rfl ?_
          refine ev_get (v := .int (S5.1 0 1)) 32 dX10_addBytes_29 dk_0 fl_10_81 (by decide) rfl rfl rfl ?_
          refine ev_iload_n (i := 1) 33 dX10_addBytes_32 rfl rfl rfl ?_
          refine ev_iload_n (i := 2) 34 dX10_addBytes_33 rfl rfl rfl ?_
          refine ev_ushr 35 dX10_addBytes_34 rfl ?_
          refine ev_tob 36 dX10_addBytes_35 rfl ?_
          obtain ⟨g11, h⟩ := rx_gd_o h
          obtain ⟨S12, eS12, h⟩ := rx_let_o h
          refine ex_bast _ 37 dX10_addBytes_36 dk_1 g11 rfl rfl eS12 ?_
          refine ev_aload_n (i := 0) 38 dX10_addBytes_37 rfl rfl rfl ?_
          refine ev_dup 39 dX10_addBytes_38 rfl rfl ?_
          refine ev_get (v := .int (S12.1 0 1)) 42 dX10_addBytes_39 dk_0 fl_10_81 (by decide) rfl rfl rfl ?_
          refine ev_iconst (v := 1) 43 dX10_addBytes_42 (by decide) rfl ?_
          refine ev_iadd 44 dX10_addBytes_43 rfl ?_
          obtain ⟨S13, eS13, h⟩ := rx_let_o h
          refine ex_put 47 dX10_addBytes_44 dk_0 fl_10_81 pp_10_1 (by decide) rfl rfl rfl rfl eS13 ?_
          obtain ⟨x14, ex14, h⟩ := rx_let_o h
          refine ev_iinc (v := x14) (ls' := [some (.ref 0), some (.int x3), some (.int x14)]) 50 dX10_addBytes_47 rfl (by rw [ex14]; rfl) (Nat.le_of_ble_eq_true rfl) rfl rfl ?_
          refine ev_goto 3 dX10_addBytes_50 rfl ?_
          exact (ih _ _ _ h).fewer (rx_le_s (rx_le_s (rx_le_s rx_le_0)))

set_option maxHeartbeats 4000000 in
set_option maxRecDepth 20000 in
theorem em_X10_addBytes {d N : Nat} {x1 : Int32} {S0 : rx_S} {zr : Unit} {zS : rx_S} (h : f_X10_addBytes N x1 S0 = some (zr, zS)) : EM gC d mX10_addBytes [.ref 0, .int x1] S0 (rx_pv zS) := by
  unfold f_X10_addBytes at h
  show EV gC d mX10_addBytes 0 [some (.ref 0), some (.int x1), none] [] S0 (rx_pv zS)
  refine ev_bipush (v := 24) 2 dX10_addBytes_0 (by decide) rfl ?_
  refine ev_istore_n (ls' := [some (.ref 0), some (.int x1), some (.int 24)]) 3 dX10_addBytes_2 rfl (Nat.le_of_ble_eq_true rfl) rfl rfl ?_
  exact (em_X10_addBytes_L3 _ _ _ _ h).fewer (rx_le_s (rx_le_s (rx_le_s rx_le_0)))

def f_X10_feed (N : Nat) (x1 : Int32) (x2 : Int32) (x3 : Int32) (x4 : Int32) (x5 : Int32) (S0 : rx_S) : Option (Int32 × rx_S) := if (S0.1 0 1) ≤ 1980 then (rx_bd (f_X10_addBytes N x1 S0) (fun x9 S8 => rx_bd (f_X10_addBytes N x2 S8) (fun x12 S11 => rx_bd (f_X10_addBytes N x3 S11) (fun x15 S14 => rx_bd (f_X10_addBytes N x4 S14) (fun x18 S17 => rx_bd (f_X10_addBytes N x5 S17) (fun x21 S20 => some ((S20.1 0 1), S20))))))) else (some ((-1), S0))
set_option maxHeartbeats 4000000 in
set_option maxRecDepth 20000 in
theorem em_X10_feed {d N : Nat} {x1 : Int32} {x2 : Int32} {x3 : Int32} {x4 : Int32} {x5 : Int32} {S0 : rx_S} {zr : Int32} {zS : rx_S} (h : f_X10_feed N x1 x2 x3 x4 x5 S0 = some (zr, zS)) : EM gC (d + 1) mX10_feed [.ref 0, .int x1, .int x2, .int x3, .int x4, .int x5] S0 (rx_pi zr zS) := by
  unfold f_X10_feed at h
  show EV gC (d + 1) mX10_feed 0 [some (.ref 0), some (.int x1), some (.int x2), some (.int x3), some (.int x4), some (.int x5)] [] S0 (rx_pi zr zS)
  refine ev_aload_n (i := 0) 1 dX10_feed_0 rfl rfl rfl ?_
  refine ev_get (v := .int (S0.1 0 1)) 4 dX10_feed_1 dk_0 fl_10_81 (by decide) rfl rfl rfl ?_
  refine ev_sipush (v := 1980) 7 dX10_feed_4 (by decide) rfl ?_
  refine ev_icmp_le 12 10 dX10_feed_7 rfl rfl (fun c7 => ?_) (fun c7 => ?_)
  · replace h := rx_if_t c7 h
    refine ev_aload_n (i := 0) 13 dX10_feed_12 rfl rfl rfl ?_
    refine ev_iload_n (i := 1) 14 dX10_feed_13 rfl rfl rfl ?_
    obtain ⟨x9, S8, g10, h⟩ := rx_bd_o h
    refine ev_cVv1 17 dX10_feed_14 (em_X10_addBytes g10) mm_X10_addBytes mv_X10_addBytes lk_10_84 dk_0 (by decide) rfl (Nat.le_of_ble_eq_true rfl) (Nat.le_of_ble_eq_true rfl) rfl ?_
    refine ev_aload_n (i := 0) 18 dX10_feed_17 rfl rfl rfl ?_
    refine ev_iload_n (i := 2) 19 dX10_feed_18 rfl rfl rfl ?_
    obtain ⟨x12, S11, g13, h⟩ := rx_bd_o h
    refine ev_cVv1 22 dX10_feed_19 (em_X10_addBytes g13) mm_X10_addBytes mv_X10_addBytes lk_10_84 dk_0 (by decide) rfl (Nat.le_of_ble_eq_true rfl) (Nat.le_of_ble_eq_true rfl) rfl ?_
    refine ev_aload_n (i := 0) 23 dX10_feed_22 rfl rfl rfl ?_
    refine ev_iload_n (i := 3) 24 dX10_feed_23 rfl rfl rfl ?_
    obtain ⟨x15, S14, g16, h⟩ := rx_bd_o h
    refine ev_cVv1 27 dX10_feed_24 (em_X10_addBytes g16) mm_X10_addBytes mv_X10_addBytes lk_10_84 dk_0 (by decide) rfl (Nat.le_of_ble_eq_true rfl) (Nat.le_of_ble_eq_true rfl) rfl ?_
    refine ev_aload_n (i := 0) 28 dX10_feed_27 rfl rfl rfl ?_
    refine ev_iload 30 dX10_feed_28 rfl rfl ?_
    obtain ⟨x18, S17, g19, h⟩ := rx_bd_o h
    refine ev_cVv1 33 dX10_feed_30 (em_X10_addBytes g19) mm_X10_addBytes mv_X10_addBytes lk_10_84 dk_0 (by decide) rfl (Nat.le_of_ble_eq_true rfl) (Nat.le_of_ble_eq_true rfl) rfl ?_
    refine ev_aload_n (i := 0) 34 dX10_feed_33 rfl rfl rfl ?_
    refine ev_iload 36 dX10_feed_34 rfl rfl ?_
    obtain ⟨x21, S20, g22, h⟩ := rx_bd_o h
    refine ev_cVv1 39 dX10_feed_36 (em_X10_addBytes g22) mm_X10_addBytes mv_X10_addBytes lk_10_84 dk_0 (by decide) rfl (Nat.le_of_ble_eq_true rfl) (Nat.le_of_ble_eq_true rfl) rfl ?_
    refine ev_aload_n (i := 0) 40 dX10_feed_39 rfl rfl rfl ?_
    refine ev_get (v := .int (S20.1 0 1)) 43 dX10_feed_40 dk_0 fl_10_81 (by decide) rfl rfl rfl ?_
    exact ev_ireturn dX10_feed_43 rfl (rx_ret_i h)
  · replace h := rx_if_f c7 h
    refine ev_iconst (v := (-1)) 11 dX10_feed_10 (by decide) rfl ?_
    exact ev_ireturn dX10_feed_11 rfl (rx_ret_i h)

def f_X10_back (x1 : Int32) (S0 : rx_S) : Option (Int32 × rx_S) := if x1 < 0 then (some ((-1), S0)) else (if x1 ≤ (S0.1 0 1) then (rx_let (rx_ui S0 0 1 ((S0.1 0 1) - x1)) (fun S5 => some ((S5.1 0 1), S5))) else (some ((-1), S0)))
set_option maxHeartbeats 4000000 in
set_option maxRecDepth 20000 in
theorem em_X10_back {d : Nat} {x1 : Int32} {S0 : rx_S} {zr : Int32} {zS : rx_S} (h : f_X10_back x1 S0 = some (zr, zS)) : EM gC d mX10_back [.ref 0, .int x1] S0 (rx_pi zr zS) := by
  unfold f_X10_back at h
  show EV gC d mX10_back 0 [some (.ref 0), some (.int x1)] [] S0 (rx_pi zr zS)
  refine ev_iload_n (i := 1) 1 dX10_back_0 rfl rfl rfl ?_
  refine ev_if_lt 12 4 dX10_back_1 rfl rfl (fun c3 => ?_) (fun c3 => ?_)
  · replace h := rx_if_t c3 h
    refine ev_iconst (v := (-1)) 13 dX10_back_12 (by decide) rfl ?_
    exact ev_ireturn dX10_back_13 rfl (rx_ret_i h)
  · replace h := rx_if_f c3 h
    refine ev_iload_n (i := 1) 5 dX10_back_4 rfl rfl rfl ?_
    refine ev_aload_n (i := 0) 6 dX10_back_5 rfl rfl rfl ?_
    refine ev_get (v := .int (S0.1 0 1)) 9 dX10_back_6 dk_0 fl_10_81 (by decide) rfl rfl rfl ?_
    refine ev_icmp_le 14 12 dX10_back_9 rfl rfl (fun c4 => ?_) (fun c4 => ?_)
    · replace h := rx_if_t c4 h
      refine ev_aload_n (i := 0) 15 dX10_back_14 rfl rfl rfl ?_
      refine ev_dup 16 dX10_back_15 rfl rfl ?_
      refine ev_get (v := .int (S0.1 0 1)) 19 dX10_back_16 dk_0 fl_10_81 (by decide) rfl rfl rfl ?_
      refine ev_iload_n (i := 1) 20 dX10_back_19 rfl rfl rfl ?_
      refine ev_isub 21 dX10_back_20 rfl ?_
      obtain ⟨S5, eS5, h⟩ := rx_let_o h
      refine ex_put 24 dX10_back_21 dk_0 fl_10_81 pp_10_1 (by decide) rfl rfl rfl rfl eS5 ?_
      refine ev_aload_n (i := 0) 25 dX10_back_24 rfl rfl rfl ?_
      refine ev_get (v := .int (S5.1 0 1)) 28 dX10_back_25 dk_0 fl_10_81 (by decide) rfl rfl rfl ?_
      exact ev_ireturn dX10_back_28 rfl (rx_ret_i h)
    · replace h := rx_if_f c4 h
      refine ev_iconst (v := (-1)) 13 dX10_back_12 (by decide) rfl ?_
      exact ev_ireturn dX10_back_13 rfl (rx_ret_i h)

def f_X10_read (N : Nat) (S0 : rx_S) : Option (Int32 × rx_S) := rx_bd (f_X4_readTape N (S0.1 0 1) S0) (fun x3 S2 => rx_let (rx_ui S2 0 1 0) (fun S5 => rx_let (rx_ui S5 0 2 (S5.1 13 7)) (fun S6 => if x3 = 0 then (rx_bd (f_X8_copy S6) (fun x9 S8 => rx_bd (f_X8_begin N S8) (fun x12 S11 => rx_bd (f_X3_forgetDone S11) (fun x15 S14 => rx_bd (f_X3_emptySlots N S14) (fun x18 S17 => rx_bd (f_X1_clear S17) (fun x21 S20 => some (x3, S20))))))) else (some (x3, S6)))))
set_option maxHeartbeats 4000000 in
set_option maxRecDepth 20000 in
theorem em_X10_read {d N : Nat} {S0 : rx_S} {zr : Int32} {zS : rx_S} (h : f_X10_read N S0 = some (zr, zS)) : EM gC (d + 33) mX10_read [.ref 0] S0 (rx_pi zr zS) := by
  unfold f_X10_read at h
  show EV gC (d + 33) mX10_read 0 [some (.ref 0), none] [] S0 (rx_pi zr zS)
  refine ev_aload_n (i := 0) 1 dX10_read_0 rfl rfl rfl ?_
  refine ev_get (v := .ref 13) 4 dX10_read_1 dk_0 fl_10_27 (by decide) rfl rfl rfl ?_
  refine ev_aload_n (i := 0) 5 dX10_read_4 rfl rfl rfl ?_
  refine ev_get (v := .ref 1) 8 dX10_read_5 dk_0 fl_10_9 (by decide) rfl rfl rfl ?_
  refine ev_aload_n (i := 0) 9 dX10_read_8 rfl rfl rfl ?_
  refine ev_get (v := .int (S0.1 0 1)) 12 dX10_read_9 dk_0 fl_10_81 (by decide) rfl rfl rfl ?_
  obtain ⟨x3, S2, g4, h⟩ := rx_bd_o h
  refine ev_cVi2 15 dX10_read_12 (em_X4_readTape g4) mm_X4_readTape mv_X4_readTape lk_10_88 dk_13 (by decide) rfl (Nat.le_of_ble_eq_true rfl) (Nat.le_of_ble_eq_true rfl) rfl ?_
  refine ev_istore_n (ls' := [some (.ref 0), some (.int x3)]) 16 dX10_read_15 rfl (Nat.le_of_ble_eq_true rfl) rfl rfl ?_
  refine ev_aload_n (i := 0) 17 dX10_read_16 rfl rfl rfl ?_
  refine ev_iconst (v := 0) 18 dX10_read_17 (by decide) rfl ?_
  obtain ⟨S5, eS5, h⟩ := rx_let_o h
  refine ex_put 21 dX10_read_18 dk_0 fl_10_81 pp_10_1 (by decide) rfl rfl rfl rfl eS5 ?_
  refine ev_aload_n (i := 0) 22 dX10_read_21 rfl rfl rfl ?_
  refine ev_aload_n (i := 0) 23 dX10_read_22 rfl rfl rfl ?_
  refine ev_get (v := .ref 13) 26 dX10_read_23 dk_0 fl_10_27 (by decide) rfl rfl rfl ?_
  refine ev_get (v := .int (S5.1 13 7)) 29 dX10_read_26 dk_13 fl_10_92 (by decide) rfl rfl rfl ?_
  obtain ⟨S6, eS6, h⟩ := rx_let_o h
  refine ex_put 32 dX10_read_29 dk_0 fl_10_13 pp_10_2 (by decide) rfl rfl rfl rfl eS6 ?_
  refine ev_iload_n (i := 1) 33 dX10_read_32 rfl rfl rfl ?_
  refine ev_if_ne 82 36 dX10_read_33 rfl rfl (fun c7 => ?_) (fun c7 => ?_)
  · replace h := rx_if_f c7 h
    refine ev_iload_n (i := 1) 83 dX10_read_82 rfl rfl rfl ?_
    exact ev_ireturn dX10_read_83 rfl (rx_ret_i h)
  · replace h := rx_if_t c7 h
    refine ev_aload_n (i := 0) 37 dX10_read_36 rfl rfl rfl ?_
    refine ev_get (v := .ref 2) 40 dX10_read_37 dk_0 fl_10_20 (by decide) rfl rfl rfl ?_
    refine ev_aload_n (i := 0) 41 dX10_read_40 rfl rfl rfl ?_
    refine ev_get (v := .ref 13) 44 dX10_read_41 dk_0 fl_10_27 (by decide) rfl rfl rfl ?_
    refine ev_get (v := .ref 19) 47 dX10_read_44 dk_13 fl_10_93 (by decide) rfl rfl rfl ?_
    obtain ⟨x9, S8, g10, h⟩ := rx_bd_o h
    refine ev_cVv1 50 dX10_read_47 (em_X8_copy g10) mm_X8_copy mv_X8_copy lk_10_96 dk_2 (by decide) rfl (Nat.le_of_ble_eq_true rfl) (Nat.le_of_ble_eq_true rfl) rfl ?_
    refine ev_aload_n (i := 0) 51 dX10_read_50 rfl rfl rfl ?_
    refine ev_get (v := .ref 2) 54 dX10_read_51 dk_0 fl_10_20 (by decide) rfl rfl rfl ?_
    refine ev_aload_n (i := 0) 55 dX10_read_54 rfl rfl rfl ?_
    refine ev_get (v := .ref 32) 58 dX10_read_55 dk_0 fl_10_31 (by decide) rfl rfl rfl ?_
    obtain ⟨x12, S11, g13, h⟩ := rx_bd_o h
    refine ev_cVv1 61 dX10_read_58 (em_X8_begin g13) mm_X8_begin mv_X8_begin lk_10_77 dk_2 (by decide) rfl (Nat.le_of_ble_eq_true rfl) (Nat.le_of_ble_eq_true rfl) rfl ?_
    refine ev_aload_n (i := 0) 62 dX10_read_61 rfl rfl rfl ?_
    refine ev_get (v := .ref 33) 65 dX10_read_62 dk_0 fl_10_38 (by decide) rfl rfl rfl ?_
    obtain ⟨x15, S14, g16, h⟩ := rx_bd_o h
    refine ev_cVv0 68 dX10_read_65 (em_X3_forgetDone g16) mm_X3_forgetDone mv_X3_forgetDone lk_10_99 dk_33 (by decide) rfl (Nat.le_of_ble_eq_true rfl) (Nat.le_of_ble_eq_true rfl) rfl ?_
    refine ev_aload_n (i := 0) 69 dX10_read_68 rfl rfl rfl ?_
    refine ev_get (v := .ref 33) 72 dX10_read_69 dk_0 fl_10_38 (by decide) rfl rfl rfl ?_
    obtain ⟨x18, S17, g19, h⟩ := rx_bd_o h
    refine ev_cVv0 75 dX10_read_72 (em_X3_emptySlots g19) mm_X3_emptySlots mv_X3_emptySlots lk_10_102 dk_33 (by decide) rfl (Nat.le_of_ble_eq_true rfl) (Nat.le_of_ble_eq_true rfl) rfl ?_
    refine ev_aload_n (i := 0) 76 dX10_read_75 rfl rfl rfl ?_
    refine ev_get (v := .ref 91) 79 dX10_read_76 dk_0 fl_10_70 (by decide) rfl rfl rfl ?_
    obtain ⟨x21, S20, g22, h⟩ := rx_bd_o h
    refine ev_cVv0 82 dX10_read_79 (em_X1_clear g22) mm_X1_clear mv_X1_clear lk_10_105 dk_91 (by decide) rfl (Nat.le_of_ble_eq_true rfl) (Nat.le_of_ble_eq_true rfl) rfl ?_
    refine ev_iload_n (i := 1) 83 dX10_read_82 rfl rfl rfl ?_
    exact ev_ireturn dX10_read_83 rfl (rx_ret_i h)

def f_X10_place (S0 : rx_S) : Option (Int32 × rx_S) := some ((S0.1 0 2), S0)
set_option maxHeartbeats 4000000 in
set_option maxRecDepth 20000 in
theorem em_X10_place {d : Nat} {S0 : rx_S} {zr : Int32} {zS : rx_S} (h : f_X10_place S0 = some (zr, zS)) : EM gC d mX10_place [.ref 0] S0 (rx_pi zr zS) := by
  unfold f_X10_place at h
  show EV gC d mX10_place 0 [some (.ref 0)] [] S0 (rx_pi zr zS)
  refine ev_aload_n (i := 0) 1 dX10_place_0 rfl rfl rfl ?_
  refine ev_get (v := .int (S0.1 0 2)) 4 dX10_place_1 dk_0 fl_10_13 (by decide) rfl rfl rfl ?_
  exact ev_ireturn dX10_place_4 rfl (rx_ret_i h)

def f_X10_spouse (N : Nat) (x1 : Int32) (x2 : Int32) (S0 : rx_S) : Option (Int32 × rx_S) := rx_bd (f_X8_hasSpouse 2 x1 S0) (fun x5 S4 => if x5 = 0 then (some ((-1), S4)) else (if x2 = 0 then (rx_gd ((4 : Int32) + x1) 48 (some ((S4.1 32 (Int32.toNatClampNeg ((4 : Int32) + x1))), S4))) else (if x2 = 1 then (rx_gd x1 6 (some ((S4.1 9 (Int32.toNatClampNeg x1)), S4))) else (if x2 = 2 then (rx_bd (f_X7_rowOf 32 N x1 S4) (fun x14 S13 => some (x14, S13))) else (if x2 = 3 then (rx_gd ((10 : Int32) + x1) 48 (some ((S4.1 32 (Int32.toNatClampNeg ((10 : Int32) + x1))), S4))) else (some ((-1), S4)))))))
set_option maxHeartbeats 4000000 in
set_option maxRecDepth 20000 in
theorem em_X10_spouse {d N : Nat} {x1 : Int32} {x2 : Int32} {S0 : rx_S} {zr : Int32} {zS : rx_S} (h : f_X10_spouse N x1 x2 S0 = some (zr, zS)) : EM gC (d + 3) mX10_spouse [.ref 0, .int x1, .int x2] S0 (rx_pi zr zS) := by
  unfold f_X10_spouse at h
  show EV gC (d + 3) mX10_spouse 0 [some (.ref 0), some (.int x1), some (.int x2)] [] S0 (rx_pi zr zS)
  refine ev_aload_n (i := 0) 1 dX10_spouse_0 rfl rfl rfl ?_
  refine ev_get (v := .ref 2) 4 dX10_spouse_1 dk_0 fl_10_20 (by decide) rfl rfl rfl ?_
  refine ev_iload_n (i := 1) 5 dX10_spouse_4 rfl rfl rfl ?_
  obtain ⟨x5, S4, g6, h⟩ := rx_bd_o h
  refine ev_cVi1 8 dX10_spouse_5 (em_X8_hasSpouse_2 g6) mm_X8_hasSpouse mv_X8_hasSpouse lk_10_106 dk_2 (by decide) rfl (Nat.le_of_ble_eq_true rfl) (Nat.le_of_ble_eq_true rfl) rfl ?_
  refine ev_if_ne 13 11 dX10_spouse_8 rfl rfl (fun c7 => ?_) (fun c7 => ?_)
  · replace h := rx_if_f c7 h
    refine ev_iload_n (i := 2) 14 dX10_spouse_13 rfl rfl rfl ?_
    by_cases c8 : x2 = 0
    · replace h := rx_if_t c8 h
      refine ev_tableIn 44 dX10_spouse_14 (by rw [c8]; decide) (by rw [c8]; decide) (off := 30) (by rw [c8]; rfl) rfl ?_
      refine ev_aload_n (i := 0) 45 dX10_spouse_44 rfl rfl rfl ?_
      refine ev_get (v := .ref 32) 48 dX10_spouse_45 dk_0 fl_10_31 (by decide) rfl rfl rfl ?_
      refine ev_iconst (v := 4) 49 dX10_spouse_48 (by decide) rfl ?_
      refine ev_iload_n (i := 1) 50 dX10_spouse_49 rfl rfl rfl ?_
      refine ev_iadd 51 dX10_spouse_50 rfl ?_
      obtain ⟨g9, h⟩ := rx_gd_o h
      refine ex_iald _ 52 dX10_spouse_51 dk_32 g9 rfl rfl ?_
      exact ev_ireturn dX10_spouse_52 rfl (rx_ret_i h)
    · replace h := rx_if_f c8 h
      by_cases c10 : x2 = 1
      · replace h := rx_if_t c10 h
        refine ev_tableIn 53 dX10_spouse_14 (by rw [c10]; decide) (by rw [c10]; decide) (off := 39) (by rw [c10]; rfl) rfl ?_
        refine ev_aload_n (i := 0) 54 dX10_spouse_53 rfl rfl rfl ?_
        refine ev_get (v := .ref 2) 57 dX10_spouse_54 dk_0 fl_10_20 (by decide) rfl rfl rfl ?_
        refine ev_get (v := .ref 9) 60 dX10_spouse_57 dk_2 fl_10_110 (by decide) rfl rfl rfl ?_
        refine ev_iload_n (i := 1) 61 dX10_spouse_60 rfl rfl rfl ?_
        obtain ⟨g11, h⟩ := rx_gd_o h
        refine ex_iald _ 62 dX10_spouse_61 dk_9 g11 rfl rfl ?_
        exact ev_ireturn dX10_spouse_62 rfl (rx_ret_i h)
      · replace h := rx_if_f c10 h
        by_cases c12 : x2 = 2
        · replace h := rx_if_t c12 h
          refine ev_tableIn 63 dX10_spouse_14 (by rw [c12]; decide) (by rw [c12]; decide) (off := 49) (by rw [c12]; rfl) rfl ?_
          refine ev_aload_n (i := 0) 64 dX10_spouse_63 rfl rfl rfl ?_
          refine ev_get (v := .ref 80) 67 dX10_spouse_64 dk_0 fl_10_47 (by decide) rfl rfl rfl ?_
          refine ev_aload_n (i := 0) 68 dX10_spouse_67 rfl rfl rfl ?_
          refine ev_get (v := .ref 32) 71 dX10_spouse_68 dk_0 fl_10_31 (by decide) rfl rfl rfl ?_
          refine ev_iload_n (i := 1) 72 dX10_spouse_71 rfl rfl rfl ?_
          obtain ⟨x14, S13, g15, h⟩ := rx_bd_o h
          refine ev_cVi2 75 dX10_spouse_72 (em_X7_rowOf_32 g15) mm_X7_rowOf mv_X7_rowOf lk_10_113 dk_80 (by decide) rfl (Nat.le_of_ble_eq_true rfl) (Nat.le_of_ble_eq_true rfl) rfl ?_
          exact ev_ireturn dX10_spouse_75 rfl (rx_ret_i h)
        · replace h := rx_if_f c12 h
          by_cases c16 : x2 = 3
          · replace h := rx_if_t c16 h
            refine ev_tableIn 76 dX10_spouse_14 (by rw [c16]; decide) (by rw [c16]; decide) (off := 62) (by rw [c16]; rfl) rfl ?_
            refine ev_aload_n (i := 0) 77 dX10_spouse_76 rfl rfl rfl ?_
            refine ev_get (v := .ref 32) 80 dX10_spouse_77 dk_0 fl_10_31 (by decide) rfl rfl rfl ?_
            refine ev_bipush (v := 10) 82 dX10_spouse_80 (by decide) rfl ?_
            refine ev_iload_n (i := 1) 83 dX10_spouse_82 rfl rfl rfl ?_
            refine ev_iadd 84 dX10_spouse_83 rfl ?_
            obtain ⟨g17, h⟩ := rx_gd_o h
            refine ex_iald _ 85 dX10_spouse_84 dk_32 g17 rfl rfl ?_
            exact ev_ireturn dX10_spouse_85 rfl (rx_ret_i h)
          · replace h := rx_if_f c16 h
            refine ev_tableOut 86 dX10_spouse_14 (by have q0 := rx_ne c8 (z := 0) (by decide); have q1 := rx_ne c10 (z := 1) (by decide); have q2 := rx_ne c12 (z := 2) (by decide); have q3 := rx_ne c16 (z := 3) (by decide); omega) rfl ?_
            refine ev_iconst (v := (-1)) 87 dX10_spouse_86 (by decide) rfl ?_
            exact ev_ireturn dX10_spouse_87 rfl (rx_ret_i h)
  · replace h := rx_if_t c7 h
    refine ev_iconst (v := (-1)) 12 dX10_spouse_11 (by decide) rfl ?_
    exact ev_ireturn dX10_spouse_12 rfl (rx_ret_i h)

def f_X10_couple (x1 : Int32) (x2 : Int32) (S0 : rx_S) : Option (Int32 × rx_S) := rx_bd (f_X8_hasCouple 2 x1 S0) (fun x5 S4 => if x5 = 0 then (some ((-1), S4)) else (rx_let (fun (x8 : Int32) (x9 : Int32) (S10 : rx_S) => rx_gd (((2 : Int32) * x8) + x9) 6 (some ((S10.1 10 (Int32.toNatClampNeg (((2 : Int32) * x8) + x9))), S10))) (fun J52_1 => if x2 = 0 then (J52_1 x1 x2 S4) else (if x2 = 1 then (J52_1 x1 x2 S4) else (if x2 = 2 then (rx_gd ((16 : Int32) + x1) 48 (if (S4.1 32 (Int32.toNatClampNeg ((16 : Int32) + x1))) = (-1) then (some ((-2), S4)) else (rx_gd ((16 : Int32) + x1) 48 (some ((S4.1 32 (Int32.toNatClampNeg ((16 : Int32) + x1))), S4))))) else (if x2 = 3 then (rx_gd ((19 : Int32) + x1) 48 (some ((S4.1 32 (Int32.toNatClampNeg ((19 : Int32) + x1))), S4))) else (if x2 = 4 then (rx_gd ((22 : Int32) + x1) 48 (some ((S4.1 32 (Int32.toNatClampNeg ((22 : Int32) + x1))), S4))) else (if x2 = 5 then (rx_gd ((25 : Int32) + x1) 48 (some ((S4.1 32 (Int32.toNatClampNeg ((25 : Int32) + x1))), S4))) else (some ((-1), S4))))))))))
set_option maxHeartbeats 4000000 in
set_option maxRecDepth 20000 in
theorem em_X10_couple {d : Nat} {x1 : Int32} {x2 : Int32} {S0 : rx_S} {zr : Int32} {zS : rx_S} (h : f_X10_couple x1 x2 S0 = some (zr, zS)) : EM gC (d + 1) mX10_couple [.ref 0, .int x1, .int x2] S0 (rx_pi zr zS) := by
  unfold f_X10_couple at h
  show EV gC (d + 1) mX10_couple 0 [some (.ref 0), some (.int x1), some (.int x2)] [] S0 (rx_pi zr zS)
  refine ev_aload_n (i := 0) 1 dX10_couple_0 rfl rfl rfl ?_
  refine ev_get (v := .ref 2) 4 dX10_couple_1 dk_0 fl_10_20 (by decide) rfl rfl rfl ?_
  refine ev_iload_n (i := 1) 5 dX10_couple_4 rfl rfl rfl ?_
  obtain ⟨x5, S4, g6, h⟩ := rx_bd_o h
  refine ev_cVi1 8 dX10_couple_5 (em_X8_hasCouple_2 g6) mm_X8_hasCouple mv_X8_hasCouple lk_10_117 dk_2 (by decide) rfl (Nat.le_of_ble_eq_true rfl) (Nat.le_of_ble_eq_true rfl) rfl ?_
  refine ev_if_ne 13 11 dX10_couple_8 rfl rfl (fun c7 => ?_) (fun c7 => ?_)
  · replace h := rx_if_f c7 h
    refine ev_iload_n (i := 2) 14 dX10_couple_13 rfl rfl rfl ?_
    obtain ⟨J52_1, eJ52_1, h⟩ := rx_let_o h
    have hJ52_1 : ∀ (x8 : Int32) (x9 : Int32) (S10 : rx_S), J52_1 x8 x9 S10 = some (zr, zS) → EV gC (d + 1) mX10_couple 52 [some (.ref 0), some (.int x8), some (.int x9)] [] S10 (rx_pi zr zS) := by
      intro x8 x9 S10 h
      subst eJ52_1
      refine ev_aload_n (i := 0) 53 dX10_couple_52 rfl rfl rfl ?_
      refine ev_get (v := .ref 2) 56 dX10_couple_53 dk_0 fl_10_20 (by decide) rfl rfl rfl ?_
      refine ev_get (v := .ref 10) 59 dX10_couple_56 dk_2 fl_10_120 (by decide) rfl rfl rfl ?_
      refine ev_iconst (v := 2) 60 dX10_couple_59 (by decide) rfl ?_
      refine ev_iload_n (i := 1) 61 dX10_couple_60 rfl rfl rfl ?_
      refine ev_imul 62 dX10_couple_61 rfl ?_
      refine ev_iload_n (i := 2) 63 dX10_couple_62 rfl rfl rfl ?_
      refine ev_iadd 64 dX10_couple_63 rfl ?_
      obtain ⟨g11, h⟩ := rx_gd_o h
      refine ex_iald _ 65 dX10_couple_64 dk_10 g11 rfl rfl ?_
      exact ev_ireturn dX10_couple_65 rfl (rx_ret_i h)
    by_cases c12 : x2 = 0
    · replace h := rx_if_t c12 h
      refine ev_tableIn 52 dX10_couple_14 (by rw [c12]; decide) (by rw [c12]; decide) (off := 38) (by rw [c12]; rfl) rfl ?_
      exact (hJ52_1 _ _ _ h).fewer (rx_le_s (rx_le_s (rx_le_s rx_le_0)))
    · replace h := rx_if_f c12 h
      by_cases c13 : x2 = 1
      · replace h := rx_if_t c13 h
        refine ev_tableIn 52 dX10_couple_14 (by rw [c13]; decide) (by rw [c13]; decide) (off := 38) (by rw [c13]; rfl) rfl ?_
        exact (hJ52_1 _ _ _ h).fewer (rx_le_s (rx_le_s (rx_le_s rx_le_0)))
      · replace h := rx_if_f c13 h
        by_cases c14 : x2 = 2
        · replace h := rx_if_t c14 h
          refine ev_tableIn 66 dX10_couple_14 (by rw [c14]; decide) (by rw [c14]; decide) (off := 52) (by rw [c14]; rfl) rfl ?_
          refine ev_aload_n (i := 0) 67 dX10_couple_66 rfl rfl rfl ?_
          refine ev_get (v := .ref 32) 70 dX10_couple_67 dk_0 fl_10_31 (by decide) rfl rfl rfl ?_
          refine ev_bipush (v := 16) 72 dX10_couple_70 (by decide) rfl ?_
          refine ev_iload_n (i := 1) 73 dX10_couple_72 rfl rfl rfl ?_
          refine ev_iadd 74 dX10_couple_73 rfl ?_
          obtain ⟨g15, h⟩ := rx_gd_o h
          refine ex_iald _ 75 dX10_couple_74 dk_32 g15 rfl rfl ?_
          refine ev_iconst (v := (-1)) 76 dX10_couple_75 (by decide) rfl ?_
          refine ev_icmp_ne 84 79 dX10_couple_76 rfl rfl (fun c16 => ?_) (fun c16 => ?_)
          · replace h := rx_if_f c16 h
            refine ev_aload_n (i := 0) 85 dX10_couple_84 rfl rfl rfl ?_
            refine ev_get (v := .ref 32) 88 dX10_couple_85 dk_0 fl_10_31 (by decide) rfl rfl rfl ?_
            refine ev_bipush (v := 16) 90 dX10_couple_88 (by decide) rfl ?_
            refine ev_iload_n (i := 1) 91 dX10_couple_90 rfl rfl rfl ?_
            refine ev_iadd 92 dX10_couple_91 rfl ?_
            obtain ⟨g17, h⟩ := rx_gd_o h
            refine ex_iald _ 93 dX10_couple_92 dk_32 g17 rfl rfl ?_
            exact ev_ireturn dX10_couple_93 rfl (rx_ret_i h)
          · replace h := rx_if_t c16 h
            refine ev_bipush (v := (-2)) 81 dX10_couple_79 (by decide) rfl ?_
            refine ev_goto 93 dX10_couple_81 rfl ?_
            exact ev_ireturn dX10_couple_93 rfl (rx_ret_i h)
        · replace h := rx_if_f c14 h
          by_cases c18 : x2 = 3
          · replace h := rx_if_t c18 h
            refine ev_tableIn 94 dX10_couple_14 (by rw [c18]; decide) (by rw [c18]; decide) (off := 80) (by rw [c18]; rfl) rfl ?_
            refine ev_aload_n (i := 0) 95 dX10_couple_94 rfl rfl rfl ?_
            refine ev_get (v := .ref 32) 98 dX10_couple_95 dk_0 fl_10_31 (by decide) rfl rfl rfl ?_
            refine ev_bipush (v := 19) 100 dX10_couple_98 (by decide) rfl ?_
            refine ev_iload_n (i := 1) 101 dX10_couple_100 rfl rfl rfl ?_
            refine ev_iadd 102 dX10_couple_101 rfl ?_
            obtain ⟨g19, h⟩ := rx_gd_o h
            refine ex_iald _ 103 dX10_couple_102 dk_32 g19 rfl rfl ?_
            exact ev_ireturn dX10_couple_103 rfl (rx_ret_i h)
          · replace h := rx_if_f c18 h
            by_cases c20 : x2 = 4
            · replace h := rx_if_t c20 h
              refine ev_tableIn 104 dX10_couple_14 (by rw [c20]; decide) (by rw [c20]; decide) (off := 90) (by rw [c20]; rfl) rfl ?_
              refine ev_aload_n (i := 0) 105 dX10_couple_104 rfl rfl rfl ?_
              refine ev_get (v := .ref 32) 108 dX10_couple_105 dk_0 fl_10_31 (by decide) rfl rfl rfl ?_
              refine ev_bipush (v := 22) 110 dX10_couple_108 (by decide) rfl ?_
              refine ev_iload_n (i := 1) 111 dX10_couple_110 rfl rfl rfl ?_
              refine ev_iadd 112 dX10_couple_111 rfl ?_
              obtain ⟨g21, h⟩ := rx_gd_o h
              refine ex_iald _ 113 dX10_couple_112 dk_32 g21 rfl rfl ?_
              exact ev_ireturn dX10_couple_113 rfl (rx_ret_i h)
            · replace h := rx_if_f c20 h
              by_cases c22 : x2 = 5
              · replace h := rx_if_t c22 h
                refine ev_tableIn 114 dX10_couple_14 (by rw [c22]; decide) (by rw [c22]; decide) (off := 100) (by rw [c22]; rfl) rfl ?_
                refine ev_aload_n (i := 0) 115 dX10_couple_114 rfl rfl rfl ?_
                refine ev_get (v := .ref 32) 118 dX10_couple_115 dk_0 fl_10_31 (by decide) rfl rfl rfl ?_
                refine ev_bipush (v := 25) 120 dX10_couple_118 (by decide) rfl ?_
                refine ev_iload_n (i := 1) 121 dX10_couple_120 rfl rfl rfl ?_
                refine ev_iadd 122 dX10_couple_121 rfl ?_
                obtain ⟨g23, h⟩ := rx_gd_o h
                refine ex_iald _ 123 dX10_couple_122 dk_32 g23 rfl rfl ?_
                exact ev_ireturn dX10_couple_123 rfl (rx_ret_i h)
              · replace h := rx_if_f c22 h
                refine ev_tableOut 124 dX10_couple_14 (by have q0 := rx_ne c12 (z := 0) (by decide); have q1 := rx_ne c13 (z := 1) (by decide); have q2 := rx_ne c14 (z := 2) (by decide); have q3 := rx_ne c18 (z := 3) (by decide); have q4 := rx_ne c20 (z := 4) (by decide); have q5 := rx_ne c22 (z := 5) (by decide); omega) rfl ?_
                refine ev_iconst (v := (-1)) 125 dX10_couple_124 (by decide) rfl ?_
                exact ev_ireturn dX10_couple_125 rfl (rx_ret_i h)
  · replace h := rx_if_t c7 h
    refine ev_iconst (v := (-1)) 12 dX10_couple_11 (by decide) rfl ?_
    exact ev_ireturn dX10_couple_12 rfl (rx_ret_i h)

def f_X10_couplesOf_L4 (N : Nat) : Nat → Int32 → Int32 → Int32 → rx_S → Option (Int32 × rx_S)
  | 0, _, _, _, _ => none
  | n + 1, x3, x4, x5, S6 => if (S6.1 2 7) ≤ x5 then (some (x4, S6)) else (rx_gd ((16 : Int32) + x5) 48 (if (S6.1 32 (Int32.toNatClampNeg ((16 : Int32) + x5))) = x3 then (rx_let (x4 ||| ((1 : Int32) <<< (x5 &&& 31))) (fun x11 => rx_let (x5 + 1) (fun x12 => f_X10_couplesOf_L4 N n x3 x11 x12 S6))) else (rx_let (x5 + 1) (fun x10 => f_X10_couplesOf_L4 N n x3 x4 x10 S6))))
def f_X10_couplesOf (N : Nat) (x1 : Int32) (S0 : rx_S) : Option (Int32 × rx_S) := f_X10_couplesOf_L4 N N x1 0 0 S0
set_option maxHeartbeats 4000000 in
set_option maxRecDepth 20000 in
theorem em_X10_couplesOf_L4 {d N : Nat} {zr : Int32} {zS : rx_S} : ∀ (n : Nat) (x3 : Int32) (x4 : Int32) (x5 : Int32) (S6 : rx_S), f_X10_couplesOf_L4 N n x3 x4 x5 S6 = some (zr, zS) → EV gC d mX10_couplesOf 4 [some (.ref 0), some (.int x3), some (.int x4), some (.int x5)] [] S6 (rx_pi zr zS) := by
  intro n
  induction n with
  | zero => intro x3 x4 x5 S6 h; cases h
  | succ n ih =>
    intro x3 x4 x5 S6 h
    rw [f_X10_couplesOf_L4] at h
    refine ev_iload_n (i := 3) 5 dX10_couplesOf_4 rfl rfl rfl ?_
    refine ev_aload_n (i := 0) 6 dX10_couplesOf_5 rfl rfl rfl ?_
    refine ev_get (v := .ref 2) 9 dX10_couplesOf_6 dk_0 fl_10_20 (by decide) rfl rfl rfl ?_
    refine ev_get (v := .int (S6.1 2 7)) 12 dX10_couplesOf_9 dk_2 fl_10_138 (by decide) rfl rfl rfl ?_
    refine ev_icmp_ge 40 15 dX10_couplesOf_12 rfl rfl (fun c7 => ?_) (fun c7 => ?_)
    · replace h := rx_if_t c7 h
      refine ev_iload_n (i := 2) 41 dX10_couplesOf_40 rfl rfl rfl ?_
      exact ev_ireturn dX10_couplesOf_41 rfl (rx_ret_i h)
    · replace h := rx_if_f c7 h
      refine ev_aload_n (i := 0) 16 dX10_couplesOf_15 rfl rfl rfl ?_
      refine ev_get (v := .ref 32) 19 dX10_couplesOf_16 dk_0 fl_10_31 (by decide) rfl rfl rfl ?_
      refine ev_bipush (v := 16) 21 dX10_couplesOf_19 (by decide) rfl ?_
      refine ev_iload_n (i := 3) 22 dX10_couplesOf_21 rfl rfl rfl ?_
      refine ev_iadd 23 dX10_couplesOf_22 rfl ?_
      obtain ⟨g8, h⟩ := rx_gd_o h
      refine ex_iald _ 24 dX10_couplesOf_23 dk_32 g8 rfl rfl ?_
      refine ev_iload_n (i := 1) 25 dX10_couplesOf_24 rfl rfl rfl ?_
      refine ev_icmp_ne 34 28 dX10_couplesOf_25 rfl rfl (fun c9 => ?_) (fun c9 => ?_)
      · replace h := rx_if_f c9 h
        obtain ⟨x10, ex10, h⟩ := rx_let_o h
        refine ev_iinc (v := x10) (ls' := [some (.ref 0), some (.int x3), some (.int x4), some (.int x10)]) 37 dX10_couplesOf_34 rfl (by rw [ex10]; rfl) (Nat.le_of_ble_eq_true rfl) rfl rfl ?_
        refine ev_goto 4 dX10_couplesOf_37 rfl ?_
        exact (ih _ _ _ _ h).fewer (rx_le_s (rx_le_s (rx_le_s (rx_le_s rx_le_0))))
      · replace h := rx_if_t c9 h
        refine ev_iload_n (i := 2) 29 dX10_couplesOf_28 rfl rfl rfl ?_
        refine ev_iconst (v := 1) 30 dX10_couplesOf_29 (by decide) rfl ?_
        refine ev_iload_n (i := 3) 31 dX10_couplesOf_30 rfl rfl rfl ?_
        refine ev_ishl 32 dX10_couplesOf_31 rfl ?_
        refine ev_ior 33 dX10_couplesOf_32 rfl ?_
        obtain ⟨x11, ex11, h⟩ := rx_let_o h
        refine ev_nm ex11 ?_
        refine ev_istore_n (ls' := [some (.ref 0), some (.int x3), some (.int x11), some (.int x5)]) 34 dX10_couplesOf_33 rfl (Nat.le_of_ble_eq_true rfl) rfl rfl ?_
        obtain ⟨x12, ex12, h⟩ := rx_let_o h
        refine ev_iinc (v := x12) (ls' := [some (.ref 0), some (.int x3), some (.int x11), some (.int x12)]) 37 dX10_couplesOf_34 rfl (by rw [ex12]; rfl) (Nat.le_of_ble_eq_true rfl) rfl rfl ?_
        refine ev_goto 4 dX10_couplesOf_37 rfl ?_
        exact (ih _ _ _ _ h).fewer (rx_le_s (rx_le_s (rx_le_s (rx_le_s rx_le_0))))

set_option maxHeartbeats 4000000 in
set_option maxRecDepth 20000 in
theorem em_X10_couplesOf {d N : Nat} {x1 : Int32} {S0 : rx_S} {zr : Int32} {zS : rx_S} (h : f_X10_couplesOf N x1 S0 = some (zr, zS)) : EM gC d mX10_couplesOf [.ref 0, .int x1] S0 (rx_pi zr zS) := by
  unfold f_X10_couplesOf at h
  show EV gC d mX10_couplesOf 0 [some (.ref 0), some (.int x1), none, none] [] S0 (rx_pi zr zS)
  refine ev_iconst (v := 0) 1 dX10_couplesOf_0 (by decide) rfl ?_
  refine ev_istore_n (ls' := [some (.ref 0), some (.int x1), some (.int 0), none]) 2 dX10_couplesOf_1 rfl (Nat.le_of_ble_eq_true rfl) rfl rfl ?_
  refine ev_iconst (v := 0) 3 dX10_couplesOf_2 (by decide) rfl ?_
  refine ev_istore_n (ls' := [some (.ref 0), some (.int x1), some (.int 0), some (.int 0)]) 4 dX10_couplesOf_3 rfl (Nat.le_of_ble_eq_true rfl) rfl rfl ?_
  exact (em_X10_couplesOf_L4 _ _ _ _ _ h).fewer (rx_le_s (rx_le_s (rx_le_s (rx_le_s rx_le_0))))

