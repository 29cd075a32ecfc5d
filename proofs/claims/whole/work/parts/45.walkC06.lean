def f_X4_readUnit (rec : Int32 → rx_S → Option (Int32 × rx_S)) (N : Nat) (x1 : Int32) (S0 : rx_S) : Option (Int32 × rx_S) := rx_bd (f_X9_kindAt (S0.1 13 5) S0) (fun x4 S3 => if x4 = 40 then (if x1 < 6 then (rx_bd (f_X4_take 40 S3) (fun x34 S33 => if x34 = 0 then (some (0, S33)) else (rx_bd (rec (x1 + 1) S33) (fun x38 S37 => if x38 = 0 then (some (0, S37)) else (rx_bd (f_X4_take 41 S37) (fun x42 S41 => if x42 = 0 then (some (0, S41)) else (some (1, S41)))))))) else (rx_bd (f_X4_refuse 2 S3) (fun x46 S45 => rx_bl x46 (some (x46, S45))))) else (rx_let (fun (x7 : Int32) (x8 : Int32) (S9 : rx_S) => rx_let (fun (x10 : Int32) (x11 : Int32) (x12 : Int32) (S13 : rx_S) => rx_bd (f_X4_take x12 S13) (fun x15 S14 => if x15 = 0 then (some (0, S14)) else (rx_let (fun (x18 : Int32) (S19 : rx_S) => rx_bd (f_X2_add 20 x18 S19) (fun x21 S20 => some (1, S20))) (fun J127_3 => if x11 = 0 then (rx_bd (f_X4_taken S14) (fun x25 S24 => J127_3 x25 S24)) else (J127_3 (((-1) : Int32) - (x10 - 143)) S14))))) (fun J94_2 => if x8 = 0 then (J94_2 x7 x8 3 S9) else (J94_2 x7 x8 x7 S9))) (fun J83_1 => rx_let (fun (x28 : Int32) (S29 : rx_S) => J83_1 x28 0 S29) (fun J82_4 => if x4 < 143 then (J82_4 x4 S3) else (if (152 : Int32) ≤ x4 then (J82_4 x4 S3) else (J83_1 x4 1 S3))))))
set_option maxHeartbeats 4000000 in
set_option maxRecDepth 20000 in
theorem em_X4_readUnit {d N : Nat} {rec : Int32 → rx_S → Option (Int32 × rx_S)} (hrec : ∀ (x : Int32) (S T : rx_S) (z : Int32), rec x S = some (z, T) → EM gC (d + 6) mX4_readSum [.ref 13, .int x] S (rx_pi z T)) {x1 : Int32} {S0 : rx_S} {zr : Int32} {zS : rx_S} (h : f_X4_readUnit rec N x1 S0 = some (zr, zS)) : EM gC (d + 7) mX4_readUnit [.ref 13, .int x1] S0 (rx_pi zr zS) := by
  unfold f_X4_readUnit at h
  show EV gC (d + 7) mX4_readUnit 0 [some (.ref 13), some (.int x1), none, none] [] S0 (rx_pi zr zS)
  refine ev_aload_n (i := 0) 1 dX4_readUnit_0 rfl rfl rfl ?_
  refine ev_get (v := .ref 14) 4 dX4_readUnit_1 dk_13 fl_4_12 (by decide) rfl rfl rfl ?_
  refine ev_aload_n (i := 0) 5 dX4_readUnit_4 rfl rfl rfl ?_
  refine ev_get (v := .int (S0.1 13 5)) 8 dX4_readUnit_5 dk_13 fl_4_44 (by decide) rfl rfl rfl ?_
  obtain ⟨x4, S3, g5, h⟩ := rx_bd_o h
  refine ev_cVi1 11 dX4_readUnit_8 (em_X9_kindAt g5) mm_X9_kindAt mv_X9_kindAt lk_4_56 dk_14 (by decide) rfl (Nat.le_of_ble_eq_true rfl) (Nat.le_of_ble_eq_true rfl) rfl ?_
  refine ev_istore_n (ls' := [some (.ref 13), some (.int x1), some (.int x4), none]) 12 dX4_readUnit_11 rfl (Nat.le_of_ble_eq_true rfl) rfl rfl ?_
  refine ev_iload_n (i := 2) 13 dX4_readUnit_12 rfl rfl rfl ?_
  refine ev_bipush (v := 40) 15 dX4_readUnit_13 (by decide) rfl ?_
  refine ev_icmp_ne 64 18 dX4_readUnit_15 rfl rfl (fun c6 => ?_) (fun c6 => ?_)
  · replace h := rx_if_f c6 h
    refine ev_iload_n (i := 2) 65 dX4_readUnit_64 rfl rfl rfl ?_
    refine ev_sipush (v := 143) 68 dX4_readUnit_65 (by decide) rfl ?_
    obtain ⟨J83_1, eJ83_1, h⟩ := rx_let_o h
    have hJ83_1 : ∀ (x7 : Int32) (x8 : Int32) (S9 : rx_S), J83_1 x7 x8 S9 = some (zr, zS) → EV gC (d + 7) mX4_readUnit 83 [some (.ref 13), none, some (.int x7), none] [.int x8] S9 (rx_pi zr zS) := by
      intro x7 x8 S9 h
      subst eJ83_1
      refine ev_istore_n (ls' := [some (.ref 13), none, some (.int x7), some (.int x8)]) 84 dX4_readUnit_83 rfl (Nat.le_of_ble_eq_true rfl) rfl rfl ?_
      refine ev_aload_n (i := 0) 85 dX4_readUnit_84 rfl rfl rfl ?_
      refine ev_iload_n (i := 3) 86 dX4_readUnit_85 rfl rfl rfl ?_
      obtain ⟨J94_2, eJ94_2, h⟩ := rx_let_o h
      have hJ94_2 : ∀ (x10 : Int32) (x11 : Int32) (x12 : Int32) (S13 : rx_S), J94_2 x10 x11 x12 S13 = some (zr, zS) → EV gC (d + 7) mX4_readUnit 94 [some (.ref 13), none, some (.int x10), some (.int x11)] [.int x12, .ref 13] S13 (rx_pi zr zS) := by
        intro x10 x11 x12 S13 h
        subst eJ94_2
        obtain ⟨x15, S14, g16, h⟩ := rx_bd_o h
        refine ev_cVi1 97 dX4_readUnit_94 (em_X4_take g16) mm_X4_take mv_X4_take lk_4_73 dk_13 (by decide) rfl (Nat.le_of_ble_eq_true rfl) (Nat.le_of_ble_eq_true rfl) rfl ?_
        refine ev_if_ne 102 100 dX4_readUnit_97 rfl rfl (fun c17 => ?_) (fun c17 => ?_)
        · replace h := rx_if_f c17 h
          refine ev_aload_n (i := 0) 103 dX4_readUnit_102 rfl rfl rfl ?_
          refine ev_get (v := .ref 19) 106 dX4_readUnit_103 dk_13 fl_4_21 (by decide) rfl rfl rfl ?_
          refine ev_get (v := .ref 20) 109 dX4_readUnit_106 dk_19 fl_4_151 (by decide) rfl rfl rfl ?_
          refine ev_iload_n (i := 3) 110 dX4_readUnit_109 rfl rfl rfl ?_
          obtain ⟨J127_3, eJ127_3, h⟩ := rx_let_o h
          have hJ127_3 : ∀ (x18 : Int32) (S19 : rx_S), J127_3 x18 S19 = some (zr, zS) → EV gC (d + 7) mX4_readUnit 127 [some (.ref 13), none, none, none] [.int x18, .ref 20] S19 (rx_pi zr zS) := by
            intro x18 S19 h
            subst eJ127_3
            obtain ⟨x21, S20, g22, h⟩ := rx_bd_o h
            refine ev_cVi1 130 dX4_readUnit_127 (em_X2_add_20 g22) mm_X2_add mv_X2_add lk_4_163 dk_20 (by decide) rfl (Nat.le_of_ble_eq_true rfl) (Nat.le_of_ble_eq_true rfl) rfl ?_
            refine ev_pop 131 dX4_readUnit_130 rfl rfl ?_
            refine ev_iconst (v := 1) 132 dX4_readUnit_131 (by decide) rfl ?_
            exact ev_zreturn dX4_readUnit_132 rfl (by decide) (rx_ret_i h)
          refine ev_if_eq 123 113 dX4_readUnit_110 rfl rfl (fun c23 => ?_) (fun c23 => ?_)
          · replace h := rx_if_t c23 h
            refine ev_aload_n (i := 0) 124 dX4_readUnit_123 rfl rfl rfl ?_
            obtain ⟨x25, S24, g26, h⟩ := rx_bd_o h
            refine ev_cVi0 127 dX4_readUnit_124 (em_X4_taken g26) mm_X4_taken mv_X4_taken lk_4_76 dk_13 (by decide) rfl (Nat.le_of_ble_eq_true rfl) (Nat.le_of_ble_eq_true rfl) rfl ?_
            exact (hJ127_3 _ _ h).fewer (rx_le_s (rx_le_n (rx_le_n (rx_le_n rx_le_0))))
          · replace h := rx_if_f c23 h
            refine ev_iconst (v := (-1)) 114 dX4_readUnit_113 (by decide) rfl ?_
            refine ev_iload_n (i := 2) 115 dX4_readUnit_114 rfl rfl rfl ?_
            refine ev_sipush (v := 143) 118 dX4_readUnit_115 (by decide) rfl ?_
            refine ev_isub 119 dX4_readUnit_118 rfl ?_
            refine ev_isub 120 dX4_readUnit_119 rfl ?_
            refine ev_goto 127 dX4_readUnit_120 rfl ?_
            exact (hJ127_3 _ _ h).fewer (rx_le_s (rx_le_n (rx_le_n (rx_le_n rx_le_0))))
        · replace h := rx_if_t c17 h
          refine ev_iconst (v := 0) 101 dX4_readUnit_100 (by decide) rfl ?_
          exact ev_zreturn dX4_readUnit_101 rfl (by decide) (rx_ret_i h)
      refine ev_if_eq 93 89 dX4_readUnit_86 rfl rfl (fun c27 => ?_) (fun c27 => ?_)
      · replace h := rx_if_t c27 h
        refine ev_iconst (v := 3) 94 dX4_readUnit_93 (by decide) rfl ?_
        exact (hJ94_2 _ _ _ _ h).fewer (rx_le_s (rx_le_n (rx_le_s (rx_le_s rx_le_0))))
      · replace h := rx_if_f c27 h
        refine ev_iload_n (i := 2) 90 dX4_readUnit_89 rfl rfl rfl ?_
        refine ev_goto 94 dX4_readUnit_90 rfl ?_
        exact (hJ94_2 _ _ _ _ h).fewer (rx_le_s (rx_le_n (rx_le_s (rx_le_s rx_le_0))))
    obtain ⟨J82_4, eJ82_4, h⟩ := rx_let_o h
    have hJ82_4 : ∀ (x28 : Int32) (S29 : rx_S), J82_4 x28 S29 = some (zr, zS) → EV gC (d + 7) mX4_readUnit 82 [some (.ref 13), none, some (.int x28), none] [] S29 (rx_pi zr zS) := by
      intro x28 S29 h
      subst eJ82_4
      refine ev_iconst (v := 0) 83 dX4_readUnit_82 (by decide) rfl ?_
      exact (hJ83_1 _ _ _ h).fewer (rx_le_s (rx_le_n (rx_le_s (rx_le_n rx_le_0))))
    refine ev_icmp_lt 82 71 dX4_readUnit_68 rfl rfl (fun c30 => ?_) (fun c30 => ?_)
    · replace h := rx_if_t c30 h
      exact (hJ82_4 _ _ h).fewer (rx_le_s (rx_le_n (rx_le_s (rx_le_n rx_le_0))))
    · replace h := rx_if_f c30 h
      refine ev_iload_n (i := 2) 72 dX4_readUnit_71 rfl rfl rfl ?_
      refine ev_sipush (v := 152) 75 dX4_readUnit_72 (by decide) rfl ?_
      refine ev_icmp_ge 82 78 dX4_readUnit_75 rfl rfl (fun c31 => ?_) (fun c31 => ?_)
      · replace h := rx_if_t c31 h
        exact (hJ82_4 _ _ h).fewer (rx_le_s (rx_le_n (rx_le_s (rx_le_n rx_le_0))))
      · replace h := rx_if_f c31 h
        refine ev_iconst (v := 1) 79 dX4_readUnit_78 (by decide) rfl ?_
        refine ev_goto 83 dX4_readUnit_79 rfl ?_
        exact (hJ83_1 _ _ _ h).fewer (rx_le_s (rx_le_n (rx_le_s (rx_le_n rx_le_0))))
  · replace h := rx_if_t c6 h
    refine ev_iload_n (i := 1) 19 dX4_readUnit_18 rfl rfl rfl ?_
    refine ev_bipush (v := 6) 21 dX4_readUnit_19 (by decide) rfl ?_
    refine ev_icmp_lt 30 24 dX4_readUnit_21 rfl rfl (fun c32 => ?_) (fun c32 => ?_)
    · replace h := rx_if_t c32 h
      refine ev_aload_n (i := 0) 31 dX4_readUnit_30 rfl rfl rfl ?_
      refine ev_bipush (v := 40) 33 dX4_readUnit_31 (by decide) rfl ?_
      obtain ⟨x34, S33, g35, h⟩ := rx_bd_o h
      refine ev_cVi1 36 dX4_readUnit_33 (em_X4_take g35) mm_X4_take mv_X4_take lk_4_73 dk_13 (by decide) rfl (Nat.le_of_ble_eq_true rfl) (Nat.le_of_ble_eq_true rfl) rfl ?_
      refine ev_if_eq 62 39 dX4_readUnit_36 rfl rfl (fun c36 => ?_) (fun c36 => ?_)
      · replace h := rx_if_t c36 h
        refine ev_iconst (v := 0) 63 dX4_readUnit_62 (by decide) rfl ?_
        exact ev_zreturn dX4_readUnit_63 rfl (by decide) (rx_ret_i h)
      · replace h := rx_if_f c36 h
        refine ev_aload_n (i := 0) 40 dX4_readUnit_39 rfl rfl rfl ?_
        refine ev_iload_n (i := 1) 41 dX4_readUnit_40 rfl rfl rfl ?_
        refine ev_iconst (v := 1) 42 dX4_readUnit_41 (by decide) rfl ?_
        refine ev_iadd 43 dX4_readUnit_42 rfl ?_
        obtain ⟨x38, S37, g39, h⟩ := rx_bd_o h
        refine ev_cVi1 46 dX4_readUnit_43 (hrec _ _ _ _ g39) mm_X4_readSum mv_X4_readSum lk_4_160 dk_13 (by decide) rfl (Nat.le_of_ble_eq_true rfl) (Nat.le_of_ble_eq_true rfl) rfl ?_
        refine ev_if_eq 62 49 dX4_readUnit_46 rfl rfl (fun c40 => ?_) (fun c40 => ?_)
        · replace h := rx_if_t c40 h
          refine ev_iconst (v := 0) 63 dX4_readUnit_62 (by decide) rfl ?_
          exact ev_zreturn dX4_readUnit_63 rfl (by decide) (rx_ret_i h)
        · replace h := rx_if_f c40 h
          refine ev_aload_n (i := 0) 50 dX4_readUnit_49 rfl rfl rfl ?_
          refine ev_bipush (v := 41) 52 dX4_readUnit_50 (by decide) rfl ?_
          obtain ⟨x42, S41, g43, h⟩ := rx_bd_o h
          refine ev_cVi1 55 dX4_readUnit_52 (em_X4_take g43) mm_X4_take mv_X4_take lk_4_73 dk_13 (by decide) rfl (Nat.le_of_ble_eq_true rfl) (Nat.le_of_ble_eq_true rfl) rfl ?_
          refine ev_if_eq 62 58 dX4_readUnit_55 rfl rfl (fun c44 => ?_) (fun c44 => ?_)
          · replace h := rx_if_t c44 h
            refine ev_iconst (v := 0) 63 dX4_readUnit_62 (by decide) rfl ?_
            exact ev_zreturn dX4_readUnit_63 rfl (by decide) (rx_ret_i h)
          · replace h := rx_if_f c44 h
            refine ev_iconst (v := 1) 59 dX4_readUnit_58 (by decide) rfl ?_
            refine ev_goto 63 dX4_readUnit_59 rfl ?_
            exact ev_zreturn dX4_readUnit_63 rfl (by decide) (rx_ret_i h)
    · replace h := rx_if_f c32 h
      refine ev_aload_n (i := 0) 25 dX4_readUnit_24 rfl rfl rfl ?_
      refine ev_iconst (v := 2) 26 dX4_readUnit_25 (by decide) rfl ?_
      obtain ⟨x46, S45, g47, h⟩ := rx_bd_o h
      refine ev_cVi1 29 dX4_readUnit_26 (em_X4_refuse g47) mm_X4_refuse mv_X4_refuse lk_4_104 dk_13 (by decide) rfl (Nat.le_of_ble_eq_true rfl) (Nat.le_of_ble_eq_true rfl) rfl ?_
      obtain ⟨g48, h⟩ := rx_bl_o h
      exact ev_zreturn dX4_readUnit_29 rfl (rx_nb g48) (rx_ret_i h)

def f_X4_readProduct_L12 (rec : Int32 → rx_S → Option (Int32 × rx_S)) (N : Nat) : Nat → Int32 → Int32 → rx_S → Option (Int32 × rx_S)
  | 0, _, _, _ => none
  | n + 1, x7, x8, S9 => if (400 : Int32) < x8 then (some (0, S9)) else (rx_bd (f_X9_kindAt (S9.1 13 5) S9) (fun x12 S11 => rx_let (fun (x14 : Int32) (x15 : Int32) (x16 : Int32) (S17 : rx_S) => rx_bd (f_X4_take x16 S17) (fun x19 S18 => if x19 = 0 then (some (0, S18)) else (rx_bd (f_X4_readUnit rec N x14 S18) (fun x23 S22 => if x23 = 0 then (some (0, S22)) else (rx_let (fun (x26 : Int32) (x27 : Int32) (x28 : Int32) (S29 : rx_S) => rx_bd (f_X2_add 20 x28 S29) (fun x31 S30 => rx_let (x27 + 1) (fun x33 => f_X4_readProduct_L12 rec N n x26 x33 S30))) (fun J83_2 => if x16 = 42 then (J83_2 x14 x15 (-12) S22) else (J83_2 x14 x15 (-13) S22))))))) (fun J45_1 => if x12 = 42 then (J45_1 x7 x8 x12 S11) else (if x12 = 47 then (J45_1 x7 x8 x12 S11) else (some (1, S11))))))
def f_X4_readProduct (rec : Int32 → rx_S → Option (Int32 × rx_S)) (N : Nat) (x1 : Int32) (S0 : rx_S) : Option (Int32 × rx_S) := rx_bd (f_X4_readUnit rec N x1 S0) (fun x4 S3 => if x4 = 0 then (some (0, S3)) else (f_X4_readProduct_L12 rec N N x1 0 S3))
set_option maxHeartbeats 4000000 in
set_option maxRecDepth 20000 in
theorem em_X4_readProduct_L12 {d N : Nat} {rec : Int32 → rx_S → Option (Int32 × rx_S)} (hrec : ∀ (x : Int32) (S T : rx_S) (z : Int32), rec x S = some (z, T) → EM gC (d + 6) mX4_readSum [.ref 13, .int x] S (rx_pi z T)) {zr : Int32} {zS : rx_S} : ∀ (n : Nat) (x7 : Int32) (x8 : Int32) (S9 : rx_S), f_X4_readProduct_L12 rec N n x7 x8 S9 = some (zr, zS) → EV gC (d + 8) mX4_readProduct 12 [some (.ref 13), some (.int x7), some (.int x8), none] [] S9 (rx_pi zr zS) := by
  intro n
  induction n with
  | zero => intro x7 x8 S9 h; cases h
  | succ n ih =>
    intro x7 x8 S9 h
    rw [f_X4_readProduct_L12] at h
    refine ev_iload_n (i := 2) 13 dX4_readProduct_12 rfl rfl rfl ?_
    refine ev_sipush (v := 400) 16 dX4_readProduct_13 (by decide) rfl ?_
    refine ev_icmp_gt 93 19 dX4_readProduct_16 rfl rfl (fun c10 => ?_) (fun c10 => ?_)
    · replace h := rx_if_t c10 h
      refine ev_iconst (v := 0) 94 dX4_readProduct_93 (by decide) rfl ?_
      exact ev_zreturn dX4_readProduct_94 rfl (by decide) (rx_ret_i h)
    · replace h := rx_if_f c10 h
      refine ev_aload_n (i := 0) 20 dX4_readProduct_19 rfl rfl rfl ?_
      refine ev_get (v := .ref 14) 23 dX4_readProduct_20 dk_13 fl_4_12 (by decide) rfl rfl rfl ?_
      refine ev_aload_n (i := 0) 24 dX4_readProduct_23 rfl rfl rfl ?_
      refine ev_get (v := .int (S9.1 13 5)) 27 dX4_readProduct_24 dk_13 fl_4_44 (by decide) rfl rfl rfl ?_
      obtain ⟨x12, S11, g13, h⟩ := rx_bd_o h
      refine ev_cVi1 30 dX4_readProduct_27 (em_X9_kindAt g13) mm_X9_kindAt mv_X9_kindAt lk_4_56 dk_14 (by decide) rfl (Nat.le_of_ble_eq_true rfl) (Nat.le_of_ble_eq_true rfl) rfl ?_
      refine ev_istore_n (ls' := [some (.ref 13), some (.int x7), some (.int x8), some (.int x12)]) 31 dX4_readProduct_30 rfl (Nat.le_of_ble_eq_true rfl) rfl rfl ?_
      refine ev_iload_n (i := 3) 32 dX4_readProduct_31 rfl rfl rfl ?_
      refine ev_bipush (v := 42) 34 dX4_readProduct_32 (by decide) rfl ?_
      obtain ⟨J45_1, eJ45_1, h⟩ := rx_let_o h
      have hJ45_1 : ∀ (x14 : Int32) (x15 : Int32) (x16 : Int32) (S17 : rx_S), J45_1 x14 x15 x16 S17 = some (zr, zS) → EV gC (d + 8) mX4_readProduct 45 [some (.ref 13), some (.int x14), some (.int x15), some (.int x16)] [] S17 (rx_pi zr zS) := by
        intro x14 x15 x16 S17 h
        subst eJ45_1
        refine ev_aload_n (i := 0) 46 dX4_readProduct_45 rfl rfl rfl ?_
        refine ev_iload_n (i := 3) 47 dX4_readProduct_46 rfl rfl rfl ?_
        obtain ⟨x19, S18, g20, h⟩ := rx_bd_o h
        refine ev_cVi1 50 dX4_readProduct_47 (em_X4_take g20) mm_X4_take mv_X4_take lk_4_73 dk_13 (by decide) rfl (Nat.le_of_ble_eq_true rfl) (Nat.le_of_ble_eq_true rfl) rfl ?_
        refine ev_if_eq 61 53 dX4_readProduct_50 rfl rfl (fun c21 => ?_) (fun c21 => ?_)
        · replace h := rx_if_t c21 h
          refine ev_iconst (v := 0) 62 dX4_readProduct_61 (by decide) rfl ?_
          exact ev_zreturn dX4_readProduct_62 rfl (by decide) (rx_ret_i h)
        · replace h := rx_if_f c21 h
          refine ev_aload_n (i := 0) 54 dX4_readProduct_53 rfl rfl rfl ?_
          refine ev_iload_n (i := 1) 55 dX4_readProduct_54 rfl rfl rfl ?_
          obtain ⟨x23, S22, g24, h⟩ := rx_bd_o h
          refine ev_cVi1 58 dX4_readProduct_55 (em_X4_readUnit hrec g24) mm_X4_readUnit mv_X4_readUnit lk_4_172 dk_13 (by decide) rfl (Nat.le_of_ble_eq_true rfl) (Nat.le_of_ble_eq_true rfl) rfl ?_
          refine ev_if_ne 63 61 dX4_readProduct_58 rfl rfl (fun c25 => ?_) (fun c25 => ?_)
          · replace h := rx_if_f c25 h
            refine ev_aload_n (i := 0) 64 dX4_readProduct_63 rfl rfl rfl ?_
            refine ev_get (v := .ref 19) 67 dX4_readProduct_64 dk_13 fl_4_21 (by decide) rfl rfl rfl ?_
            refine ev_get (v := .ref 20) 70 dX4_readProduct_67 dk_19 fl_4_151 (by decide) rfl rfl rfl ?_
            refine ev_iload_n (i := 3) 71 dX4_readProduct_70 rfl rfl rfl ?_
            refine ev_bipush (v := 42) 73 dX4_readProduct_71 (by decide) rfl ?_
            obtain ⟨J83_2, eJ83_2, h⟩ := rx_let_o h
            have hJ83_2 : ∀ (x26 : Int32) (x27 : Int32) (x28 : Int32) (S29 : rx_S), J83_2 x26 x27 x28 S29 = some (zr, zS) → EV gC (d + 8) mX4_readProduct 83 [some (.ref 13), some (.int x26), some (.int x27), none] [.int x28, .ref 20] S29 (rx_pi zr zS) := by
              intro x26 x27 x28 S29 h
              subst eJ83_2
              obtain ⟨x31, S30, g32, h⟩ := rx_bd_o h
              refine ev_cVi1 86 dX4_readProduct_83 (em_X2_add_20 g32) mm_X2_add mv_X2_add lk_4_163 dk_20 (by decide) rfl (Nat.le_of_ble_eq_true rfl) (Nat.le_of_ble_eq_true rfl) rfl ?_
              refine ev_pop 87 dX4_readProduct_86 rfl rfl ?_
              obtain ⟨x33, ex33, h⟩ := rx_let_o h
              refine ev_iinc (v := x33) (ls' := [some (.ref 13), some (.int x26), some (.int x33), none]) 90 dX4_readProduct_87 rfl (by rw [ex33]; rfl) (Nat.le_of_ble_eq_true rfl) rfl rfl ?_
              refine ev_goto 12 dX4_readProduct_90 rfl ?_
              exact (ih _ _ _ h).fewer (rx_le_s (rx_le_s (rx_le_s (rx_le_n rx_le_0))))
            refine ev_icmp_ne 81 76 dX4_readProduct_73 rfl rfl (fun c34 => ?_) (fun c34 => ?_)
            · replace h := rx_if_f c34 h
              refine ev_bipush (v := (-13)) 83 dX4_readProduct_81 (by decide) rfl ?_
              exact (hJ83_2 _ _ _ _ h).fewer (rx_le_s (rx_le_s (rx_le_s (rx_le_n rx_le_0))))
            · replace h := rx_if_t c34 h
              refine ev_bipush (v := (-12)) 78 dX4_readProduct_76 (by decide) rfl ?_
              refine ev_goto 83 dX4_readProduct_78 rfl ?_
              exact (hJ83_2 _ _ _ _ h).fewer (rx_le_s (rx_le_s (rx_le_s (rx_le_n rx_le_0))))
          · replace h := rx_if_t c25 h
            refine ev_iconst (v := 0) 62 dX4_readProduct_61 (by decide) rfl ?_
            exact ev_zreturn dX4_readProduct_62 rfl (by decide) (rx_ret_i h)
      refine ev_icmp_eq 45 37 dX4_readProduct_34 rfl rfl (fun c35 => ?_) (fun c35 => ?_)
      · replace h := rx_if_t c35 h
        exact (hJ45_1 _ _ _ _ h).fewer (rx_le_s (rx_le_s (rx_le_s (rx_le_s rx_le_0))))
      · replace h := rx_if_f c35 h
        refine ev_iload_n (i := 3) 38 dX4_readProduct_37 rfl rfl rfl ?_
        refine ev_bipush (v := 47) 40 dX4_readProduct_38 (by decide) rfl ?_
        refine ev_icmp_eq 45 43 dX4_readProduct_40 rfl rfl (fun c36 => ?_) (fun c36 => ?_)
        · replace h := rx_if_t c36 h
          exact (hJ45_1 _ _ _ _ h).fewer (rx_le_s (rx_le_s (rx_le_s (rx_le_s rx_le_0))))
        · replace h := rx_if_f c36 h
          refine ev_iconst (v := 1) 44 dX4_readProduct_43 (by decide) rfl ?_
          exact ev_zreturn dX4_readProduct_44 rfl (by decide) (rx_ret_i h)

set_option maxHeartbeats 4000000 in
set_option maxRecDepth 20000 in
theorem em_X4_readProduct {d N : Nat} {rec : Int32 → rx_S → Option (Int32 × rx_S)} (hrec : ∀ (x : Int32) (S T : rx_S) (z : Int32), rec x S = some (z, T) → EM gC (d + 6) mX4_readSum [.ref 13, .int x] S (rx_pi z T)) {x1 : Int32} {S0 : rx_S} {zr : Int32} {zS : rx_S} (h : f_X4_readProduct rec N x1 S0 = some (zr, zS)) : EM gC (d + 8) mX4_readProduct [.ref 13, .int x1] S0 (rx_pi zr zS) := by
  unfold f_X4_readProduct at h
  show EV gC (d + 8) mX4_readProduct 0 [some (.ref 13), some (.int x1), none, none] [] S0 (rx_pi zr zS)
  refine ev_aload_n (i := 0) 1 dX4_readProduct_0 rfl rfl rfl ?_
  refine ev_iload_n (i := 1) 2 dX4_readProduct_1 rfl rfl rfl ?_
  obtain ⟨x4, S3, g5, h⟩ := rx_bd_o h
  refine ev_cVi1 5 dX4_readProduct_2 (em_X4_readUnit hrec g5) mm_X4_readUnit mv_X4_readUnit lk_4_172 dk_13 (by decide) rfl (Nat.le_of_ble_eq_true rfl) (Nat.le_of_ble_eq_true rfl) rfl ?_
  refine ev_if_ne 10 8 dX4_readProduct_5 rfl rfl (fun c6 => ?_) (fun c6 => ?_)
  · replace h := rx_if_f c6 h
    refine ev_iconst (v := 0) 11 dX4_readProduct_10 (by decide) rfl ?_
    refine ev_istore_n (ls' := [some (.ref 13), some (.int x1), some (.int 0), none]) 12 dX4_readProduct_11 rfl (Nat.le_of_ble_eq_true rfl) rfl rfl ?_
    exact (em_X4_readProduct_L12 hrec _ _ _ _ h).fewer (rx_le_s (rx_le_s (rx_le_s (rx_le_n rx_le_0))))
  · replace h := rx_if_t c6 h
    refine ev_iconst (v := 0) 9 dX4_readProduct_8 (by decide) rfl ?_
    exact ev_zreturn dX4_readProduct_9 rfl (by decide) (rx_ret_i h)

def f_X4_readSum1_L12 (rec : Int32 → rx_S → Option (Int32 × rx_S)) (N : Nat) : Nat → Int32 → Int32 → rx_S → Option (Int32 × rx_S)
  | 0, _, _, _ => none
  | n + 1, x7, x8, S9 => if (400 : Int32) < x8 then (some (0, S9)) else (rx_bd (f_X9_kindAt (S9.1 13 5) S9) (fun x12 S11 => rx_let (fun (x14 : Int32) (x15 : Int32) (x16 : Int32) (S17 : rx_S) => rx_bd (f_X4_take x16 S17) (fun x19 S18 => if x19 = 0 then (some (0, S18)) else (rx_bd (f_X4_readProduct rec N x14 S18) (fun x23 S22 => if x23 = 0 then (some (0, S22)) else (rx_let (fun (x26 : Int32) (x27 : Int32) (x28 : Int32) (S29 : rx_S) => rx_bd (f_X2_add 20 x28 S29) (fun x31 S30 => rx_let (x27 + 1) (fun x33 => f_X4_readSum1_L12 rec N n x26 x33 S30))) (fun J83_2 => if x16 = 43 then (J83_2 x14 x15 (-10) S22) else (J83_2 x14 x15 (-11) S22))))))) (fun J45_1 => if x12 = 43 then (J45_1 x7 x8 x12 S11) else (if x12 = 45 then (J45_1 x7 x8 x12 S11) else (some (1, S11))))))
def f_X4_readSum1 (rec : Int32 → rx_S → Option (Int32 × rx_S)) (N : Nat) (x1 : Int32) (S0 : rx_S) : Option (Int32 × rx_S) := rx_bd (f_X4_readProduct rec N x1 S0) (fun x4 S3 => if x4 = 0 then (some (0, S3)) else (f_X4_readSum1_L12 rec N N x1 0 S3))
set_option maxHeartbeats 4000000 in
set_option maxRecDepth 20000 in
theorem em_X4_readSum1_L12 {d N : Nat} {rec : Int32 → rx_S → Option (Int32 × rx_S)} (hrec : ∀ (x : Int32) (S T : rx_S) (z : Int32), rec x S = some (z, T) → EM gC (d + 6) mX4_readSum [.ref 13, .int x] S (rx_pi z T)) {zr : Int32} {zS : rx_S} : ∀ (n : Nat) (x7 : Int32) (x8 : Int32) (S9 : rx_S), f_X4_readSum1_L12 rec N n x7 x8 S9 = some (zr, zS) → EV gC (d + 9) mX4_readSum 12 [some (.ref 13), some (.int x7), some (.int x8), none] [] S9 (rx_pi zr zS) := by
  intro n
  induction n with
  | zero => intro x7 x8 S9 h; cases h
  | succ n ih =>
    intro x7 x8 S9 h
    rw [f_X4_readSum1_L12] at h
    refine ev_iload_n (i := 2) 13 dX4_readSum_12 rfl rfl rfl ?_
    refine ev_sipush (v := 400) 16 dX4_readSum_13 (by decide) rfl ?_
    refine ev_icmp_gt 93 19 dX4_readSum_16 rfl rfl (fun c10 => ?_) (fun c10 => ?_)
    · replace h := rx_if_t c10 h
      refine ev_iconst (v := 0) 94 dX4_readSum_93 (by decide) rfl ?_
      exact ev_zreturn dX4_readSum_94 rfl (by decide) (rx_ret_i h)
    · replace h := rx_if_f c10 h
      refine ev_aload_n (i := 0) 20 dX4_readSum_19 rfl rfl rfl ?_
      refine ev_get (v := .ref 14) 23 dX4_readSum_20 dk_13 fl_4_12 (by decide) rfl rfl rfl ?_
      refine ev_aload_n (i := 0) 24 dX4_readSum_23 rfl rfl rfl ?_
      refine ev_get (v := .int (S9.1 13 5)) 27 dX4_readSum_24 dk_13 fl_4_44 (by decide) rfl rfl rfl ?_
      obtain ⟨x12, S11, g13, h⟩ := rx_bd_o h
      refine ev_cVi1 30 dX4_readSum_27 (em_X9_kindAt g13) mm_X9_kindAt mv_X9_kindAt lk_4_56 dk_14 (by decide) rfl (Nat.le_of_ble_eq_true rfl) (Nat.le_of_ble_eq_true rfl) rfl ?_
      refine ev_istore_n (ls' := [some (.ref 13), some (.int x7), some (.int x8), some (.int x12)]) 31 dX4_readSum_30 rfl (Nat.le_of_ble_eq_true rfl) rfl rfl ?_
      refine ev_iload_n (i := 3) 32 dX4_readSum_31 rfl rfl rfl ?_
      refine ev_bipush (v := 43) 34 dX4_readSum_32 (by decide) rfl ?_
      obtain ⟨J45_1, eJ45_1, h⟩ := rx_let_o h
      have hJ45_1 : ∀ (x14 : Int32) (x15 : Int32) (x16 : Int32) (S17 : rx_S), J45_1 x14 x15 x16 S17 = some (zr, zS) → EV gC (d + 9) mX4_readSum 45 [some (.ref 13), some (.int x14), some (.int x15), some (.int x16)] [] S17 (rx_pi zr zS) := by
        intro x14 x15 x16 S17 h
        subst eJ45_1
        refine ev_aload_n (i := 0) 46 dX4_readSum_45 rfl rfl rfl ?_
        refine ev_iload_n (i := 3) 47 dX4_readSum_46 rfl rfl rfl ?_
        obtain ⟨x19, S18, g20, h⟩ := rx_bd_o h
        refine ev_cVi1 50 dX4_readSum_47 (em_X4_take g20) mm_X4_take mv_X4_take lk_4_73 dk_13 (by decide) rfl (Nat.le_of_ble_eq_true rfl) (Nat.le_of_ble_eq_true rfl) rfl ?_
        refine ev_if_eq 61 53 dX4_readSum_50 rfl rfl (fun c21 => ?_) (fun c21 => ?_)
        · replace h := rx_if_t c21 h
          refine ev_iconst (v := 0) 62 dX4_readSum_61 (by decide) rfl ?_
          exact ev_zreturn dX4_readSum_62 rfl (by decide) (rx_ret_i h)
        · replace h := rx_if_f c21 h
          refine ev_aload_n (i := 0) 54 dX4_readSum_53 rfl rfl rfl ?_
          refine ev_iload_n (i := 1) 55 dX4_readSum_54 rfl rfl rfl ?_
          obtain ⟨x23, S22, g24, h⟩ := rx_bd_o h
          refine ev_cVi1 58 dX4_readSum_55 (em_X4_readProduct hrec g24) mm_X4_readProduct mv_X4_readProduct lk_4_169 dk_13 (by decide) rfl (Nat.le_of_ble_eq_true rfl) (Nat.le_of_ble_eq_true rfl) rfl ?_
          refine ev_if_ne 63 61 dX4_readSum_58 rfl rfl (fun c25 => ?_) (fun c25 => ?_)
          · replace h := rx_if_f c25 h
            refine ev_aload_n (i := 0) 64 dX4_readSum_63 rfl rfl rfl ?_
            refine ev_get (v := .ref 19) 67 dX4_readSum_64 dk_13 fl_4_21 (by decide) rfl rfl rfl ?_
            refine ev_get (v := .ref 20) 70 dX4_readSum_67 dk_19 fl_4_151 (by decide) rfl rfl rfl ?_
            refine ev_iload_n (i := 3) 71 dX4_readSum_70 rfl rfl rfl ?_
            refine ev_bipush (v := 43) 73 dX4_readSum_71 (by decide) rfl ?_
            obtain ⟨J83_2, eJ83_2, h⟩ := rx_let_o h
            have hJ83_2 : ∀ (x26 : Int32) (x27 : Int32) (x28 : Int32) (S29 : rx_S), J83_2 x26 x27 x28 S29 = some (zr, zS) → EV gC (d + 9) mX4_readSum 83 [some (.ref 13), some (.int x26), some (.int x27), none] [.int x28, .ref 20] S29 (rx_pi zr zS) := by
              intro x26 x27 x28 S29 h
              subst eJ83_2
              obtain ⟨x31, S30, g32, h⟩ := rx_bd_o h
              refine ev_cVi1 86 dX4_readSum_83 (em_X2_add_20 g32) mm_X2_add mv_X2_add lk_4_163 dk_20 (by decide) rfl (Nat.le_of_ble_eq_true rfl) (Nat.le_of_ble_eq_true rfl) rfl ?_
              refine ev_pop 87 dX4_readSum_86 rfl rfl ?_
              obtain ⟨x33, ex33, h⟩ := rx_let_o h
              refine ev_iinc (v := x33) (ls' := [some (.ref 13), some (.int x26), some (.int x33), none]) 90 dX4_readSum_87 rfl (by rw [ex33]; rfl) (Nat.le_of_ble_eq_true rfl) rfl rfl ?_
              refine ev_goto 12 dX4_readSum_90 rfl ?_
              exact (ih _ _ _ h).fewer (rx_le_s (rx_le_s (rx_le_s (rx_le_n rx_le_0))))
            refine ev_icmp_ne 81 76 dX4_readSum_73 rfl rfl (fun c34 => ?_) (fun c34 => ?_)
            · replace h := rx_if_f c34 h
              refine ev_bipush (v := (-11)) 83 dX4_readSum_81 (by decide) rfl ?_
              exact (hJ83_2 _ _ _ _ h).fewer (rx_le_s (rx_le_s (rx_le_s (rx_le_n rx_le_0))))
            · replace h := rx_if_t c34 h
              refine ev_bipush (v := (-10)) 78 dX4_readSum_76 (by decide) rfl ?_
              refine ev_goto 83 dX4_readSum_78 rfl ?_
              exact (hJ83_2 _ _ _ _ h).fewer (rx_le_s (rx_le_s (rx_le_s (rx_le_n rx_le_0))))
          · replace h := rx_if_t c25 h
            refine ev_iconst (v := 0) 62 dX4_readSum_61 (by decide) rfl ?_
            exact ev_zreturn dX4_readSum_62 rfl (by decide) (rx_ret_i h)
      refine ev_icmp_eq 45 37 dX4_readSum_34 rfl rfl (fun c35 => ?_) (fun c35 => ?_)
      · replace h := rx_if_t c35 h
        exact (hJ45_1 _ _ _ _ h).fewer (rx_le_s (rx_le_s (rx_le_s (rx_le_s rx_le_0))))
      · replace h := rx_if_f c35 h
        refine ev_iload_n (i := 3) 38 dX4_readSum_37 rfl rfl rfl ?_
        refine ev_bipush (v := 45) 40 dX4_readSum_38 (by decide) rfl ?_
        refine ev_icmp_eq 45 43 dX4_readSum_40 rfl rfl (fun c36 => ?_) (fun c36 => ?_)
        · replace h := rx_if_t c36 h
          exact (hJ45_1 _ _ _ _ h).fewer (rx_le_s (rx_le_s (rx_le_s (rx_le_s rx_le_0))))
        · replace h := rx_if_f c36 h
          refine ev_iconst (v := 1) 44 dX4_readSum_43 (by decide) rfl ?_
          exact ev_zreturn dX4_readSum_44 rfl (by decide) (rx_ret_i h)

set_option maxHeartbeats 4000000 in
set_option maxRecDepth 20000 in
theorem em_X4_readSum1 {d N : Nat} {rec : Int32 → rx_S → Option (Int32 × rx_S)} (hrec : ∀ (x : Int32) (S T : rx_S) (z : Int32), rec x S = some (z, T) → EM gC (d + 6) mX4_readSum [.ref 13, .int x] S (rx_pi z T)) {x1 : Int32} {S0 : rx_S} {zr : Int32} {zS : rx_S} (h : f_X4_readSum1 rec N x1 S0 = some (zr, zS)) : EM gC (d + 9) mX4_readSum [.ref 13, .int x1] S0 (rx_pi zr zS) := by
  unfold f_X4_readSum1 at h
  show EV gC (d + 9) mX4_readSum 0 [some (.ref 13), some (.int x1), none, none] [] S0 (rx_pi zr zS)
  refine ev_aload_n (i := 0) 1 dX4_readSum_0 rfl rfl rfl ?_
  refine ev_iload_n (i := 1) 2 dX4_readSum_1 rfl rfl rfl ?_
  obtain ⟨x4, S3, g5, h⟩ := rx_bd_o h
  refine ev_cVi1 5 dX4_readSum_2 (em_X4_readProduct hrec g5) mm_X4_readProduct mv_X4_readProduct lk_4_169 dk_13 (by decide) rfl (Nat.le_of_ble_eq_true rfl) (Nat.le_of_ble_eq_true rfl) rfl ?_
  refine ev_if_ne 10 8 dX4_readSum_5 rfl rfl (fun c6 => ?_) (fun c6 => ?_)
  · replace h := rx_if_f c6 h
    refine ev_iconst (v := 0) 11 dX4_readSum_10 (by decide) rfl ?_
    refine ev_istore_n (ls' := [some (.ref 13), some (.int x1), some (.int 0), none]) 12 dX4_readSum_11 rfl (Nat.le_of_ble_eq_true rfl) rfl rfl ?_
    exact (em_X4_readSum1_L12 hrec _ _ _ _ h).fewer (rx_le_s (rx_le_s (rx_le_s (rx_le_n rx_le_0))))
  · replace h := rx_if_t c6 h
    refine ev_iconst (v := 0) 9 dX4_readSum_8 (by decide) rfl ?_
    exact ev_zreturn dX4_readSum_9 rfl (by decide) (rx_ret_i h)

def f_X4_readSum : Nat → Nat → Int32 → rx_S → Option (Int32 × rx_S)
  | 0, _, _, _ => none
  | D + 1, N, x1, S0 => f_X4_readSum1 (f_X4_readSum D N) N x1 S0
set_option maxHeartbeats 4000000 in
set_option maxRecDepth 20000 in
theorem em_X4_readSum : ∀ (D : Nat) {d N : Nat} {x1 : Int32} {S0 : rx_S} {zr : Int32} {zS : rx_S} (h : f_X4_readSum D N x1 S0 = some (zr, zS)), EM gC (d + (3 * D + 6)) mX4_readSum [.ref 13, .int x1] S0 (rx_pi zr zS) := by
  intro D
  induction D with
  | zero => intro d N x1 S0 zr zS h; cases h
  | succ D ih =>
    intro d N x1 S0 zr zS h
    rw [f_X4_readSum] at h
    have e : d + (3 * (D + 1) + 6) = d + 3 * D + 9 := by omega
    rw [e]
    exact em_X4_readSum1 (fun x S T z g => by have g2 := ih (d := d) g; rw [show d + (3 * D + 6) = d + 3 * D + 6 by omega] at g2; exact g2) h
set_option maxHeartbeats 4000000 in
set_option maxRecDepth 20000 in
theorem em_X4_readSum8 {d N : Nat} {x1 : Int32} {S0 : rx_S} {zr : Int32} {zS : rx_S} (h : f_X4_readSum 8 N x1 S0 = some (zr, zS)) : EM gC (d + 30) mX4_readSum [.ref 13, .int x1] S0 (rx_pi zr zS) := em_X4_readSum 8 h
def f_X4_readLaw_L36 (N : Nat) (K63 : rx_S → Option (Int32 × rx_S)) (K179 : rx_S → Option (Int32 × rx_S)) : Nat → Int32 → rx_S → Option (Int32 × rx_S)
  | 0, _, _ => none
  | n + 1, x31, S32 => if (4 : Int32) < x31 then (K179 S32) else (rx_bd (f_X9_kindAt (S32.1 13 5) S32) (fun x37 S36 => if x37 = 140 then (if x31 = 4 then (K63 S36) else (rx_bd (f_X4_take 140 S36) (fun x42 S41 => if x42 = 0 then (some (0, S41)) else (rx_bd (f_X4_readSum 8 N 0 S41) (fun x46 S45 => if x46 = 0 then (some (0, S45)) else (rx_bd (f_X4_take 60 S45) (fun x50 S49 => if x50 = 0 then (some (0, S49)) else (rx_bd (f_X4_readSum 8 N 0 S49) (fun x54 S53 => if x54 = 0 then (some (0, S53)) else (rx_bd (f_X4_take 141 S53) (fun x58 S57 => if x58 = 0 then (some (0, S57)) else (rx_bd (f_X2_add 20 (-100) S57) (fun x62 S61 => rx_bd (f_X4_readSum 8 N 0 S61) (fun x65 S64 => if x65 = 0 then (some (0, S64)) else (rx_bd (f_X4_take 142 S64) (fun x69 S68 => if x69 = 0 then (some (0, S68)) else (rx_bd (f_X2_add 20 (-14) S68) (fun x73 S72 => rx_bd (f_X2_jumpHere 20 x62 S72) (fun x76 S75 => rx_let (x31 + 1) (fun x78 => f_X4_readLaw_L36 N K63 K179 n x78 S75)))))))))))))))))))) else (K179 S36)))
def f_X4_readLaw (N : Nat) (x1 : Int32) (S0 : rx_S) : Option (Int32 × rx_S) := rx_bd (f_X4_take x1 S0) (fun x4 S3 => if x4 = 0 then (some (0, S3)) else (rx_bd (f_X4_take 61 S3) (fun x8 S7 => if x8 = 0 then (some (0, S7)) else (rx_bd (f_X2_begin 20 (x1 - 131) S7) (fun x12 S11 => rx_let (fun (S14 : rx_S) => rx_bd (f_X4_readSum 8 N 0 S14) (fun x16 S15 => if x16 = 0 then (some (0, S15)) else (rx_bd (f_X2_add 20 (-14) S15) (fun x20 S19 => rx_bd (f_X4_take 59 S19) (fun x23 S22 => rx_bl x23 (some (x23, S22))))))) (fun J179_1 => rx_let (fun (S26 : rx_S) => rx_bd (f_X4_refuse 2 S26) (fun x28 S27 => rx_bl x28 (some (x28, S27)))) (fun J63_2 => f_X4_readLaw_L36 N J63_2 J179_1 N 0 S11)))))))
set_option maxHeartbeats 4000000 in
set_option maxRecDepth 20000 in
theorem em_X4_readLaw_L36 {d N : Nat} {K63 : rx_S → Option (Int32 × rx_S)} {K179 : rx_S → Option (Int32 × rx_S)} {zr : Int32} {zS : rx_S} (hK63 : ∀ (S33 : rx_S), K63 S33 = some (zr, zS) → EV gC (d + 31) mX4_readLaw 63 [some (.ref 13), none, none, none] [] S33 (rx_pi zr zS)) (hK179 : ∀ (S34 : rx_S), K179 S34 = some (zr, zS) → EV gC (d + 31) mX4_readLaw 179 [some (.ref 13), none, none, none] [] S34 (rx_pi zr zS)) : ∀ (n : Nat) (x31 : Int32) (S32 : rx_S), f_X4_readLaw_L36 N K63 K179 n x31 S32 = some (zr, zS) → EV gC (d + 31) mX4_readLaw 36 [some (.ref 13), none, some (.int x31), none] [] S32 (rx_pi zr zS) := by
  intro n
  induction n with
  | zero => intro x31 S32 h; cases h
  | succ n ih =>
    intro x31 S32 h
    rw [f_X4_readLaw_L36] at h
    refine ev_iload_n (i := 2) 37 dX4_readLaw_36 rfl rfl rfl ?_
    refine ev_iconst (v := 4) 38 dX4_readLaw_37 (by decide) rfl ?_
    refine ev_icmp_gt 179 41 dX4_readLaw_38 rfl rfl (fun c35 => ?_) (fun c35 => ?_)
    · replace h := rx_if_t c35 h
      exact (hK179 _ h).fewer (rx_le_s (rx_le_n (rx_le_n (rx_le_n rx_le_0))))
    · replace h := rx_if_f c35 h
      refine ev_aload_n (i := 0) 42 dX4_readLaw_41 rfl rfl rfl ?_
      refine ev_get (v := .ref 14) 45 dX4_readLaw_42 dk_13 fl_4_12 (by decide) rfl rfl rfl ?_
      refine ev_aload_n (i := 0) 46 dX4_readLaw_45 rfl rfl rfl ?_
      refine ev_get (v := .int (S32.1 13 5)) 49 dX4_readLaw_46 dk_13 fl_4_44 (by decide) rfl rfl rfl ?_
      obtain ⟨x37, S36, g38, h⟩ := rx_bd_o h
      refine ev_cVi1 52 dX4_readLaw_49 (em_X9_kindAt g38) mm_X9_kindAt mv_X9_kindAt lk_4_56 dk_14 (by decide) rfl (Nat.le_of_ble_eq_true rfl) (Nat.le_of_ble_eq_true rfl) rfl ?_
      refine ev_sipush (v := 140) 55 dX4_readLaw_52 (by decide) rfl ?_
      refine ev_icmp_ne 179 58 dX4_readLaw_55 rfl rfl (fun c39 => ?_) (fun c39 => ?_)
      · replace h := rx_if_f c39 h
        exact (hK179 _ h).fewer (rx_le_s (rx_le_n (rx_le_n (rx_le_n rx_le_0))))
      · replace h := rx_if_t c39 h
        refine ev_iload_n (i := 2) 59 dX4_readLaw_58 rfl rfl rfl ?_
        refine ev_iconst (v := 4) 60 dX4_readLaw_59 (by decide) rfl ?_
        refine ev_icmp_ne 69 63 dX4_readLaw_60 rfl rfl (fun c40 => ?_) (fun c40 => ?_)
        · replace h := rx_if_f c40 h
          refine ev_aload_n (i := 0) 70 dX4_readLaw_69 rfl rfl rfl ?_
          refine ev_sipush (v := 140) 73 dX4_readLaw_70 (by decide) rfl ?_
          obtain ⟨x42, S41, g43, h⟩ := rx_bd_o h
          refine ev_cVi1 76 dX4_readLaw_73 (em_X4_take g43) mm_X4_take mv_X4_take lk_4_73 dk_13 (by decide) rfl (Nat.le_of_ble_eq_true rfl) (Nat.le_of_ble_eq_true rfl) rfl ?_
          refine ev_if_eq 114 79 dX4_readLaw_76 rfl rfl (fun c44 => ?_) (fun c44 => ?_)
          · replace h := rx_if_t c44 h
            refine ev_iconst (v := 0) 115 dX4_readLaw_114 (by decide) rfl ?_
            exact ev_zreturn dX4_readLaw_115 rfl (by decide) (rx_ret_i h)
          · replace h := rx_if_f c44 h
            refine ev_aload_n (i := 0) 80 dX4_readLaw_79 rfl rfl rfl ?_
            refine ev_iconst (v := 0) 81 dX4_readLaw_80 (by decide) rfl ?_
            obtain ⟨x46, S45, g47, h⟩ := rx_bd_o h
            refine ev_cVi1 84 dX4_readLaw_81 (em_X4_readSum8 g47) mm_X4_readSum mv_X4_readSum lk_4_160 dk_13 (by decide) rfl (Nat.le_of_ble_eq_true rfl) (Nat.le_of_ble_eq_true rfl) rfl ?_
            refine ev_if_eq 114 87 dX4_readLaw_84 rfl rfl (fun c48 => ?_) (fun c48 => ?_)
            · replace h := rx_if_t c48 h
              refine ev_iconst (v := 0) 115 dX4_readLaw_114 (by decide) rfl ?_
              exact ev_zreturn dX4_readLaw_115 rfl (by decide) (rx_ret_i h)
            · replace h := rx_if_f c48 h
              refine ev_aload_n (i := 0) 88 dX4_readLaw_87 rfl rfl rfl ?_
              refine ev_bipush (v := 60) 90 dX4_readLaw_88 (by decide) rfl ?_
              obtain ⟨x50, S49, g51, h⟩ := rx_bd_o h
              refine ev_cVi1 93 dX4_readLaw_90 (em_X4_take g51) mm_X4_take mv_X4_take lk_4_73 dk_13 (by decide) rfl (Nat.le_of_ble_eq_true rfl) (Nat.le_of_ble_eq_true rfl) rfl ?_
              refine ev_if_eq 114 96 dX4_readLaw_93 rfl rfl (fun c52 => ?_) (fun c52 => ?_)
              · replace h := rx_if_t c52 h
                refine ev_iconst (v := 0) 115 dX4_readLaw_114 (by decide) rfl ?_
                exact ev_zreturn dX4_readLaw_115 rfl (by decide) (rx_ret_i h)
              · replace h := rx_if_f c52 h
                refine ev_aload_n (i := 0) 97 dX4_readLaw_96 rfl rfl rfl ?_
                refine ev_iconst (v := 0) 98 dX4_readLaw_97 (by decide) rfl ?_
                obtain ⟨x54, S53, g55, h⟩ := rx_bd_o h
                refine ev_cVi1 101 dX4_readLaw_98 (em_X4_readSum8 g55) mm_X4_readSum mv_X4_readSum lk_4_160 dk_13 (by decide) rfl (Nat.le_of_ble_eq_true rfl) (Nat.le_of_ble_eq_true rfl) rfl ?_
                refine ev_if_eq 114 104 dX4_readLaw_101 rfl rfl (fun c56 => ?_) (fun c56 => ?_)
                · replace h := rx_if_t c56 h
                  refine ev_iconst (v := 0) 115 dX4_readLaw_114 (by decide) rfl ?_
                  exact ev_zreturn dX4_readLaw_115 rfl (by decide) (rx_ret_i h)
                · replace h := rx_if_f c56 h
                  refine ev_aload_n (i := 0) 105 dX4_readLaw_104 rfl rfl rfl ?_
                  refine ev_sipush (v := 141) 108 dX4_readLaw_105 (by decide) rfl ?_
                  obtain ⟨x58, S57, g59, h⟩ := rx_bd_o h
                  refine ev_cVi1 111 dX4_readLaw_108 (em_X4_take g59) mm_X4_take mv_X4_take lk_4_73 dk_13 (by decide) rfl (Nat.le_of_ble_eq_true rfl) (Nat.le_of_ble_eq_true rfl) rfl ?_
                  refine ev_if_ne 116 114 dX4_readLaw_111 rfl rfl (fun c60 => ?_) (fun c60 => ?_)
                  · replace h := rx_if_f c60 h
                    refine ev_aload_n (i := 0) 117 dX4_readLaw_116 rfl rfl rfl ?_
                    refine ev_get (v := .ref 19) 120 dX4_readLaw_117 dk_13 fl_4_21 (by decide) rfl rfl rfl ?_
                    refine ev_get (v := .ref 20) 123 dX4_readLaw_120 dk_19 fl_4_151 (by decide) rfl rfl rfl ?_
                    refine ev_bipush (v := (-100)) 125 dX4_readLaw_123 (by decide) rfl ?_
                    obtain ⟨x62, S61, g63, h⟩ := rx_bd_o h
                    refine ev_cVi1 128 dX4_readLaw_125 (em_X2_add_20 g63) mm_X2_add mv_X2_add lk_4_163 dk_20 (by decide) rfl (Nat.le_of_ble_eq_true rfl) (Nat.le_of_ble_eq_true rfl) rfl ?_
                    refine ev_istore_n (ls' := [some (.ref 13), none, some (.int x31), some (.int x62)]) 129 dX4_readLaw_128 rfl (Nat.le_of_ble_eq_true rfl) rfl rfl ?_
                    refine ev_aload_n (i := 0) 130 dX4_readLaw_129 rfl rfl rfl ?_
                    refine ev_iconst (v := 0) 131 dX4_readLaw_130 (by decide) rfl ?_
                    obtain ⟨x65, S64, g66, h⟩ := rx_bd_o h
                    refine ev_cVi1 134 dX4_readLaw_131 (em_X4_readSum8 g66) mm_X4_readSum mv_X4_readSum lk_4_160 dk_13 (by decide) rfl (Nat.le_of_ble_eq_true rfl) (Nat.le_of_ble_eq_true rfl) rfl ?_
                    refine ev_if_eq 147 137 dX4_readLaw_134 rfl rfl (fun c67 => ?_) (fun c67 => ?_)
                    · replace h := rx_if_t c67 h
                      refine ev_iconst (v := 0) 148 dX4_readLaw_147 (by decide) rfl ?_
                      exact ev_zreturn dX4_readLaw_148 rfl (by decide) (rx_ret_i h)
                    · replace h := rx_if_f c67 h
                      refine ev_aload_n (i := 0) 138 dX4_readLaw_137 rfl rfl rfl ?_
                      refine ev_sipush (v := 142) 141 dX4_readLaw_138 (by decide) rfl ?_
                      obtain ⟨x69, S68, g70, h⟩ := rx_bd_o h
                      refine ev_cVi1 144 dX4_readLaw_141 (em_X4_take g70) mm_X4_take mv_X4_take lk_4_73 dk_13 (by decide) rfl (Nat.le_of_ble_eq_true rfl) (Nat.le_of_ble_eq_true rfl) rfl ?_
                      refine ev_if_ne 149 147 dX4_readLaw_144 rfl rfl (fun c71 => ?_) (fun c71 => ?_)
                      · replace h := rx_if_f c71 h
                        refine ev_aload_n (i := 0) 150 dX4_readLaw_149 rfl rfl rfl ?_
                        refine ev_get (v := .ref 19) 153 dX4_readLaw_150 dk_13 fl_4_21 (by decide) rfl rfl rfl ?_
                        refine ev_get (v := .ref 20) 156 dX4_readLaw_153 dk_19 fl_4_151 (by decide) rfl rfl rfl ?_
                        refine ev_bipush (v := (-14)) 158 dX4_readLaw_156 (by decide) rfl ?_
                        obtain ⟨x73, S72, g74, h⟩ := rx_bd_o h
                        refine ev_cVi1 161 dX4_readLaw_158 (em_X2_add_20 g74) mm_X2_add mv_X2_add lk_4_163 dk_20 (by decide) rfl (Nat.le_of_ble_eq_true rfl) (Nat.le_of_ble_eq_true rfl) rfl ?_
                        refine ev_pop 162 dX4_readLaw_161 rfl rfl ?_
                        refine ev_aload_n (i := 0) 163 dX4_readLaw_162 rfl rfl rfl ?_
                        refine ev_get (v := .ref 19) 166 dX4_readLaw_163 dk_13 fl_4_21 (by decide) rfl rfl rfl ?_
                        refine ev_get (v := .ref 20) 169 dX4_readLaw_166 dk_19 fl_4_151 (by decide) rfl rfl rfl ?_
                        refine ev_iload_n (i := 3) 170 dX4_readLaw_169 rfl rfl rfl ?_
                        obtain ⟨x76, S75, g77, h⟩ := rx_bd_o h
                        refine ev_cVv1 173 dX4_readLaw_170 (em_X2_jumpHere_20 g77) mm_X2_jumpHere mv_X2_jumpHere lk_4_166 dk_20 (by decide) rfl (Nat.le_of_ble_eq_true rfl) (Nat.le_of_ble_eq_true rfl) rfl ?_
                        obtain ⟨x78, ex78, h⟩ := rx_let_o h
                        refine ev_iinc (v := x78) (ls' := [some (.ref 13), none, some (.int x78), some (.int x62)]) 176 dX4_readLaw_173 rfl (by rw [ex78]; rfl) (Nat.le_of_ble_eq_true rfl) rfl rfl ?_
                        refine ev_goto 36 dX4_readLaw_176 rfl ?_
                        exact (ih _ _ h).fewer (rx_le_s (rx_le_n (rx_le_s (rx_le_n rx_le_0))))
                      · replace h := rx_if_t c71 h
                        refine ev_iconst (v := 0) 148 dX4_readLaw_147 (by decide) rfl ?_
                        exact ev_zreturn dX4_readLaw_148 rfl (by decide) (rx_ret_i h)
                  · replace h := rx_if_t c60 h
                    refine ev_iconst (v := 0) 115 dX4_readLaw_114 (by decide) rfl ?_
                    exact ev_zreturn dX4_readLaw_115 rfl (by decide) (rx_ret_i h)
        · replace h := rx_if_t c40 h
          exact (hK63 _ h).fewer (rx_le_s (rx_le_n (rx_le_n (rx_le_n rx_le_0))))

set_option maxHeartbeats 4000000 in
set_option maxRecDepth 20000 in
theorem em_X4_readLaw {d N : Nat} {x1 : Int32} {S0 : rx_S} {zr : Int32} {zS : rx_S} (h : f_X4_readLaw N x1 S0 = some (zr, zS)) : EM gC (d + 31) mX4_readLaw [.ref 13, .int x1] S0 (rx_pi zr zS) := by
  unfold f_X4_readLaw at h
  show EV gC (d + 31) mX4_readLaw 0 [some (.ref 13), some (.int x1), none, none] [] S0 (rx_pi zr zS)
  refine ev_aload_n (i := 0) 1 dX4_readLaw_0 rfl rfl rfl ?_
  refine ev_iload_n (i := 1) 2 dX4_readLaw_1 rfl rfl rfl ?_
  obtain ⟨x4, S3, g5, h⟩ := rx_bd_o h
  refine ev_cVi1 5 dX4_readLaw_2 (em_X4_take g5) mm_X4_take mv_X4_take lk_4_73 dk_13 (by decide) rfl (Nat.le_of_ble_eq_true rfl) (Nat.le_of_ble_eq_true rfl) rfl ?_
  refine ev_if_eq 17 8 dX4_readLaw_5 rfl rfl (fun c6 => ?_) (fun c6 => ?_)
  · replace h := rx_if_t c6 h
    refine ev_iconst (v := 0) 18 dX4_readLaw_17 (by decide) rfl ?_
    exact ev_zreturn dX4_readLaw_18 rfl (by decide) (rx_ret_i h)
  · replace h := rx_if_f c6 h
    refine ev_aload_n (i := 0) 9 dX4_readLaw_8 rfl rfl rfl ?_
    refine ev_bipush (v := 61) 11 dX4_readLaw_9 (by decide) rfl ?_
    obtain ⟨x8, S7, g9, h⟩ := rx_bd_o h
    refine ev_cVi1 14 dX4_readLaw_11 (em_X4_take g9) mm_X4_take mv_X4_take lk_4_73 dk_13 (by decide) rfl (Nat.le_of_ble_eq_true rfl) (Nat.le_of_ble_eq_true rfl) rfl ?_
    refine ev_if_ne 19 17 dX4_readLaw_14 rfl rfl (fun c10 => ?_) (fun c10 => ?_)
    · replace h := rx_if_f c10 h
      refine ev_aload_n (i := 0) 20 dX4_readLaw_19 rfl rfl rfl ?_
      refine ev_get (v := .ref 19) 23 dX4_readLaw_20 dk_13 fl_4_21 (by decide) rfl rfl rfl ?_
      refine ev_get (v := .ref 20) 26 dX4_readLaw_23 dk_19 fl_4_151 (by decide) rfl rfl rfl ?_
      refine ev_iload_n (i := 1) 27 dX4_readLaw_26 rfl rfl rfl ?_
      refine ev_sipush (v := 131) 30 dX4_readLaw_27 (by decide) rfl ?_
      refine ev_isub 31 dX4_readLaw_30 rfl ?_
      obtain ⟨x12, S11, g13, h⟩ := rx_bd_o h
      refine ev_cVv1 34 dX4_readLaw_31 (em_X2_begin_20 g13) mm_X2_begin mv_X2_begin lk_4_155 dk_20 (by decide) rfl (Nat.le_of_ble_eq_true rfl) (Nat.le_of_ble_eq_true rfl) rfl ?_
      refine ev_iconst (v := 0) 35 dX4_readLaw_34 (by decide) rfl ?_
      refine ev_istore_n (ls' := [some (.ref 13), some (.int x1), some (.int 0), none]) 36 dX4_readLaw_35 rfl (Nat.le_of_ble_eq_true rfl) rfl rfl ?_
      obtain ⟨J179_1, eJ179_1, h⟩ := rx_let_o h
      have hJ179_1 : ∀ (S14 : rx_S), J179_1 S14 = some (zr, zS) → EV gC (d + 31) mX4_readLaw 179 [some (.ref 13), none, none, none] [] S14 (rx_pi zr zS) := by
        intro S14 h
        subst eJ179_1
        refine ev_aload_n (i := 0) 180 dX4_readLaw_179 rfl rfl rfl ?_
        refine ev_iconst (v := 0) 181 dX4_readLaw_180 (by decide) rfl ?_
        obtain ⟨x16, S15, g17, h⟩ := rx_bd_o h
        refine ev_cVi1 184 dX4_readLaw_181 (em_X4_readSum8 g17) mm_X4_readSum mv_X4_readSum lk_4_160 dk_13 (by decide) rfl (Nat.le_of_ble_eq_true rfl) (Nat.le_of_ble_eq_true rfl) rfl ?_
        refine ev_if_ne 189 187 dX4_readLaw_184 rfl rfl (fun c18 => ?_) (fun c18 => ?_)
        · replace h := rx_if_f c18 h
          refine ev_aload_n (i := 0) 190 dX4_readLaw_189 rfl rfl rfl ?_
          refine ev_get (v := .ref 19) 193 dX4_readLaw_190 dk_13 fl_4_21 (by decide) rfl rfl rfl ?_
          refine ev_get (v := .ref 20) 196 dX4_readLaw_193 dk_19 fl_4_151 (by decide) rfl rfl rfl ?_
          refine ev_bipush (v := (-14)) 198 dX4_readLaw_196 (by decide) rfl ?_
          obtain ⟨x20, S19, g21, h⟩ := rx_bd_o h
          refine ev_cVi1 201 dX4_readLaw_198 (em_X2_add_20 g21) mm_X2_add mv_X2_add lk_4_163 dk_20 (by decide) rfl (Nat.le_of_ble_eq_true rfl) (Nat.le_of_ble_eq_true rfl) rfl ?_
          refine ev_pop 202 dX4_readLaw_201 rfl rfl ?_
          refine ev_aload_n (i := 0) 203 dX4_readLaw_202 rfl rfl rfl ?_
          refine ev_bipush (v := 59) 205 dX4_readLaw_203 (by decide) rfl ?_
          obtain ⟨x23, S22, g24, h⟩ := rx_bd_o h
          refine ev_cVi1 208 dX4_readLaw_205 (em_X4_take g24) mm_X4_take mv_X4_take lk_4_73 dk_13 (by decide) rfl (Nat.le_of_ble_eq_true rfl) (Nat.le_of_ble_eq_true rfl) rfl ?_
          obtain ⟨g25, h⟩ := rx_bl_o h
          exact ev_zreturn dX4_readLaw_208 rfl (rx_nb g25) (rx_ret_i h)
        · replace h := rx_if_t c18 h
          refine ev_iconst (v := 0) 188 dX4_readLaw_187 (by decide) rfl ?_
          exact ev_zreturn dX4_readLaw_188 rfl (by decide) (rx_ret_i h)
      obtain ⟨J63_2, eJ63_2, h⟩ := rx_let_o h
      have hJ63_2 : ∀ (S26 : rx_S), J63_2 S26 = some (zr, zS) → EV gC (d + 31) mX4_readLaw 63 [some (.ref 13), none, none, none] [] S26 (rx_pi zr zS) := by
        intro S26 h
        subst eJ63_2
        refine ev_aload_n (i := 0) 64 dX4_readLaw_63 rfl rfl rfl ?_
        refine ev_iconst (v := 2) 65 dX4_readLaw_64 (by decide) rfl ?_
        obtain ⟨x28, S27, g29, h⟩ := rx_bd_o h
        refine ev_cVi1 68 dX4_readLaw_65 (em_X4_refuse g29) mm_X4_refuse mv_X4_refuse lk_4_104 dk_13 (by decide) rfl (Nat.le_of_ble_eq_true rfl) (Nat.le_of_ble_eq_true rfl) rfl ?_
        obtain ⟨g30, h⟩ := rx_bl_o h
        exact ev_zreturn dX4_readLaw_68 rfl (rx_nb g30) (rx_ret_i h)
      exact (em_X4_readLaw_L36 hJ63_2 hJ179_1 _ _ _ h).fewer (rx_le_s (rx_le_n (rx_le_s (rx_le_n rx_le_0))))
    · replace h := rx_if_t c10 h
      refine ev_iconst (v := 0) 18 dX4_readLaw_17 (by decide) rfl ?_
      exact ev_zreturn dX4_readLaw_18 rfl (by decide) (rx_ret_i h)

def f_X9_placeOf (x1 : Int32) (S0 : rx_S) : Option (Int32 × rx_S) := if x1 < 0 then (some ((-1), S0)) else (if (S0.1 14 4) ≤ x1 then (some ((-1), S0)) else (rx_gd x1 401 (some ((S0.1 17 (Int32.toNatClampNeg x1)), S0))))
set_option maxHeartbeats 4000000 in
set_option maxRecDepth 20000 in
theorem em_X9_placeOf {d : Nat} {x1 : Int32} {S0 : rx_S} {zr : Int32} {zS : rx_S} (h : f_X9_placeOf x1 S0 = some (zr, zS)) : EM gC d mX9_placeOf [.ref 14, .int x1] S0 (rx_pi zr zS) := by
  unfold f_X9_placeOf at h
  show EV gC d mX9_placeOf 0 [some (.ref 14), some (.int x1)] [] S0 (rx_pi zr zS)
  refine ev_iload_n (i := 1) 1 dX9_placeOf_0 rfl rfl rfl ?_
  refine ev_if_lt 21 4 dX9_placeOf_1 rfl rfl (fun c3 => ?_) (fun c3 => ?_)
  · replace h := rx_if_t c3 h
    refine ev_iconst (v := (-1)) 22 dX9_placeOf_21 (by decide) rfl ?_
    exact ev_ireturn dX9_placeOf_22 rfl (rx_ret_i h)
  · replace h := rx_if_f c3 h
    refine ev_iload_n (i := 1) 5 dX9_placeOf_4 rfl rfl rfl ?_
    refine ev_aload_n (i := 0) 6 dX9_placeOf_5 rfl rfl rfl ?_
    refine ev_get (v := .int (S0.1 14 4)) 9 dX9_placeOf_6 dk_14 fl_9_49 (by decide) rfl rfl rfl ?_
    refine ev_icmp_ge 21 12 dX9_placeOf_9 rfl rfl (fun c4 => ?_) (fun c4 => ?_)
    · replace h := rx_if_t c4 h
      refine ev_iconst (v := (-1)) 22 dX9_placeOf_21 (by decide) rfl ?_
      exact ev_ireturn dX9_placeOf_22 rfl (rx_ret_i h)
    · replace h := rx_if_f c4 h
      refine ev_aload_n (i := 0) 13 dX9_placeOf_12 rfl rfl rfl ?_
      refine ev_get (v := .ref 17) 16 dX9_placeOf_13 dk_14 fl_9_19 (by decide) rfl rfl rfl ?_
      refine ev_iload_n (i := 1) 17 dX9_placeOf_16 rfl rfl rfl ?_
      obtain ⟨g5, h⟩ := rx_gd_o h
      refine ex_iald _ 18 dX9_placeOf_17 dk_17 g5 rfl rfl ?_
      refine ev_goto 22 dX9_placeOf_18 rfl ?_
      exact ev_ireturn dX9_placeOf_22 rfl (rx_ret_i h)

def f_X4_blame (x1 : Int32) (S0 : rx_S) : Option (Unit × rx_S) := if (S0.1 13 8) = 0 then (rx_let (rx_ui S0 13 8 x1) (fun S4 => rx_bd (f_X9_placeOf ((S4.1 13 5) - 1) S4) (fun x6 S5 => rx_let (rx_ui S5 13 9 x6) (fun S8 => some ((), S8))))) else (some ((), S0))
set_option maxHeartbeats 4000000 in
set_option maxRecDepth 20000 in
theorem em_X4_blame {d : Nat} {x1 : Int32} {S0 : rx_S} {zr : Unit} {zS : rx_S} (h : f_X4_blame x1 S0 = some (zr, zS)) : EM gC (d + 1) mX4_blame [.ref 13, .int x1] S0 (rx_pv zS) := by
  unfold f_X4_blame at h
  show EV gC (d + 1) mX4_blame 0 [some (.ref 13), some (.int x1)] [] S0 (rx_pv zS)
  refine ev_aload_n (i := 0) 1 dX4_blame_0 rfl rfl rfl ?_
  refine ev_get (v := .int (S0.1 13 8)) 4 dX4_blame_1 dk_13 fl_4_50 (by decide) rfl rfl rfl ?_
  refine ev_if_ne 29 7 dX4_blame_4 rfl rfl (fun c3 => ?_) (fun c3 => ?_)
  · replace h := rx_if_f c3 h
    exact ev_return dX4_blame_29 rfl (rx_ret_v h)
  · replace h := rx_if_t c3 h
    refine ev_aload_n (i := 0) 8 dX4_blame_7 rfl rfl rfl ?_
    refine ev_iload_n (i := 1) 9 dX4_blame_8 rfl rfl rfl ?_
    obtain ⟨S4, eS4, h⟩ := rx_let_o h
    refine ex_put 12 dX4_blame_9 dk_13 fl_4_50 pp_4_8 (by decide) rfl rfl rfl rfl eS4 ?_
    refine ev_aload_n (i := 0) 13 dX4_blame_12 rfl rfl rfl ?_
    refine ev_aload_n (i := 0) 14 dX4_blame_13 rfl rfl rfl ?_
    refine ev_get (v := .ref 14) 17 dX4_blame_14 dk_13 fl_4_12 (by decide) rfl rfl rfl ?_
    refine ev_aload_n (i := 0) 18 dX4_blame_17 rfl rfl rfl ?_
    refine ev_get (v := .int (S4.1 13 5)) 21 dX4_blame_18 dk_13 fl_4_44 (by decide) rfl rfl rfl ?_
    refine ev_iconst (v := 1) 22 dX4_blame_21 (by decide) rfl ?_
    refine ev_isub 23 dX4_blame_22 rfl ?_
    obtain ⟨x6, S5, g7, h⟩ := rx_bd_o h
    refine ev_cVi1 26 dX4_blame_23 (em_X9_placeOf g7) mm_X9_placeOf mv_X9_placeOf lk_4_67 dk_14 (by decide) rfl (Nat.le_of_ble_eq_true rfl) (Nat.le_of_ble_eq_true rfl) rfl ?_
    obtain ⟨S8, eS8, h⟩ := rx_let_o h
    refine ex_put 29 dX4_blame_26 dk_13 fl_4_53 pp_4_9 (by decide) rfl rfl rfl rfl eS8 ?_
    exact ev_return dX4_blame_29 rfl (rx_ret_v h)

def f_X4_takeNumber (x1 : Int32) (S0 : rx_S) : Option (Int32 × rx_S) := rx_bd (f_X4_take 3 S0) (fun x4 S3 => if x4 = 0 then (some (0, S3)) else (rx_bd (f_X4_taken S3) (fun x8 S7 => if x8 ≤ x1 then (some (1, S7)) else (rx_bd (f_X4_blame 5 S7) (fun x12 S11 => some (1, S11))))))
set_option maxHeartbeats 4000000 in
set_option maxRecDepth 20000 in
theorem em_X4_takeNumber {d : Nat} {x1 : Int32} {S0 : rx_S} {zr : Int32} {zS : rx_S} (h : f_X4_takeNumber x1 S0 = some (zr, zS)) : EM gC (d + 2) mX4_takeNumber [.ref 13, .int x1] S0 (rx_pi zr zS) := by
  unfold f_X4_takeNumber at h
  show EV gC (d + 2) mX4_takeNumber 0 [some (.ref 13), some (.int x1)] [] S0 (rx_pi zr zS)
  refine ev_aload_n (i := 0) 1 dX4_takeNumber_0 rfl rfl rfl ?_
  refine ev_iconst (v := 3) 2 dX4_takeNumber_1 (by decide) rfl ?_
  obtain ⟨x4, S3, g5, h⟩ := rx_bd_o h
  refine ev_cVi1 5 dX4_takeNumber_2 (em_X4_take g5) mm_X4_take mv_X4_take lk_4_73 dk_13 (by decide) rfl (Nat.le_of_ble_eq_true rfl) (Nat.le_of_ble_eq_true rfl) rfl ?_
  refine ev_if_ne 10 8 dX4_takeNumber_5 rfl rfl (fun c6 => ?_) (fun c6 => ?_)
  · replace h := rx_if_f c6 h
    refine ev_aload_n (i := 0) 11 dX4_takeNumber_10 rfl rfl rfl ?_
    obtain ⟨x8, S7, g9, h⟩ := rx_bd_o h
    refine ev_cVi0 14 dX4_takeNumber_11 (em_X4_taken g9) mm_X4_taken mv_X4_taken lk_4_76 dk_13 (by decide) rfl (Nat.le_of_ble_eq_true rfl) (Nat.le_of_ble_eq_true rfl) rfl ?_
    refine ev_iload_n (i := 1) 15 dX4_takeNumber_14 rfl rfl rfl ?_
    refine ev_icmp_le 23 18 dX4_takeNumber_15 rfl rfl (fun c10 => ?_) (fun c10 => ?_)
    · replace h := rx_if_t c10 h
      refine ev_iconst (v := 1) 24 dX4_takeNumber_23 (by decide) rfl ?_
      exact ev_zreturn dX4_takeNumber_24 rfl (by decide) (rx_ret_i h)
    · replace h := rx_if_f c10 h
      refine ev_aload_n (i := 0) 19 dX4_takeNumber_18 rfl rfl rfl ?_
      refine ev_iconst (v := 5) 20 dX4_takeNumber_19 (by decide) rfl ?_
      obtain ⟨x12, S11, g13, h⟩ := rx_bd_o h
      refine ev_cVv1 23 dX4_takeNumber_20 (em_X4_blame g13) mm_X4_blame mv_X4_blame lk_4_80 dk_13 (by decide) rfl (Nat.le_of_ble_eq_true rfl) (Nat.le_of_ble_eq_true rfl) rfl ?_
      refine ev_iconst (v := 1) 24 dX4_takeNumber_23 (by decide) rfl ?_
      exact ev_zreturn dX4_takeNumber_24 rfl (by decide) (rx_ret_i h)
  · replace h := rx_if_t c6 h
    refine ev_iconst (v := 0) 9 dX4_takeNumber_8 (by decide) rfl ?_
    exact ev_zreturn dX4_takeNumber_9 rfl (by decide) (rx_ret_i h)

def f_X4_readSeed (S0 : rx_S) : Option (Int32 × rx_S) := rx_bd (f_X4_take 139 S0) (fun x3 S2 => if x3 = 0 then (some (0, S2)) else (rx_bd (f_X4_takeNumber 9999 S2) (fun x7 S6 => if x7 = 0 then (some (0, S6)) else (rx_bd (f_X4_taken S6) (fun x11 S10 => rx_let (rx_ui S10 19 10 x11) (fun S13 => rx_bd (f_X4_take 59 S13) (fun x15 S14 => rx_bl x15 (some (x15, S14)))))))))
set_option maxHeartbeats 4000000 in
set_option maxRecDepth 20000 in
theorem em_X4_readSeed {d : Nat} {S0 : rx_S} {zr : Int32} {zS : rx_S} (h : f_X4_readSeed S0 = some (zr, zS)) : EM gC (d + 3) mX4_readSeed [.ref 13] S0 (rx_pi zr zS) := by
  unfold f_X4_readSeed at h
  show EV gC (d + 3) mX4_readSeed 0 [some (.ref 13)] [] S0 (rx_pi zr zS)
  refine ev_aload_n (i := 0) 1 dX4_readSeed_0 rfl rfl rfl ?_
  refine ev_sipush (v := 139) 4 dX4_readSeed_1 (by decide) rfl ?_
  obtain ⟨x3, S2, g4, h⟩ := rx_bd_o h
  refine ev_cVi1 7 dX4_readSeed_4 (em_X4_take g4) mm_X4_take mv_X4_take lk_4_73 dk_13 (by decide) rfl (Nat.le_of_ble_eq_true rfl) (Nat.le_of_ble_eq_true rfl) rfl ?_
  refine ev_if_eq 20 10 dX4_readSeed_7 rfl rfl (fun c5 => ?_) (fun c5 => ?_)
  · replace h := rx_if_t c5 h
    refine ev_iconst (v := 0) 21 dX4_readSeed_20 (by decide) rfl ?_
    exact ev_zreturn dX4_readSeed_21 rfl (by decide) (rx_ret_i h)
  · replace h := rx_if_f c5 h
    refine ev_aload_n (i := 0) 11 dX4_readSeed_10 rfl rfl rfl ?_
    refine ev_sipush (v := 9999) 14 dX4_readSeed_11 (by decide) rfl ?_
    obtain ⟨x7, S6, g8, h⟩ := rx_bd_o h
    refine ev_cVi1 17 dX4_readSeed_14 (em_X4_takeNumber g8) mm_X4_takeNumber mv_X4_takeNumber lk_4_113 dk_13 (by decide) rfl (Nat.le_of_ble_eq_true rfl) (Nat.le_of_ble_eq_true rfl) rfl ?_
    refine ev_if_ne 22 20 dX4_readSeed_17 rfl rfl (fun c9 => ?_) (fun c9 => ?_)
    · replace h := rx_if_f c9 h
      refine ev_aload_n (i := 0) 23 dX4_readSeed_22 rfl rfl rfl ?_
      refine ev_get (v := .ref 19) 26 dX4_readSeed_23 dk_13 fl_4_21 (by decide) rfl rfl rfl ?_
      refine ev_aload_n (i := 0) 27 dX4_readSeed_26 rfl rfl rfl ?_
      obtain ⟨x11, S10, g12, h⟩ := rx_bd_o h
      refine ev_cVi0 30 dX4_readSeed_27 (em_X4_taken g12) mm_X4_taken mv_X4_taken lk_4_76 dk_13 (by decide) rfl (Nat.le_of_ble_eq_true rfl) (Nat.le_of_ble_eq_true rfl) rfl ?_
      obtain ⟨S13, eS13, h⟩ := rx_let_o h
      refine ex_put 33 dX4_readSeed_30 dk_19 fl_4_148 pp_8_10 (by decide) rfl rfl rfl rfl eS13 ?_
      refine ev_aload_n (i := 0) 34 dX4_readSeed_33 rfl rfl rfl ?_
      refine ev_bipush (v := 59) 36 dX4_readSeed_34 (by decide) rfl ?_
      obtain ⟨x15, S14, g16, h⟩ := rx_bd_o h
      refine ev_cVi1 39 dX4_readSeed_36 (em_X4_take g16) mm_X4_take mv_X4_take lk_4_73 dk_13 (by decide) rfl (Nat.le_of_ble_eq_true rfl) (Nat.le_of_ble_eq_true rfl) rfl ?_
      obtain ⟨g17, h⟩ := rx_bl_o h
      exact ev_zreturn dX4_readSeed_39 rfl (rx_nb g17) (rx_ret_i h)
    · replace h := rx_if_t c9 h
      refine ev_iconst (v := 0) 21 dX4_readSeed_20 (by decide) rfl ?_
      exact ev_zreturn dX4_readSeed_21 rfl (by decide) (rx_ret_i h)

def f_X4_readFine (S0 : rx_S) : Option (Int32 × rx_S) := rx_bd (f_X4_take 138 S0) (fun x3 S2 => if x3 = 0 then (some (0, S2)) else (rx_bd (f_X4_takeNumber 99 S2) (fun x7 S6 => if x7 = 0 then (some (0, S6)) else (rx_bd (f_X4_taken S6) (fun x11 S10 => rx_let (rx_ui S10 19 9 x11) (fun S13 => rx_bd (f_X4_take 59 S13) (fun x15 S14 => rx_bl x15 (some (x15, S14)))))))))
set_option maxHeartbeats 4000000 in
set_option maxRecDepth 20000 in
theorem em_X4_readFine {d : Nat} {S0 : rx_S} {zr : Int32} {zS : rx_S} (h : f_X4_readFine S0 = some (zr, zS)) : EM gC (d + 3) mX4_readFine [.ref 13] S0 (rx_pi zr zS) := by
  unfold f_X4_readFine at h
  show EV gC (d + 3) mX4_readFine 0 [some (.ref 13)] [] S0 (rx_pi zr zS)
  refine ev_aload_n (i := 0) 1 dX4_readFine_0 rfl rfl rfl ?_
  refine ev_sipush (v := 138) 4 dX4_readFine_1 (by decide) rfl ?_
  obtain ⟨x3, S2, g4, h⟩ := rx_bd_o h
  refine ev_cVi1 7 dX4_readFine_4 (em_X4_take g4) mm_X4_take mv_X4_take lk_4_73 dk_13 (by decide) rfl (Nat.le_of_ble_eq_true rfl) (Nat.le_of_ble_eq_true rfl) rfl ?_
  refine ev_if_eq 19 10 dX4_readFine_7 rfl rfl (fun c5 => ?_) (fun c5 => ?_)
  · replace h := rx_if_t c5 h
    refine ev_iconst (v := 0) 20 dX4_readFine_19 (by decide) rfl ?_
    exact ev_zreturn dX4_readFine_20 rfl (by decide) (rx_ret_i h)
  · replace h := rx_if_f c5 h
    refine ev_aload_n (i := 0) 11 dX4_readFine_10 rfl rfl rfl ?_
    refine ev_bipush (v := 99) 13 dX4_readFine_11 (by decide) rfl ?_
    obtain ⟨x7, S6, g8, h⟩ := rx_bd_o h
    refine ev_cVi1 16 dX4_readFine_13 (em_X4_takeNumber g8) mm_X4_takeNumber mv_X4_takeNumber lk_4_113 dk_13 (by decide) rfl (Nat.le_of_ble_eq_true rfl) (Nat.le_of_ble_eq_true rfl) rfl ?_
    refine ev_if_ne 21 19 dX4_readFine_16 rfl rfl (fun c9 => ?_) (fun c9 => ?_)
    · replace h := rx_if_f c9 h
      refine ev_aload_n (i := 0) 22 dX4_readFine_21 rfl rfl rfl ?_
      refine ev_get (v := .ref 19) 25 dX4_readFine_22 dk_13 fl_4_21 (by decide) rfl rfl rfl ?_
      refine ev_aload_n (i := 0) 26 dX4_readFine_25 rfl rfl rfl ?_
      obtain ⟨x11, S10, g12, h⟩ := rx_bd_o h
      refine ev_cVi0 29 dX4_readFine_26 (em_X4_taken g12) mm_X4_taken mv_X4_taken lk_4_76 dk_13 (by decide) rfl (Nat.le_of_ble_eq_true rfl) (Nat.le_of_ble_eq_true rfl) rfl ?_
      obtain ⟨S13, eS13, h⟩ := rx_let_o h
      refine ex_put 32 dX4_readFine_29 dk_19 fl_4_145 pp_8_9 (by decide) rfl rfl rfl rfl eS13 ?_
      refine ev_aload_n (i := 0) 33 dX4_readFine_32 rfl rfl rfl ?_
      refine ev_bipush (v := 59) 35 dX4_readFine_33 (by decide) rfl ?_
      obtain ⟨x15, S14, g16, h⟩ := rx_bd_o h
      refine ev_cVi1 38 dX4_readFine_35 (em_X4_take g16) mm_X4_take mv_X4_take lk_4_73 dk_13 (by decide) rfl (Nat.le_of_ble_eq_true rfl) (Nat.le_of_ble_eq_true rfl) rfl ?_
      obtain ⟨g17, h⟩ := rx_bl_o h
      exact ev_zreturn dX4_readFine_38 rfl (rx_nb g17) (rx_ret_i h)
    · replace h := rx_if_t c9 h
      refine ev_iconst (v := 0) 20 dX4_readFine_19 (by decide) rfl ?_
      exact ev_zreturn dX4_readFine_20 rfl (by decide) (rx_ret_i h)

def f_X4_findName_L2 (N : Nat) : Nat → Int64 → Int32 → rx_S → Option (Int32 × rx_S)
  | 0, _, _, _ => none
  | n + 1, x3, x4, S5 => if (S5.1 13 4) ≤ x4 then (some ((-1), S5)) else (if (10 : Int32) ≤ x4 then (some ((-1), S5)) else (rx_gd x4 10 (if (lg_cmp (S5.2 30 (Int32.toNatClampNeg x4)) x3) = 0 then (some (x4, S5)) else (rx_let (x4 + 1) (fun x10 => f_X4_findName_L2 N n x3 x10 S5)))))
def f_X4_findName (N : Nat) (x1 : Int64) (S0 : rx_S) : Option (Int32 × rx_S) := f_X4_findName_L2 N N x1 0 S0
set_option maxHeartbeats 4000000 in
set_option maxRecDepth 20000 in
theorem em_X4_findName_L2 {d N : Nat} {zr : Int32} {zS : rx_S} : ∀ (n : Nat) (x3 : Int64) (x4 : Int32) (S5 : rx_S), f_X4_findName_L2 N n x3 x4 S5 = some (zr, zS) → EV gC d mX4_findName 2 [some (.ref 13), some (.long x3), none, some (.int x4)] [] S5 (rx_pi zr zS) := by
  intro n
  induction n with
  | zero => intro x3 x4 S5 h; cases h
  | succ n ih =>
    intro x3 x4 S5 h
    rw [f_X4_findName_L2] at h
    refine ev_iload_n (i := 3) 3 dX4_findName_2 rfl rfl rfl ?_
    refine ev_aload_n (i := 0) 4 dX4_findName_3 rfl rfl rfl ?_
    refine ev_get (v := .int (S5.1 13 4)) 7 dX4_findName_4 dk_13 fl_4_40 (by decide) rfl rfl rfl ?_
    refine ev_icmp_ge 38 10 dX4_findName_7 rfl rfl (fun c6 => ?_) (fun c6 => ?_)
    · replace h := rx_if_t c6 h
      refine ev_iconst (v := (-1)) 39 dX4_findName_38 (by decide) rfl ?_
      exact ev_ireturn dX4_findName_39 rfl (rx_ret_i h)
    · replace h := rx_if_f c6 h
      refine ev_iload_n (i := 3) 11 dX4_findName_10 rfl rfl rfl ?_
      refine ev_aload_n (i := 0) 12 dX4_findName_11 rfl rfl rfl ?_
      refine ev_get (v := .ref 30) 15 dX4_findName_12 dk_13 fl_4_25 (by decide) rfl rfl rfl ?_
      refine ev_alenL (v := 10) 16 dX4_findName_15 dk_30 (by decide) rfl ?_
      refine ev_icmp_ge 38 19 dX4_findName_16 rfl rfl (fun c7 => ?_) (fun c7 => ?_)
      · replace h := rx_if_t c7 h
        refine ev_iconst (v := (-1)) 39 dX4_findName_38 (by decide) rfl ?_
        exact ev_ireturn dX4_findName_39 rfl (rx_ret_i h)
      · replace h := rx_if_f c7 h
        refine ev_aload_n (i := 0) 20 dX4_findName_19 rfl rfl rfl ?_
        refine ev_get (v := .ref 30) 23 dX4_findName_20 dk_13 fl_4_25 (by decide) rfl rfl rfl ?_
        refine ev_iload_n (i := 3) 24 dX4_findName_23 rfl rfl rfl ?_
        obtain ⟨g8, h⟩ := rx_gd_o h
        refine ex_lald _ 25 dX4_findName_24 dk_30 g8 rfl rfl ?_
        refine ev_lload_n (i := 1) 26 dX4_findName_25 rfl rfl rfl ?_
        refine ev_lcmp 27 dX4_findName_26 rfl ?_
        refine ev_if_ne 32 30 dX4_findName_27 rfl rfl (fun c9 => ?_) (fun c9 => ?_)
        · replace h := rx_if_f c9 h
          obtain ⟨x10, ex10, h⟩ := rx_let_o h
          refine ev_iinc (v := x10) (ls' := [some (.ref 13), some (.long x3), none, some (.int x10)]) 35 dX4_findName_32 rfl (by rw [ex10]; rfl) (Nat.le_of_ble_eq_true rfl) rfl rfl ?_
          refine ev_goto 2 dX4_findName_35 rfl ?_
          exact (ih _ _ _ h).fewer (rx_le_s (rx_le_s (rx_le_n (rx_le_s rx_le_0))))
        · replace h := rx_if_t c9 h
          refine ev_iload_n (i := 3) 31 dX4_findName_30 rfl rfl rfl ?_
          exact ev_ireturn dX4_findName_31 rfl (rx_ret_i h)

set_option maxHeartbeats 4000000 in
set_option maxRecDepth 20000 in
theorem em_X4_findName {d N : Nat} {x1 : Int64} {S0 : rx_S} {zr : Int32} {zS : rx_S} (h : f_X4_findName N x1 S0 = some (zr, zS)) : EM gC d mX4_findName [.ref 13, .long x1] S0 (rx_pi zr zS) := by
  unfold f_X4_findName at h
  show EV gC d mX4_findName 0 [some (.ref 13), some (.long x1), none, none] [] S0 (rx_pi zr zS)
  refine ev_iconst (v := 0) 1 dX4_findName_0 (by decide) rfl ?_
  refine ev_istore_n (ls' := [some (.ref 13), some (.long x1), none, some (.int 0)]) 2 dX4_findName_1 rfl (Nat.le_of_ble_eq_true rfl) rfl rfl ?_
  exact (em_X4_findName_L2 _ _ _ _ h).fewer (rx_le_s (rx_le_s (rx_le_n (rx_le_s rx_le_0))))

def f_X4_takeNewName (N : Nat) (x1 : Int32) (S0 : rx_S) : Option (Int32 × rx_S) := rx_bd (f_X4_take 2 S0) (fun x4 S3 => if x4 = 0 then (some (0, S3)) else (rx_bd (f_X9_valueAt ((S3.1 13 5) - 1) S3) (fun x8 S7 => rx_bd (f_X4_findName N x8 S7) (fun x11 S10 => if x11 = (-1) then (if (10 : Int32) ≤ (S10.1 13 4) then (some (1, S10)) else (if (10 : Int32) ≤ (S10.1 13 4) then (some (1, S10)) else (rx_gd (S10.1 13 4) 10 (rx_let (rx_uj S10 30 (Int32.toNatClampNeg (S10.1 13 4)) x8) (fun S17 => rx_gd (S17.1 13 4) 10 (rx_let (rx_ui S17 31 (Int32.toNatClampNeg (S17.1 13 4)) x1) (fun S19 => rx_let (rx_ui S19 13 4 ((S19.1 13 4) + 1)) (fun S20 => some (1, S20))))))))) else (rx_bd (f_X4_blame 3 S10) (fun x22 S21 => some (1, S21)))))))
set_option maxHeartbeats 4000000 in
set_option maxRecDepth 20000 in
theorem em_X4_takeNewName {d N : Nat} {x1 : Int32} {S0 : rx_S} {zr : Int32} {zS : rx_S} (h : f_X4_takeNewName N x1 S0 = some (zr, zS)) : EM gC (d + 2) mX4_takeNewName [.ref 13, .int x1] S0 (rx_pi zr zS) := by
  unfold f_X4_takeNewName at h
  show EV gC (d + 2) mX4_takeNewName 0 [some (.ref 13), some (.int x1), none, none] [] S0 (rx_pi zr zS)
  refine ev_aload_n (i := 0) 1 dX4_takeNewName_0 rfl rfl rfl ?_
  refine ev_iconst (v := 2) 2 dX4_takeNewName_1 (by decide) rfl ?_
  obtain ⟨x4, S3, g5, h⟩ := rx_bd_o h
  refine ev_cVi1 5 dX4_takeNewName_2 (em_X4_take g5) mm_X4_take mv_X4_take lk_4_73 dk_13 (by decide) rfl (Nat.le_of_ble_eq_true rfl) (Nat.le_of_ble_eq_true rfl) rfl ?_
  refine ev_if_ne 10 8 dX4_takeNewName_5 rfl rfl (fun c6 => ?_) (fun c6 => ?_)
  · replace h := rx_if_f c6 h
    refine ev_aload_n (i := 0) 11 dX4_takeNewName_10 rfl rfl rfl ?_
    refine ev_get (v := .ref 14) 14 dX4_takeNewName_11 dk_13 fl_4_12 (by decide) rfl rfl rfl ?_
    refine ev_aload_n (i := 0) 15 dX4_takeNewName_14 rfl rfl rfl ?_
    refine ev_get (v := .int (S3.1 13 5)) 18 dX4_takeNewName_15 dk_13 fl_4_44 (by decide) rfl rfl rfl ?_
    refine ev_iconst (v := 1) 19 dX4_takeNewName_18 (by decide) rfl ?_
    refine ev_isub 20 dX4_takeNewName_19 rfl ?_
    obtain ⟨x8, S7, g9, h⟩ := rx_bd_o h
    refine ev_cVl1 23 dX4_takeNewName_20 (em_X9_valueAt g9) mm_X9_valueAt mv_X9_valueAt lk_4_84 dk_14 (by decide) rfl (Nat.le_of_ble_eq_true rfl) (Nat.le_of_ble_eq_true rfl) rfl ?_
    refine ev_lstore_n (ls' := [some (.ref 13), some (.int x1), some (.long x8), none]) 24 dX4_takeNewName_23 rfl (Nat.le_of_ble_eq_true rfl) rfl rfl ?_
    refine ev_aload_n (i := 0) 25 dX4_takeNewName_24 rfl rfl rfl ?_
    refine ev_lload_n (i := 2) 26 dX4_takeNewName_25 rfl rfl rfl ?_
    obtain ⟨x11, S10, g12, h⟩ := rx_bd_o h
    refine ev_cVi1 29 dX4_takeNewName_26 (em_X4_findName g12) mm_X4_findName mv_X4_findName lk_4_126 dk_13 (by decide) rfl (Nat.le_of_ble_eq_true rfl) (Nat.le_of_ble_eq_true rfl) rfl ?_
    refine ev_iconst (v := (-1)) 30 dX4_takeNewName_29 (by decide) rfl ?_
    refine ev_icmp_eq 41 33 dX4_takeNewName_30 rfl rfl (fun c13 => ?_) (fun c13 => ?_)
    · replace h := rx_if_t c13 h
      refine ev_aload_n (i := 0) 42 dX4_takeNewName_41 rfl rfl rfl ?_
      refine ev_get (v := .int (S10.1 13 4)) 45 dX4_takeNewName_42 dk_13 fl_4_40 (by decide) rfl rfl rfl ?_
      refine ev_aload_n (i := 0) 46 dX4_takeNewName_45 rfl rfl rfl ?_
      refine ev_get (v := .ref 30) 49 dX4_takeNewName_46 dk_13 fl_4_25 (by decide) rfl rfl rfl ?_
      refine ev_alenL (v := 10) 50 dX4_takeNewName_49 dk_30 (by decide) rfl ?_
      refine ev_icmp_ge 95 53 dX4_takeNewName_50 rfl rfl (fun c14 => ?_) (fun c14 => ?_)
      · replace h := rx_if_t c14 h
        refine ev_iconst (v := 1) 96 dX4_takeNewName_95 (by decide) rfl ?_
        exact ev_zreturn dX4_takeNewName_96 rfl (by decide) (rx_ret_i h)
      · replace h := rx_if_f c14 h
        refine ev_aload_n (i := 0) 54 dX4_takeNewName_53 rfl rfl rfl ?_
        refine ev_get (v := .int (S10.1 13 4)) 57 dX4_takeNewName_54 dk_13 fl_4_40 (by decide) rfl rfl rfl ?_
        refine ev_aload_n (i := 0) 58 dX4_takeNewName_57 rfl rfl rfl ?_
        refine ev_get (v := .ref 31) 61 dX4_takeNewName_58 dk_13 fl_4_29 (by decide) rfl rfl rfl ?_
        refine ev_alen (v := 10) 62 dX4_takeNewName_61 dk_31 (by decide) (by decide) rfl ?_
        refine ev_icmp_ge 95 65 dX4_takeNewName_62 rfl rfl (fun c15 => ?_) (fun c15 => ?_)
        · replace h := rx_if_t c15 h
          refine ev_iconst (v := 1) 96 dX4_takeNewName_95 (by decide) rfl ?_
          exact ev_zreturn dX4_takeNewName_96 rfl (by decide) (rx_ret_i h)
        · replace h := rx_if_f c15 h
          refine ev_aload_n (i := 0) 66 dX4_takeNewName_65 rfl rfl rfl ?_
          refine ev_get (v := .ref 30) 69 dX4_takeNewName_66 dk_13 fl_4_25 (by decide) rfl rfl rfl ?_
          refine ev_aload_n (i := 0) 70 dX4_takeNewName_69 rfl rfl rfl ?_
          refine ev_get (v := .int (S10.1 13 4)) 73 dX4_takeNewName_70 dk_13 fl_4_40 (by decide) rfl rfl rfl ?_
          refine ev_lload_n (i := 2) 74 dX4_takeNewName_73 rfl rfl rfl ?_
          obtain ⟨g16, h⟩ := rx_gd_o h
          obtain ⟨S17, eS17, h⟩ := rx_let_o h
          refine ex_last _ 75 dX4_takeNewName_74 dk_30 g16 rfl rfl eS17 ?_
          refine ev_aload_n (i := 0) 76 dX4_takeNewName_75 rfl rfl rfl ?_
          refine ev_get (v := .ref 31) 79 dX4_takeNewName_76 dk_13 fl_4_29 (by decide) rfl rfl rfl ?_
          refine ev_aload_n (i := 0) 80 dX4_takeNewName_79 rfl rfl rfl ?_
          refine ev_get (v := .int (S17.1 13 4)) 83 dX4_takeNewName_80 dk_13 fl_4_40 (by decide) rfl rfl rfl ?_
          refine ev_iload_n (i := 1) 84 dX4_takeNewName_83 rfl rfl rfl ?_
          obtain ⟨g18, h⟩ := rx_gd_o h
          obtain ⟨S19, eS19, h⟩ := rx_let_o h
          refine ex_iast _ 85 dX4_takeNewName_84 dk_31 g18 rfl rfl eS19 ?_
          refine ev_aload_n (i := 0) 86 dX4_takeNewName_85 rfl rfl rfl ?_
          refine ev_dup 87 dX4_takeNewName_86 rfl rfl ?_
          refine ev_get (v := .int (S19.1 13 4)) 90 dX4_takeNewName_87 dk_13 fl_4_40 (by decide) rfl rfl rfl ?_
          refine ev_iconst (v := 1) 91 dX4_takeNewName_90 (by decide) rfl ?_
          refine ev_iadd 92 dX4_takeNewName_91 rfl ?_
          obtain ⟨S20, eS20, h⟩ := rx_let_o h
          refine ex_put 95 dX4_takeNewName_92 dk_13 fl_4_40 pp_4_4 (by decide) rfl rfl rfl rfl eS20 ?_
          refine ev_iconst (v := 1) 96 dX4_takeNewName_95 (by decide) rfl ?_
          exact ev_zreturn dX4_takeNewName_96 rfl (by decide) (rx_ret_i h)
    · replace h := rx_if_f c13 h
      refine ev_aload_n (i := 0) 34 dX4_takeNewName_33 rfl rfl rfl ?_
      refine ev_iconst (v := 3) 35 dX4_takeNewName_34 (by decide) rfl ?_
      obtain ⟨x22, S21, g23, h⟩ := rx_bd_o h
      refine ev_cVv1 38 dX4_takeNewName_35 (em_X4_blame g23) mm_X4_blame mv_X4_blame lk_4_80 dk_13 (by decide) rfl (Nat.le_of_ble_eq_true rfl) (Nat.le_of_ble_eq_true rfl) rfl ?_
      refine ev_goto 95 dX4_takeNewName_38 rfl ?_
      refine ev_iconst (v := 1) 96 dX4_takeNewName_95 (by decide) rfl ?_
      exact ev_zreturn dX4_takeNewName_96 rfl (by decide) (rx_ret_i h)
  · replace h := rx_if_t c6 h
    refine ev_iconst (v := 0) 9 dX4_takeNewName_8 (by decide) rfl ?_
    exact ev_zreturn dX4_takeNewName_9 rfl (by decide) (rx_ret_i h)

def f_X8_addThird (k : Nat) (x1 : Int32) (x2 : Int32) (S0 : rx_S) : Option (Unit × rx_S) := if (4 : Int32) ≤ (S0.1 k 8) then (some ((), S0)) else (rx_gd (S0.1 k 8) 4 (rx_let (rx_ui S0 (k + 9) (Int32.toNatClampNeg (S0.1 k 8)) x1) (fun S6 => rx_gd (S6.1 k 8) 4 (rx_let (rx_ui S6 (k + 10) (Int32.toNatClampNeg (S6.1 k 8)) x2) (fun S8 => rx_let (rx_ui S8 k 8 ((S8.1 k 8) + 1)) (fun S9 => some ((), S9)))))))
set_option maxHeartbeats 4000000 in
set_option maxRecDepth 20000 in
theorem em_X8_addThird_2 {d : Nat} {x1 : Int32} {x2 : Int32} {S0 : rx_S} {zr : Unit} {zS : rx_S} (h : f_X8_addThird 2 x1 x2 S0 = some (zr, zS)) : EM gC d mX8_addThird [.ref 2, .int x1, .int x2] S0 (rx_pv zS) := by
  unfold f_X8_addThird at h
  show EV gC d mX8_addThird 0 [some (.ref 2), some (.int x1), some (.int x2)] [] S0 (rx_pv zS)
  refine ev_aload_n (i := 0) 1 dX8_addThird_0 rfl rfl rfl ?_
  refine ev_get (v := .int (S0.1 2 8)) 4 dX8_addThird_1 dk_2 fl_8_44 (by decide) rfl rfl rfl ?_
  refine ev_iconst (v := 4) 5 dX8_addThird_4 (by decide) rfl ?_
  refine ev_icmp_ge 38 8 dX8_addThird_5 rfl rfl (fun c4 => ?_) (fun c4 => ?_)
  · replace h := rx_if_t c4 h
    exact ev_return dX8_addThird_38 rfl (rx_ret_v h)
  · replace h := rx_if_f c4 h
    refine ev_aload_n (i := 0) 9 dX8_addThird_8 rfl rfl rfl ?_
    refine ev_get (v := .ref 11) 12 dX8_addThird_9 dk_2 fl_8_28 (by decide) rfl rfl rfl ?_
    refine ev_aload_n (i := 0) 13 dX8_addThird_12 rfl rfl rfl ?_
    refine ev_get (v := .int (S0.1 2 8)) 16 dX8_addThird_13 dk_2 fl_8_44 (by decide) rfl rfl rfl ?_
    refine ev_iload_n (i := 1) 17 dX8_addThird_16 rfl rfl rfl ?_
    obtain ⟨g5, h⟩ := rx_gd_o h
    obtain ⟨S6, eS6, h⟩ := rx_let_o h
    refine ex_iast _ 18 dX8_addThird_17 dk_11 g5 rfl rfl eS6 ?_
    refine ev_aload_n (i := 0) 19 dX8_addThird_18 rfl rfl rfl ?_
    refine ev_get (v := .ref 12) 22 dX8_addThird_19 dk_2 fl_8_31 (by decide) rfl rfl rfl ?_
    refine ev_aload_n (i := 0) 23 dX8_addThird_22 rfl rfl rfl ?_
    refine ev_get (v := .int (S6.1 2 8)) 26 dX8_addThird_23 dk_2 fl_8_44 (by decide) rfl rfl rfl ?_
    refine ev_iload_n (i := 2) 27 dX8_addThird_26 rfl rfl rfl ?_
    obtain ⟨g7, h⟩ := rx_gd_o h
    obtain ⟨S8, eS8, h⟩ := rx_let_o h
    refine ex_iast _ 28 dX8_addThird_27 dk_12 g7 rfl rfl eS8 ?_
    refine ev_aload_n (i := 0) 29 dX8_addThird_28 rfl rfl rfl ?_
    refine ev_dup 30 dX8_addThird_29 rfl rfl ?_
    refine ev_get (v := .int (S8.1 2 8)) 33 dX8_addThird_30 dk_2 fl_8_44 (by decide) rfl rfl rfl ?_
    refine ev_iconst (v := 1) 34 dX8_addThird_33 (by decide) rfl ?_
    refine ev_iadd 35 dX8_addThird_34 rfl ?_
    obtain ⟨S9, eS9, h⟩ := rx_let_o h
    refine ex_put 38 dX8_addThird_35 dk_2 fl_8_44 pp_8_8 (by decide) rfl rfl rfl rfl eS9 ?_
    exact ev_return dX8_addThird_38 rfl (rx_ret_v h)

set_option maxHeartbeats 4000000 in
set_option maxRecDepth 20000 in
theorem em_X8_addThird_19 {d : Nat} {x1 : Int32} {x2 : Int32} {S0 : rx_S} {zr : Unit} {zS : rx_S} (h : f_X8_addThird 19 x1 x2 S0 = some (zr, zS)) : EM gC d mX8_addThird [.ref 19, .int x1, .int x2] S0 (rx_pv zS) := by
  unfold f_X8_addThird at h
  show EV gC d mX8_addThird 0 [some (.ref 19), some (.int x1), some (.int x2)] [] S0 (rx_pv zS)
  refine ev_aload_n (i := 0) 1 dX8_addThird_0 rfl rfl rfl ?_
  refine ev_get (v := .int (S0.1 19 8)) 4 dX8_addThird_1 dk_19 fl_8_44 (by decide) rfl rfl rfl ?_
  refine ev_iconst (v := 4) 5 dX8_addThird_4 (by decide) rfl ?_
  refine ev_icmp_ge 38 8 dX8_addThird_5 rfl rfl (fun c4 => ?_) (fun c4 => ?_)
  · replace h := rx_if_t c4 h
    exact ev_return dX8_addThird_38 rfl (rx_ret_v h)
  · replace h := rx_if_f c4 h
    refine ev_aload_n (i := 0) 9 dX8_addThird_8 rfl rfl rfl ?_
    refine ev_get (v := .ref 28) 12 dX8_addThird_9 dk_19 fl_8_28 (by decide) rfl rfl rfl ?_
    refine ev_aload_n (i := 0) 13 dX8_addThird_12 rfl rfl rfl ?_
    refine ev_get (v := .int (S0.1 19 8)) 16 dX8_addThird_13 dk_19 fl_8_44 (by decide) rfl rfl rfl ?_
    refine ev_iload_n (i := 1) 17 dX8_addThird_16 rfl rfl rfl ?_
    obtain ⟨g5, h⟩ := rx_gd_o h
    obtain ⟨S6, eS6, h⟩ := rx_let_o h
    refine ex_iast _ 18 dX8_addThird_17 dk_28 g5 rfl rfl eS6 ?_
    refine ev_aload_n (i := 0) 19 dX8_addThird_18 rfl rfl rfl ?_
    refine ev_get (v := .ref 29) 22 dX8_addThird_19 dk_19 fl_8_31 (by decide) rfl rfl rfl ?_
    refine ev_aload_n (i := 0) 23 dX8_addThird_22 rfl rfl rfl ?_
    refine ev_get (v := .int (S6.1 19 8)) 26 dX8_addThird_23 dk_19 fl_8_44 (by decide) rfl rfl rfl ?_
    refine ev_iload_n (i := 2) 27 dX8_addThird_26 rfl rfl rfl ?_
    obtain ⟨g7, h⟩ := rx_gd_o h
    obtain ⟨S8, eS8, h⟩ := rx_let_o h
    refine ex_iast _ 28 dX8_addThird_27 dk_29 g7 rfl rfl eS8 ?_
    refine ev_aload_n (i := 0) 29 dX8_addThird_28 rfl rfl rfl ?_
    refine ev_dup 30 dX8_addThird_29 rfl rfl ?_
    refine ev_get (v := .int (S8.1 19 8)) 33 dX8_addThird_30 dk_19 fl_8_44 (by decide) rfl rfl rfl ?_
    refine ev_iconst (v := 1) 34 dX8_addThird_33 (by decide) rfl ?_
    refine ev_iadd 35 dX8_addThird_34 rfl ?_
    obtain ⟨S9, eS9, h⟩ := rx_let_o h
    refine ex_put 38 dX8_addThird_35 dk_19 fl_8_44 pp_8_8 (by decide) rfl rfl rfl rfl eS9 ?_
    exact ev_return dX8_addThird_38 rfl (rx_ret_v h)

def f_X4_readThird (N : Nat) (S0 : rx_S) : Option (Int32 × rx_S) := if (S0.1 19 8) < 4 then (rx_bd (f_X4_take 130 S0) (fun x4 S3 => if x4 = 0 then (some (0, S3)) else (rx_bd (f_X4_takeNewName N (-1) S3) (fun x8 S7 => if x8 = 0 then (some (0, S7)) else (rx_bd (f_X4_takeNumber 9 S7) (fun x12 S11 => if x12 = 0 then (some (0, S11)) else (rx_bd (f_X4_taken S11) (fun x16 S15 => rx_bd (f_X4_takeNumber 99 S15) (fun x19 S18 => if x19 = 0 then (some (0, S18)) else (rx_bd (f_X4_taken S18) (fun x23 S22 => rx_bd (f_X8_addThird 19 x16 x23 S22) (fun x26 S25 => rx_bd (f_X4_take 59 S25) (fun x29 S28 => rx_bl x29 (some (x29, S28))))))))))))))) else (rx_bd (f_X4_refuse 2 S0) (fun x33 S32 => rx_bl x33 (some (x33, S32))))
set_option maxHeartbeats 4000000 in
set_option maxRecDepth 20000 in
theorem em_X4_readThird {d N : Nat} {S0 : rx_S} {zr : Int32} {zS : rx_S} (h : f_X4_readThird N S0 = some (zr, zS)) : EM gC (d + 3) mX4_readThird [.ref 13] S0 (rx_pi zr zS) := by
  unfold f_X4_readThird at h
  show EV gC (d + 3) mX4_readThird 0 [some (.ref 13), none] [] S0 (rx_pi zr zS)
  refine ev_aload_n (i := 0) 1 dX4_readThird_0 rfl rfl rfl ?_
  refine ev_get (v := .ref 19) 4 dX4_readThird_1 dk_13 fl_4_21 (by decide) rfl rfl rfl ?_
  refine ev_get (v := .int (S0.1 19 8)) 7 dX4_readThird_4 dk_19 fl_4_119 (by decide) rfl rfl rfl ?_
  refine ev_iconst (v := 4) 8 dX4_readThird_7 (by decide) rfl ?_
  refine ev_icmp_lt 17 11 dX4_readThird_8 rfl rfl (fun c2 => ?_) (fun c2 => ?_)
  · replace h := rx_if_t c2 h
    refine ev_aload_n (i := 0) 18 dX4_readThird_17 rfl rfl rfl ?_
    refine ev_sipush (v := 130) 21 dX4_readThird_18 (by decide) rfl ?_
    obtain ⟨x4, S3, g5, h⟩ := rx_bd_o h
    refine ev_cVi1 24 dX4_readThird_21 (em_X4_take g5) mm_X4_take mv_X4_take lk_4_73 dk_13 (by decide) rfl (Nat.le_of_ble_eq_true rfl) (Nat.le_of_ble_eq_true rfl) rfl ?_
    refine ev_if_eq 44 27 dX4_readThird_24 rfl rfl (fun c6 => ?_) (fun c6 => ?_)
    · replace h := rx_if_t c6 h
      refine ev_iconst (v := 0) 45 dX4_readThird_44 (by decide) rfl ?_
      exact ev_zreturn dX4_readThird_45 rfl (by decide) (rx_ret_i h)
    · replace h := rx_if_f c6 h
      refine ev_aload_n (i := 0) 28 dX4_readThird_27 rfl rfl rfl ?_
      refine ev_iconst (v := (-1)) 29 dX4_readThird_28 (by decide) rfl ?_
      obtain ⟨x8, S7, g9, h⟩ := rx_bd_o h
      refine ev_cVi1 32 dX4_readThird_29 (em_X4_takeNewName g9) mm_X4_takeNewName mv_X4_takeNewName lk_4_110 dk_13 (by decide) rfl (Nat.le_of_ble_eq_true rfl) (Nat.le_of_ble_eq_true rfl) rfl ?_
      refine ev_if_eq 44 35 dX4_readThird_32 rfl rfl (fun c10 => ?_) (fun c10 => ?_)
      · replace h := rx_if_t c10 h
        refine ev_iconst (v := 0) 45 dX4_readThird_44 (by decide) rfl ?_
        exact ev_zreturn dX4_readThird_45 rfl (by decide) (rx_ret_i h)
      · replace h := rx_if_f c10 h
        refine ev_aload_n (i := 0) 36 dX4_readThird_35 rfl rfl rfl ?_
        refine ev_bipush (v := 9) 38 dX4_readThird_36 (by decide) rfl ?_
        obtain ⟨x12, S11, g13, h⟩ := rx_bd_o h
        refine ev_cVi1 41 dX4_readThird_38 (em_X4_takeNumber g13) mm_X4_takeNumber mv_X4_takeNumber lk_4_113 dk_13 (by decide) rfl (Nat.le_of_ble_eq_true rfl) (Nat.le_of_ble_eq_true rfl) rfl ?_
        refine ev_if_ne 46 44 dX4_readThird_41 rfl rfl (fun c14 => ?_) (fun c14 => ?_)
        · replace h := rx_if_f c14 h
          refine ev_aload_n (i := 0) 47 dX4_readThird_46 rfl rfl rfl ?_
          obtain ⟨x16, S15, g17, h⟩ := rx_bd_o h
          refine ev_cVi0 50 dX4_readThird_47 (em_X4_taken g17) mm_X4_taken mv_X4_taken lk_4_76 dk_13 (by decide) rfl (Nat.le_of_ble_eq_true rfl) (Nat.le_of_ble_eq_true rfl) rfl ?_
          refine ev_istore_n (ls' := [some (.ref 13), some (.int x16)]) 51 dX4_readThird_50 rfl (Nat.le_of_ble_eq_true rfl) rfl rfl ?_
          refine ev_aload_n (i := 0) 52 dX4_readThird_51 rfl rfl rfl ?_
          refine ev_bipush (v := 99) 54 dX4_readThird_52 (by decide) rfl ?_
          obtain ⟨x19, S18, g20, h⟩ := rx_bd_o h
          refine ev_cVi1 57 dX4_readThird_54 (em_X4_takeNumber g20) mm_X4_takeNumber mv_X4_takeNumber lk_4_113 dk_13 (by decide) rfl (Nat.le_of_ble_eq_true rfl) (Nat.le_of_ble_eq_true rfl) rfl ?_
          refine ev_if_ne 62 60 dX4_readThird_57 rfl rfl (fun c21 => ?_) (fun c21 => ?_)
          · replace h := rx_if_f c21 h
            refine ev_aload_n (i := 0) 63 dX4_readThird_62 rfl rfl rfl ?_
            refine ev_get (v := .ref 19) 66 dX4_readThird_63 dk_13 fl_4_21 (by decide) rfl rfl rfl ?_
            refine ev_iload_n (i := 1) 67 dX4_readThird_66 rfl rfl rfl ?_
            refine ev_aload_n (i := 0) 68 dX4_readThird_67 rfl rfl rfl ?_
            obtain ⟨x23, S22, g24, h⟩ := rx_bd_o h
            refine ev_cVi0 71 dX4_readThird_68 (em_X4_taken g24) mm_X4_taken mv_X4_taken lk_4_76 dk_13 (by decide) rfl (Nat.le_of_ble_eq_true rfl) (Nat.le_of_ble_eq_true rfl) rfl ?_
            obtain ⟨x26, S25, g27, h⟩ := rx_bd_o h
            refine ev_cVv2 74 dX4_readThird_71 (em_X8_addThird_19 g27) mm_X8_addThird mv_X8_addThird lk_4_122 dk_19 (by decide) rfl (Nat.le_of_ble_eq_true rfl) (Nat.le_of_ble_eq_true rfl) rfl ?_
            refine ev_aload_n (i := 0) 75 dX4_readThird_74 rfl rfl rfl ?_
            refine ev_bipush (v := 59) 77 dX4_readThird_75 (by decide) rfl ?_
            obtain ⟨x29, S28, g30, h⟩ := rx_bd_o h
            refine ev_cVi1 80 dX4_readThird_77 (em_X4_take g30) mm_X4_take mv_X4_take lk_4_73 dk_13 (by decide) rfl (Nat.le_of_ble_eq_true rfl) (Nat.le_of_ble_eq_true rfl) rfl ?_
            obtain ⟨g31, h⟩ := rx_bl_o h
            exact ev_zreturn dX4_readThird_80 rfl (rx_nb g31) (rx_ret_i h)
          · replace h := rx_if_t c21 h
            refine ev_iconst (v := 0) 61 dX4_readThird_60 (by decide) rfl ?_
            exact ev_zreturn dX4_readThird_61 rfl (by decide) (rx_ret_i h)
        · replace h := rx_if_t c14 h
          refine ev_iconst (v := 0) 45 dX4_readThird_44 (by decide) rfl ?_
          exact ev_zreturn dX4_readThird_45 rfl (by decide) (rx_ret_i h)
  · replace h := rx_if_f c2 h
    refine ev_aload_n (i := 0) 12 dX4_readThird_11 rfl rfl rfl ?_
    refine ev_iconst (v := 2) 13 dX4_readThird_12 (by decide) rfl ?_
    obtain ⟨x33, S32, g34, h⟩ := rx_bd_o h
    refine ev_cVi1 16 dX4_readThird_13 (em_X4_refuse g34) mm_X4_refuse mv_X4_refuse lk_4_104 dk_13 (by decide) rfl (Nat.le_of_ble_eq_true rfl) (Nat.le_of_ble_eq_true rfl) rfl ?_
    obtain ⟨g35, h⟩ := rx_bl_o h
    exact ev_zreturn dX4_readThird_16 rfl (rx_nb g35) (rx_ret_i h)

def f_X8_hasSpouse (k : Nat) (x1 : Int32) (S0 : rx_S) : Option (Int32 × rx_S) := if x1 < 0 then (some (0, S0)) else (if (S0.1 k 6) ≤ x1 then (some (0, S0)) else (some (1, S0)))
set_option maxHeartbeats 4000000 in
set_option maxRecDepth 20000 in
theorem em_X8_hasSpouse_2 {d : Nat} {x1 : Int32} {S0 : rx_S} {zr : Int32} {zS : rx_S} (h : f_X8_hasSpouse 2 x1 S0 = some (zr, zS)) : EM gC d mX8_hasSpouse [.ref 2, .int x1] S0 (rx_pi zr zS) := by
  unfold f_X8_hasSpouse at h
  show EV gC d mX8_hasSpouse 0 [some (.ref 2), some (.int x1)] [] S0 (rx_pi zr zS)
  refine ev_iload_n (i := 1) 1 dX8_hasSpouse_0 rfl rfl rfl ?_
  refine ev_if_lt 16 4 dX8_hasSpouse_1 rfl rfl (fun c3 => ?_) (fun c3 => ?_)
  · replace h := rx_if_t c3 h
    refine ev_iconst (v := 0) 17 dX8_hasSpouse_16 (by decide) rfl ?_
    exact ev_zreturn dX8_hasSpouse_17 rfl (by decide) (rx_ret_i h)
  · replace h := rx_if_f c3 h
    refine ev_iload_n (i := 1) 5 dX8_hasSpouse_4 rfl rfl rfl ?_
    refine ev_aload_n (i := 0) 6 dX8_hasSpouse_5 rfl rfl rfl ?_
    refine ev_get (v := .int (S0.1 2 6)) 9 dX8_hasSpouse_6 dk_2 fl_8_37 (by decide) rfl rfl rfl ?_
    refine ev_icmp_ge 16 12 dX8_hasSpouse_9 rfl rfl (fun c4 => ?_) (fun c4 => ?_)
    · replace h := rx_if_t c4 h
      refine ev_iconst (v := 0) 17 dX8_hasSpouse_16 (by decide) rfl ?_
      exact ev_zreturn dX8_hasSpouse_17 rfl (by decide) (rx_ret_i h)
    · replace h := rx_if_f c4 h
      refine ev_iconst (v := 1) 13 dX8_hasSpouse_12 (by decide) rfl ?_
      refine ev_goto 17 dX8_hasSpouse_13 rfl ?_
      exact ev_zreturn dX8_hasSpouse_17 rfl (by decide) (rx_ret_i h)

set_option maxHeartbeats 4000000 in
set_option maxRecDepth 20000 in
theorem em_X8_hasSpouse_19 {d : Nat} {x1 : Int32} {S0 : rx_S} {zr : Int32} {zS : rx_S} (h : f_X8_hasSpouse 19 x1 S0 = some (zr, zS)) : EM gC d mX8_hasSpouse [.ref 19, .int x1] S0 (rx_pi zr zS) := by
  unfold f_X8_hasSpouse at h
  show EV gC d mX8_hasSpouse 0 [some (.ref 19), some (.int x1)] [] S0 (rx_pi zr zS)
  refine ev_iload_n (i := 1) 1 dX8_hasSpouse_0 rfl rfl rfl ?_
  refine ev_if_lt 16 4 dX8_hasSpouse_1 rfl rfl (fun c3 => ?_) (fun c3 => ?_)
  · replace h := rx_if_t c3 h
    refine ev_iconst (v := 0) 17 dX8_hasSpouse_16 (by decide) rfl ?_
    exact ev_zreturn dX8_hasSpouse_17 rfl (by decide) (rx_ret_i h)
  · replace h := rx_if_f c3 h
    refine ev_iload_n (i := 1) 5 dX8_hasSpouse_4 rfl rfl rfl ?_
    refine ev_aload_n (i := 0) 6 dX8_hasSpouse_5 rfl rfl rfl ?_
    refine ev_get (v := .int (S0.1 19 6)) 9 dX8_hasSpouse_6 dk_19 fl_8_37 (by decide) rfl rfl rfl ?_
    refine ev_icmp_ge 16 12 dX8_hasSpouse_9 rfl rfl (fun c4 => ?_) (fun c4 => ?_)
    · replace h := rx_if_t c4 h
      refine ev_iconst (v := 0) 17 dX8_hasSpouse_16 (by decide) rfl ?_
      exact ev_zreturn dX8_hasSpouse_17 rfl (by decide) (rx_ret_i h)
    · replace h := rx_if_f c4 h
      refine ev_iconst (v := 1) 13 dX8_hasSpouse_12 (by decide) rfl ?_
      refine ev_goto 17 dX8_hasSpouse_13 rfl ?_
      exact ev_zreturn dX8_hasSpouse_17 rfl (by decide) (rx_ret_i h)

def f_X4_namedSpouse (N : Nat) (S0 : rx_S) : Option (Int32 × rx_S) := rx_bd (f_X9_valueAt ((S0.1 13 5) - 1) S0) (fun x3 S2 => rx_bd (f_X4_findName N x3 S2) (fun x6 S5 => rx_let (fun (x8 : Int32) (S9 : rx_S) => rx_bd (f_X8_hasSpouse 19 x8 S9) (fun x11 S10 => if x11 = 0 then (rx_bd (f_X4_blame 4 S10) (fun x20 S19 => some ((-1), S19))) else (rx_gd x8 6 (if (S10.1 26 (Int32.toNatClampNeg x8)) = (-2) then (some (x8, S10)) else (rx_bd (f_X4_blame 3 S10) (fun x17 S16 => some (x8, S16))))))) (fun J41_1 => rx_let (fun (S22 : rx_S) => J41_1 (-1) S22) (fun J40_2 => if x6 < 0 then (J40_2 S5) else (if (10 : Int32) ≤ x6 then (J40_2 S5) else (rx_gd x6 10 (J41_1 (S5.1 31 (Int32.toNatClampNeg x6)) S5)))))))
set_option maxHeartbeats 4000000 in
set_option maxRecDepth 20000 in
theorem em_X4_namedSpouse {d N : Nat} {S0 : rx_S} {zr : Int32} {zS : rx_S} (h : f_X4_namedSpouse N S0 = some (zr, zS)) : EM gC (d + 2) mX4_namedSpouse [.ref 13] S0 (rx_pi zr zS) := by
  unfold f_X4_namedSpouse at h
  show EV gC (d + 2) mX4_namedSpouse 0 [some (.ref 13), none, none] [] S0 (rx_pi zr zS)
  refine ev_aload_n (i := 0) 1 dX4_namedSpouse_0 rfl rfl rfl ?_
  refine ev_aload_n (i := 0) 2 dX4_namedSpouse_1 rfl rfl rfl ?_
  refine ev_get (v := .ref 14) 5 dX4_namedSpouse_2 dk_13 fl_4_12 (by decide) rfl rfl rfl ?_
  refine ev_aload_n (i := 0) 6 dX4_namedSpouse_5 rfl rfl rfl ?_
  refine ev_get (v := .int (S0.1 13 5)) 9 dX4_namedSpouse_6 dk_13 fl_4_44 (by decide) rfl rfl rfl ?_
  refine ev_iconst (v := 1) 10 dX4_namedSpouse_9 (by decide) rfl ?_
  refine ev_isub 11 dX4_namedSpouse_10 rfl ?_
  obtain ⟨x3, S2, g4, h⟩ := rx_bd_o h
  refine ev_cVl1 14 dX4_namedSpouse_11 (em_X9_valueAt g4) mm_X9_valueAt mv_X9_valueAt lk_4_84 dk_14 (by decide) rfl (Nat.le_of_ble_eq_true rfl) (Nat.le_of_ble_eq_true rfl) rfl ?_
  obtain ⟨x6, S5, g7, h⟩ := rx_bd_o h
  refine ev_cVi1 17 dX4_namedSpouse_14 (em_X4_findName g7) mm_X4_findName mv_X4_findName lk_4_126 dk_13 (by decide) rfl (Nat.le_of_ble_eq_true rfl) (Nat.le_of_ble_eq_true rfl) rfl ?_
  refine ev_istore_n (ls' := [some (.ref 13), some (.int x6), none]) 18 dX4_namedSpouse_17 rfl (Nat.le_of_ble_eq_true rfl) rfl rfl ?_
  refine ev_iload_n (i := 1) 19 dX4_namedSpouse_18 rfl rfl rfl ?_
  obtain ⟨J41_1, eJ41_1, h⟩ := rx_let_o h
  have hJ41_1 : ∀ (x8 : Int32) (S9 : rx_S), J41_1 x8 S9 = some (zr, zS) → EV gC (d + 2) mX4_namedSpouse 41 [some (.ref 13), none, none] [.int x8] S9 (rx_pi zr zS) := by
    intro x8 S9 h
    subst eJ41_1
    refine ev_istore_n (ls' := [some (.ref 13), none, some (.int x8)]) 42 dX4_namedSpouse_41 rfl (Nat.le_of_ble_eq_true rfl) rfl rfl ?_
    refine ev_aload_n (i := 0) 43 dX4_namedSpouse_42 rfl rfl rfl ?_
    refine ev_get (v := .ref 19) 46 dX4_namedSpouse_43 dk_13 fl_4_21 (by decide) rfl rfl rfl ?_
    refine ev_iload_n (i := 2) 47 dX4_namedSpouse_46 rfl rfl rfl ?_
    obtain ⟨x11, S10, g12, h⟩ := rx_bd_o h
    refine ev_cVi1 50 dX4_namedSpouse_47 (em_X8_hasSpouse_19 g12) mm_X8_hasSpouse mv_X8_hasSpouse lk_4_139 dk_19 (by decide) rfl (Nat.le_of_ble_eq_true rfl) (Nat.le_of_ble_eq_true rfl) rfl ?_
    refine ev_if_ne 60 53 dX4_namedSpouse_50 rfl rfl (fun c13 => ?_) (fun c13 => ?_)
    · replace h := rx_if_f c13 h
      refine ev_aload_n (i := 0) 61 dX4_namedSpouse_60 rfl rfl rfl ?_
      refine ev_get (v := .ref 19) 64 dX4_namedSpouse_61 dk_13 fl_4_21 (by decide) rfl rfl rfl ?_
      refine ev_get (v := .ref 26) 67 dX4_namedSpouse_64 dk_19 fl_4_142 (by decide) rfl rfl rfl ?_
      refine ev_iload_n (i := 2) 68 dX4_namedSpouse_67 rfl rfl rfl ?_
      obtain ⟨g14, h⟩ := rx_gd_o h
      refine ex_iald _ 69 dX4_namedSpouse_68 dk_26 g14 rfl rfl ?_
      refine ev_bipush (v := (-2)) 71 dX4_namedSpouse_69 (by decide) rfl ?_
      refine ev_icmp_eq 79 74 dX4_namedSpouse_71 rfl rfl (fun c15 => ?_) (fun c15 => ?_)
      · replace h := rx_if_t c15 h
        refine ev_iload_n (i := 2) 80 dX4_namedSpouse_79 rfl rfl rfl ?_
        exact ev_ireturn dX4_namedSpouse_80 rfl (rx_ret_i h)
      · replace h := rx_if_f c15 h
        refine ev_aload_n (i := 0) 75 dX4_namedSpouse_74 rfl rfl rfl ?_
        refine ev_iconst (v := 3) 76 dX4_namedSpouse_75 (by decide) rfl ?_
        obtain ⟨x17, S16, g18, h⟩ := rx_bd_o h
        refine ev_cVv1 79 dX4_namedSpouse_76 (em_X4_blame g18) mm_X4_blame mv_X4_blame lk_4_80 dk_13 (by decide) rfl (Nat.le_of_ble_eq_true rfl) (Nat.le_of_ble_eq_true rfl) rfl ?_
        refine ev_iload_n (i := 2) 80 dX4_namedSpouse_79 rfl rfl rfl ?_
        exact ev_ireturn dX4_namedSpouse_80 rfl (rx_ret_i h)
    · replace h := rx_if_t c13 h
      refine ev_aload_n (i := 0) 54 dX4_namedSpouse_53 rfl rfl rfl ?_
      refine ev_iconst (v := 4) 55 dX4_namedSpouse_54 (by decide) rfl ?_
      obtain ⟨x20, S19, g21, h⟩ := rx_bd_o h
      refine ev_cVv1 58 dX4_namedSpouse_55 (em_X4_blame g21) mm_X4_blame mv_X4_blame lk_4_80 dk_13 (by decide) rfl (Nat.le_of_ble_eq_true rfl) (Nat.le_of_ble_eq_true rfl) rfl ?_
      refine ev_iconst (v := (-1)) 59 dX4_namedSpouse_58 (by decide) rfl ?_
      exact ev_ireturn dX4_namedSpouse_59 rfl (rx_ret_i h)
  obtain ⟨J40_2, eJ40_2, h⟩ := rx_let_o h
  have hJ40_2 : ∀ (S22 : rx_S), J40_2 S22 = some (zr, zS) → EV gC (d + 2) mX4_namedSpouse 40 [some (.ref 13), none, none] [] S22 (rx_pi zr zS) := by
    intro S22 h
    subst eJ40_2
    refine ev_iconst (v := (-1)) 41 dX4_namedSpouse_40 (by decide) rfl ?_
    exact (hJ41_1 _ _ h).fewer (rx_le_s (rx_le_n (rx_le_n rx_le_0)))
  refine ev_if_lt 40 22 dX4_namedSpouse_19 rfl rfl (fun c23 => ?_) (fun c23 => ?_)
  · replace h := rx_if_t c23 h
    exact (hJ40_2 _ h).fewer (rx_le_s (rx_le_n (rx_le_n rx_le_0)))
  · replace h := rx_if_f c23 h
    refine ev_iload_n (i := 1) 23 dX4_namedSpouse_22 rfl rfl rfl ?_
    refine ev_aload_n (i := 0) 24 dX4_namedSpouse_23 rfl rfl rfl ?_
    refine ev_get (v := .ref 31) 27 dX4_namedSpouse_24 dk_13 fl_4_29 (by decide) rfl rfl rfl ?_
    refine ev_alen (v := 10) 28 dX4_namedSpouse_27 dk_31 (by decide) (by decide) rfl ?_
    refine ev_icmp_ge 40 31 dX4_namedSpouse_28 rfl rfl (fun c24 => ?_) (fun c24 => ?_)
    · replace h := rx_if_t c24 h
      exact (hJ40_2 _ h).fewer (rx_le_s (rx_le_n (rx_le_n rx_le_0)))
    · replace h := rx_if_f c24 h
      refine ev_aload_n (i := 0) 32 dX4_namedSpouse_31 rfl rfl rfl ?_
      refine ev_get (v := .ref 31) 35 dX4_namedSpouse_32 dk_13 fl_4_29 (by decide) rfl rfl rfl ?_
      refine ev_iload_n (i := 1) 36 dX4_namedSpouse_35 rfl rfl rfl ?_
      obtain ⟨g25, h⟩ := rx_gd_o h
      refine ex_iald _ 37 dX4_namedSpouse_36 dk_31 g25 rfl rfl ?_
      refine ev_goto 41 dX4_namedSpouse_37 rfl ?_
      exact (hJ41_1 _ _ h).fewer (rx_le_s (rx_le_n (rx_le_n rx_le_0)))

def f_X8_addCouple (k : Nat) (x1 : Int32) (x2 : Int32) (S0 : rx_S) : Option (Unit × rx_S) := if (3 : Int32) ≤ (S0.1 k 7) then (some ((), S0)) else (rx_bd (f_X8_hasSpouse k x1 S0) (fun x6 S5 => rx_let (fun (S8 : rx_S) => rx_let (rx_ui S8 k 7 ((S8.1 k 7) + 1)) (fun S9 => some ((), S9))) (fun J70_1 => if x6 = 0 then (J70_1 S5) else (rx_bd (f_X8_hasSpouse k x2 S5) (fun x12 S11 => if x12 = 0 then (J70_1 S11) else (rx_gd ((2 : Int32) * (S11.1 k 7)) 6 (rx_let (rx_ui S11 (k + 8) (Int32.toNatClampNeg ((2 : Int32) * (S11.1 k 7))) x1) (fun S16 => rx_gd (((2 : Int32) * (S16.1 k 7)) + 1) 6 (rx_let (rx_ui S16 (k + 8) (Int32.toNatClampNeg (((2 : Int32) * (S16.1 k 7)) + 1)) x2) (fun S18 => rx_gd x1 6 (rx_let (rx_ui S18 (k + 7) (Int32.toNatClampNeg x1) (S18.1 k 7)) (fun S20 => rx_gd x2 6 (rx_let (rx_ui S20 (k + 7) (Int32.toNatClampNeg x2) (S20.1 k 7)) (fun S22 => J70_1 S22))))))))))))))
set_option maxHeartbeats 4000000 in
set_option maxRecDepth 20000 in
theorem em_X8_addCouple_2 {d : Nat} {x1 : Int32} {x2 : Int32} {S0 : rx_S} {zr : Unit} {zS : rx_S} (h : f_X8_addCouple 2 x1 x2 S0 = some (zr, zS)) : EM gC (d + 1) mX8_addCouple [.ref 2, .int x1, .int x2] S0 (rx_pv zS) := by
  unfold f_X8_addCouple at h
  show EV gC (d + 1) mX8_addCouple 0 [some (.ref 2), some (.int x1), some (.int x2)] [] S0 (rx_pv zS)
  refine ev_aload_n (i := 0) 1 dX8_addCouple_0 rfl rfl rfl ?_
  refine ev_get (v := .int (S0.1 2 7)) 4 dX8_addCouple_1 dk_2 fl_8_41 (by decide) rfl rfl rfl ?_
  refine ev_iconst (v := 3) 5 dX8_addCouple_4 (by decide) rfl ?_
  refine ev_icmp_ge 80 8 dX8_addCouple_5 rfl rfl (fun c4 => ?_) (fun c4 => ?_)
  · replace h := rx_if_t c4 h
    exact ev_return dX8_addCouple_80 rfl (rx_ret_v h)
  · replace h := rx_if_f c4 h
    refine ev_aload_n (i := 0) 9 dX8_addCouple_8 rfl rfl rfl ?_
    refine ev_iload_n (i := 1) 10 dX8_addCouple_9 rfl rfl rfl ?_
    obtain ⟨x6, S5, g7, h⟩ := rx_bd_o h
    refine ev_cVi1 13 dX8_addCouple_10 (em_X8_hasSpouse_2 g7) mm_X8_hasSpouse mv_X8_hasSpouse lk_8_63 dk_2 (by decide) rfl (Nat.le_of_ble_eq_true rfl) (Nat.le_of_ble_eq_true rfl) rfl ?_
    obtain ⟨J70_1, eJ70_1, h⟩ := rx_let_o h
    have hJ70_1 : ∀ (S8 : rx_S), J70_1 S8 = some (zr, zS) → EV gC (d + 1) mX8_addCouple 70 [some (.ref 2), none, none] [] S8 (rx_pv zS) := by
      intro S8 h
      subst eJ70_1
      refine ev_aload_n (i := 0) 71 dX8_addCouple_70 rfl rfl rfl ?_
      refine ev_dup 72 dX8_addCouple_71 rfl rfl ?_
      refine ev_get (v := .int (S8.1 2 7)) 75 dX8_addCouple_72 dk_2 fl_8_41 (by decide) rfl rfl rfl ?_
      refine ev_iconst (v := 1) 76 dX8_addCouple_75 (by decide) rfl ?_
      refine ev_iadd 77 dX8_addCouple_76 rfl ?_
      obtain ⟨S9, eS9, h⟩ := rx_let_o h
      refine ex_put 80 dX8_addCouple_77 dk_2 fl_8_41 pp_8_7 (by decide) rfl rfl rfl rfl eS9 ?_
      exact ev_return dX8_addCouple_80 rfl (rx_ret_v h)
    refine ev_if_eq 70 16 dX8_addCouple_13 rfl rfl (fun c10 => ?_) (fun c10 => ?_)
    · replace h := rx_if_t c10 h
      exact (hJ70_1 _ h).fewer (rx_le_s (rx_le_n (rx_le_n rx_le_0)))
    · replace h := rx_if_f c10 h
      refine ev_aload_n (i := 0) 17 dX8_addCouple_16 rfl rfl rfl ?_
      refine ev_iload_n (i := 2) 18 dX8_addCouple_17 rfl rfl rfl ?_
      obtain ⟨x12, S11, g13, h⟩ := rx_bd_o h
      refine ev_cVi1 21 dX8_addCouple_18 (em_X8_hasSpouse_2 g13) mm_X8_hasSpouse mv_X8_hasSpouse lk_8_63 dk_2 (by decide) rfl (Nat.le_of_ble_eq_true rfl) (Nat.le_of_ble_eq_true rfl) rfl ?_
      refine ev_if_eq 70 24 dX8_addCouple_21 rfl rfl (fun c14 => ?_) (fun c14 => ?_)
      · replace h := rx_if_t c14 h
        exact (hJ70_1 _ h).fewer (rx_le_s (rx_le_n (rx_le_n rx_le_0)))
      · replace h := rx_if_f c14 h
        refine ev_aload_n (i := 0) 25 dX8_addCouple_24 rfl rfl rfl ?_
        refine ev_get (v := .ref 10) 28 dX8_addCouple_25 dk_2 fl_8_25 (by decide) rfl rfl rfl ?_
        refine ev_iconst (v := 2) 29 dX8_addCouple_28 (by decide) rfl ?_
        refine ev_aload_n (i := 0) 30 dX8_addCouple_29 rfl rfl rfl ?_
        refine ev_get (v := .int (S11.1 2 7)) 33 dX8_addCouple_30 dk_2 fl_8_41 (by decide) rfl rfl rfl ?_
        refine ev_imul 34 dX8_addCouple_33 rfl ?_
        refine ev_iload_n (i := 1) 35 dX8_addCouple_34 rfl rfl rfl ?_
        obtain ⟨g15, h⟩ := rx_gd_o h
        obtain ⟨S16, eS16, h⟩ := rx_let_o h
        refine ex_iast _ 36 dX8_addCouple_35 dk_10 g15 rfl rfl eS16 ?_
        refine ev_aload_n (i := 0) 37 dX8_addCouple_36 rfl rfl rfl ?_
        refine ev_get (v := .ref 10) 40 dX8_addCouple_37 dk_2 fl_8_25 (by decide) rfl rfl rfl ?_
        refine ev_iconst (v := 2) 41 dX8_addCouple_40 (by decide) rfl ?_
        refine ev_aload_n (i := 0) 42 dX8_addCouple_41 rfl rfl rfl ?_
        refine ev_get (v := .int (S16.1 2 7)) 45 dX8_addCouple_42 dk_2 fl_8_41 (by decide) rfl rfl rfl ?_
        refine ev_imul 46 dX8_addCouple_45 rfl ?_
        refine ev_iconst (v := 1) 47 dX8_addCouple_46 (by decide) rfl ?_
        refine ev_iadd 48 dX8_addCouple_47 rfl ?_
        refine ev_iload_n (i := 2) 49 dX8_addCouple_48 rfl rfl rfl ?_
        obtain ⟨g17, h⟩ := rx_gd_o h
        obtain ⟨S18, eS18, h⟩ := rx_let_o h
        refine ex_iast _ 50 dX8_addCouple_49 dk_10 g17 rfl rfl eS18 ?_
        refine ev_aload_n (i := 0) 51 dX8_addCouple_50 rfl rfl rfl ?_
        refine ev_get (v := .ref 9) 54 dX8_addCouple_51 dk_2 fl_8_22 (by decide) rfl rfl rfl ?_
        refine ev_iload_n (i := 1) 55 dX8_addCouple_54 rfl rfl rfl ?_
        refine ev_aload_n (i := 0) 56 dX8_addCouple_55 rfl rfl rfl ?_
        refine ev_get (v := .int (S18.1 2 7)) 59 dX8_addCouple_56 dk_2 fl_8_41 (by decide) rfl rfl rfl ?_
        obtain ⟨g19, h⟩ := rx_gd_o h
        obtain ⟨S20, eS20, h⟩ := rx_let_o h
        refine ex_iast _ 60 dX8_addCouple_59 dk_9 g19 rfl rfl eS20 ?_
        refine ev_aload_n (i := 0) 61 dX8_addCouple_60 rfl rfl rfl ?_
        refine ev_get (v := .ref 9) 64 dX8_addCouple_61 dk_2 fl_8_22 (by decide) rfl rfl rfl ?_
        refine ev_iload_n (i := 2) 65 dX8_addCouple_64 rfl rfl rfl ?_
        refine ev_aload_n (i := 0) 66 dX8_addCouple_65 rfl rfl rfl ?_
        refine ev_get (v := .int (S20.1 2 7)) 69 dX8_addCouple_66 dk_2 fl_8_41 (by decide) rfl rfl rfl ?_
        obtain ⟨g21, h⟩ := rx_gd_o h
        obtain ⟨S22, eS22, h⟩ := rx_let_o h
        refine ex_iast _ 70 dX8_addCouple_69 dk_9 g21 rfl rfl eS22 ?_
        exact (hJ70_1 _ h).fewer (rx_le_s (rx_le_n (rx_le_n rx_le_0)))

set_option maxHeartbeats 4000000 in
set_option maxRecDepth 20000 in
theorem em_X8_addCouple_19 {d : Nat} {x1 : Int32} {x2 : Int32} {S0 : rx_S} {zr : Unit} {zS : rx_S} (h : f_X8_addCouple 19 x1 x2 S0 = some (zr, zS)) : EM gC (d + 1) mX8_addCouple [.ref 19, .int x1, .int x2] S0 (rx_pv zS) := by
  unfold f_X8_addCouple at h
  show EV gC (d + 1) mX8_addCouple 0 [some (.ref 19), some (.int x1), some (.int x2)] [] S0 (rx_pv zS)
  refine ev_aload_n (i := 0) 1 dX8_addCouple_0 rfl rfl rfl ?_
  refine ev_get (v := .int (S0.1 19 7)) 4 dX8_addCouple_1 dk_19 fl_8_41 (by decide) rfl rfl rfl ?_
  refine ev_iconst (v := 3) 5 dX8_addCouple_4 (by decide) rfl ?_
  refine ev_icmp_ge 80 8 dX8_addCouple_5 rfl rfl (fun c4 => ?_) (fun c4 => ?_)
  · replace h := rx_if_t c4 h
    exact ev_return dX8_addCouple_80 rfl (rx_ret_v h)
  · replace h := rx_if_f c4 h
    refine ev_aload_n (i := 0) 9 dX8_addCouple_8 rfl rfl rfl ?_
    refine ev_iload_n (i := 1) 10 dX8_addCouple_9 rfl rfl rfl ?_
    obtain ⟨x6, S5, g7, h⟩ := rx_bd_o h
    refine ev_cVi1 13 dX8_addCouple_10 (em_X8_hasSpouse_19 g7) mm_X8_hasSpouse mv_X8_hasSpouse lk_8_63 dk_19 (by decide) rfl (Nat.le_of_ble_eq_true rfl) (Nat.le_of_ble_eq_true rfl) rfl ?_
    obtain ⟨J70_1, eJ70_1, h⟩ := rx_let_o h
    have hJ70_1 : ∀ (S8 : rx_S), J70_1 S8 = some (zr, zS) → EV gC (d + 1) mX8_addCouple 70 [some (.ref 19), none, none] [] S8 (rx_pv zS) := by
      intro S8 h
      subst eJ70_1
      refine ev_aload_n (i := 0) 71 dX8_addCouple_70 rfl rfl rfl ?_
      refine ev_dup 72 dX8_addCouple_71 rfl rfl ?_
      refine ev_get (v := .int (S8.1 19 7)) 75 dX8_addCouple_72 dk_19 fl_8_41 (by decide) rfl rfl rfl ?_
      refine ev_iconst (v := 1) 76 dX8_addCouple_75 (by decide) rfl ?_
      refine ev_iadd 77 dX8_addCouple_76 rfl ?_
      obtain ⟨S9, eS9, h⟩ := rx_let_o h
      refine ex_put 80 dX8_addCouple_77 dk_19 fl_8_41 pp_8_7 (by decide) rfl rfl rfl rfl eS9 ?_
      exact ev_return dX8_addCouple_80 rfl (rx_ret_v h)
    refine ev_if_eq 70 16 dX8_addCouple_13 rfl rfl (fun c10 => ?_) (fun c10 => ?_)
    · replace h := rx_if_t c10 h
      exact (hJ70_1 _ h).fewer (rx_le_s (rx_le_n (rx_le_n rx_le_0)))
    · replace h := rx_if_f c10 h
      refine ev_aload_n (i := 0) 17 dX8_addCouple_16 rfl rfl rfl ?_
      refine ev_iload_n (i := 2) 18 dX8_addCouple_17 rfl rfl rfl ?_
      obtain ⟨x12, S11, g13, h⟩ := rx_bd_o h
      refine ev_cVi1 21 dX8_addCouple_18 (em_X8_hasSpouse_19 g13) mm_X8_hasSpouse mv_X8_hasSpouse lk_8_63 dk_19 (by decide) rfl (Nat.le_of_ble_eq_true rfl) (Nat.le_of_ble_eq_true rfl) rfl ?_
      refine ev_if_eq 70 24 dX8_addCouple_21 rfl rfl (fun c14 => ?_) (fun c14 => ?_)
      · replace h := rx_if_t c14 h
        exact (hJ70_1 _ h).fewer (rx_le_s (rx_le_n (rx_le_n rx_le_0)))
      · replace h := rx_if_f c14 h
        refine ev_aload_n (i := 0) 25 dX8_addCouple_24 rfl rfl rfl ?_
        refine ev_get (v := .ref 27) 28 dX8_addCouple_25 dk_19 fl_8_25 (by decide) rfl rfl rfl ?_
        refine ev_iconst (v := 2) 29 dX8_addCouple_28 (by decide) rfl ?_
        refine ev_aload_n (i := 0) 30 dX8_addCouple_29 rfl rfl rfl ?_
        refine ev_get (v := .int (S11.1 19 7)) 33 dX8_addCouple_30 dk_19 fl_8_41 (by decide) rfl rfl rfl ?_
        refine ev_imul 34 dX8_addCouple_33 rfl ?_
        refine ev_iload_n (i := 1) 35 dX8_addCouple_34 rfl rfl rfl ?_
        obtain ⟨g15, h⟩ := rx_gd_o h
        obtain ⟨S16, eS16, h⟩ := rx_let_o h
        refine ex_iast _ 36 dX8_addCouple_35 dk_27 g15 rfl rfl eS16 ?_
        refine ev_aload_n (i := 0) 37 dX8_addCouple_36 rfl rfl rfl ?_
        refine ev_get (v := .ref 27) 40 dX8_addCouple_37 dk_19 fl_8_25 (by decide) rfl rfl rfl ?_
        refine ev_iconst (v := 2) 41 dX8_addCouple_40 (by decide) rfl ?_
        refine ev_aload_n (i := 0) 42 dX8_addCouple_41 rfl rfl rfl ?_
        refine ev_get (v := .int (S16.1 19 7)) 45 dX8_addCouple_42 dk_19 fl_8_41 (by decide) rfl rfl rfl ?_
        refine ev_imul 46 dX8_addCouple_45 rfl ?_
        refine ev_iconst (v := 1) 47 dX8_addCouple_46 (by decide) rfl ?_
        refine ev_iadd 48 dX8_addCouple_47 rfl ?_
        refine ev_iload_n (i := 2) 49 dX8_addCouple_48 rfl rfl rfl ?_
        obtain ⟨g17, h⟩ := rx_gd_o h
        obtain ⟨S18, eS18, h⟩ := rx_let_o h
        refine ex_iast _ 50 dX8_addCouple_49 dk_27 g17 rfl rfl eS18 ?_
        refine ev_aload_n (i := 0) 51 dX8_addCouple_50 rfl rfl rfl ?_
        refine ev_get (v := .ref 26) 54 dX8_addCouple_51 dk_19 fl_8_22 (by decide) rfl rfl rfl ?_
        refine ev_iload_n (i := 1) 55 dX8_addCouple_54 rfl rfl rfl ?_
        refine ev_aload_n (i := 0) 56 dX8_addCouple_55 rfl rfl rfl ?_
        refine ev_get (v := .int (S18.1 19 7)) 59 dX8_addCouple_56 dk_19 fl_8_41 (by decide) rfl rfl rfl ?_
        obtain ⟨g19, h⟩ := rx_gd_o h
        obtain ⟨S20, eS20, h⟩ := rx_let_o h
        refine ex_iast _ 60 dX8_addCouple_59 dk_26 g19 rfl rfl eS20 ?_
        refine ev_aload_n (i := 0) 61 dX8_addCouple_60 rfl rfl rfl ?_
        refine ev_get (v := .ref 26) 64 dX8_addCouple_61 dk_19 fl_8_22 (by decide) rfl rfl rfl ?_
        refine ev_iload_n (i := 2) 65 dX8_addCouple_64 rfl rfl rfl ?_
        refine ev_aload_n (i := 0) 66 dX8_addCouple_65 rfl rfl rfl ?_
        refine ev_get (v := .int (S20.1 19 7)) 69 dX8_addCouple_66 dk_19 fl_8_41 (by decide) rfl rfl rfl ?_
        obtain ⟨g21, h⟩ := rx_gd_o h
        obtain ⟨S22, eS22, h⟩ := rx_let_o h
        refine ex_iast _ 70 dX8_addCouple_69 dk_26 g21 rfl rfl eS22 ?_
        exact (hJ70_1 _ h).fewer (rx_le_s (rx_le_n (rx_le_n rx_le_0)))

