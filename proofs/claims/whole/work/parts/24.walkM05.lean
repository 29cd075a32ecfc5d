def f_X11_weekGoes_L116 (N : Nat) (K169 : rx_S → Option (Unit × rx_S)) : Nat → Int32 → rx_S → Option (Unit × rx_S)
  | 0, _, _ => none
  | n + 1, x5, S6 => rx_gd (S6.1 94 18) 2 (if (S6.1 109 (Int32.toNatClampNeg (S6.1 94 18))) ≤ x5 then (K169 S6) else (rx_bd (f_X11_hiredBy N x5 S6) (fun x11 S10 => if x11 = 0 then (rx_gd ((24 : Int32) + x5) 48 (rx_bd (f_X11_held ((S10.1 127 (Int32.toNatClampNeg ((24 : Int32) + x5))) - 5) 0 99 S10) (fun x17 S16 => rx_gd ((24 : Int32) + x5) 48 (rx_let (rx_ui S16 127 (Int32.toNatClampNeg ((24 : Int32) + x5)) x17) (fun S20 => rx_let (x5 + 1) (fun x21 => f_X11_weekGoes_L116 N K169 n x21 S20)))))) else (rx_let (x5 + 1) (fun x14 => f_X11_weekGoes_L116 N K169 n x14 S10)))))
def f_X11_weekGoes_L2 (N : Nat) (K114 : rx_S → Option (Unit × rx_S)) : Nat → Int32 → rx_S → Option (Unit × rx_S)
  | 0, _, _ => none
  | n + 1, x22, S23 => rx_gd (S23.1 94 18) 2 (if (S23.1 107 (Int32.toNatClampNeg (S23.1 94 18))) ≤ x22 then (K114 S23) else (rx_gd ((15 : Int32) + x22) 48 (if (S23.1 127 (Int32.toNatClampNeg ((15 : Int32) + x22))) = 1 then (rx_let (x22 + 1) (fun x57 => f_X11_weekGoes_L2 N K114 n x57 S23)) else (rx_gd ((12 : Int32) + x22) 48 (rx_let (fun (x30 : Int32) (S31 : rx_S) => rx_bd (f_X11_partnerIn x30 0 S31) (fun x33 S32 => rx_gd x33 48 (rx_let (fun (x36 : Int32) (S37 : rx_S) => rx_gd ((15 : Int32) + x36) 48 (rx_let (rx_ui S37 127 (Int32.toNatClampNeg ((15 : Int32) + x36)) 1) (fun S39 => rx_gd ((12 : Int32) + x36) 48 (rx_let (rx_ui S39 127 (Int32.toNatClampNeg ((12 : Int32) + x36)) (-2)) (fun S41 => rx_let (x36 + 1) (fun x42 => f_X11_weekGoes_L2 N K114 n x42 S41)))))) (fun J87_4 => if (S32.1 127 (Int32.toNatClampNeg x33)) ≤ 0 then (J87_4 x30 S32) else (rx_bd (f_X11_partnerIn x30 1 S32) (fun x45 S44 => rx_gd x45 48 (if (S44.1 127 (Int32.toNatClampNeg x45)) ≤ 0 then (J87_4 x30 S44) else (rx_let (x30 + 1) (fun x49 => f_X11_weekGoes_L2 N K114 n x49 S44))))))))) (fun J56_3 => if (S23.1 127 (Int32.toNatClampNeg ((12 : Int32) + x22))) < 0 then (rx_bd (f_X11_staysSilent N x22 S23) (fun x52 S51 => J56_3 x22 S51)) else (rx_bd (f_X11_talks N x22 S23) (fun x55 S54 => J56_3 x22 S54))))))))
def f_X11_weekGoes (N : Nat) (S0 : rx_S) : Option (Unit × rx_S) := rx_let (fun (S2 : rx_S) => rx_let (fun (S3 : rx_S) => rx_let (rx_ui S3 127 44 ((S3.1 127 44) + 1)) (fun S4 => some ((), S4))) (fun J169_2 => f_X11_weekGoes_L116 N J169_2 N 0 S2)) (fun J114_1 => f_X11_weekGoes_L2 N J114_1 N 0 S0)
set_option maxHeartbeats 4000000 in
set_option maxRecDepth 20000 in
theorem em_X11_weekGoes_L116 {d N : Nat} {K169 : rx_S → Option (Unit × rx_S)} {zr : Unit} {zS : rx_S} (hK169 : ∀ (S7 : rx_S), K169 S7 = some (zr, zS) → EV gM (d + 6) mX11_weekGoes 169 [some (.ref 94), none] [] S7 (rx_pv zS)) : ∀ (n : Nat) (x5 : Int32) (S6 : rx_S), f_X11_weekGoes_L116 N K169 n x5 S6 = some (zr, zS) → EV gM (d + 6) mX11_weekGoes 116 [some (.ref 94), some (.int x5)] [] S6 (rx_pv zS) := by
  intro n
  induction n with
  | zero => intro x5 S6 h; cases h
  | succ n ih =>
    intro x5 S6 h
    rw [f_X11_weekGoes_L116] at h
    refine ev_iload_n (i := 1) 117 dX11_weekGoes_116 rfl rfl rfl ?_
    refine ev_aload_n (i := 0) 118 dX11_weekGoes_117 rfl rfl rfl ?_
    refine ev_get (v := .ref 109) 121 dX11_weekGoes_118 dk_94 fl_11_61 (by decide) rfl rfl rfl ?_
    refine ev_aload_n (i := 0) 122 dX11_weekGoes_121 rfl rfl rfl ?_
    refine ev_get (v := .int (S6.1 94 18)) 125 dX11_weekGoes_122 dk_94 fl_11_233 (by decide) rfl rfl rfl ?_
    obtain ⟨g8, h⟩ := rx_gd_o h
    refine ex_iald _ 126 dX11_weekGoes_125 dk_109 g8 rfl rfl ?_
    refine ev_icmp_ge 169 129 dX11_weekGoes_126 rfl rfl (fun c9 => ?_) (fun c9 => ?_)
    · replace h := rx_if_t c9 h
      exact (hK169 _ h).fewer (rx_le_s (rx_le_n rx_le_0))
    · replace h := rx_if_f c9 h
      refine ev_aload_n (i := 0) 130 dX11_weekGoes_129 rfl rfl rfl ?_
      refine ev_iload_n (i := 1) 131 dX11_weekGoes_130 rfl rfl rfl ?_
      obtain ⟨x11, S10, g12, h⟩ := rx_bd_o h
      refine ev_cVi1 134 dX11_weekGoes_131 (em_X11_hiredBy g12) mm_X11_hiredBy mv_X11_hiredBy lk_11_387 dk_94 (by decide) rfl (Nat.le_of_ble_eq_true rfl) (Nat.le_of_ble_eq_true rfl) rfl ?_
      refine ev_if_ne 163 137 dX11_weekGoes_134 rfl rfl (fun c13 => ?_) (fun c13 => ?_)
      · replace h := rx_if_f c13 h
        obtain ⟨x14, ex14, h⟩ := rx_let_o h
        refine ev_iinc (v := x14) (ls' := [some (.ref 94), some (.int x14)]) 166 dX11_weekGoes_163 rfl (by rw [ex14]; rfl) (Nat.le_of_ble_eq_true rfl) rfl rfl ?_
        refine ev_goto 116 dX11_weekGoes_166 rfl ?_
        exact (ih _ _ h).fewer (rx_le_s (rx_le_s rx_le_0))
      · replace h := rx_if_t c13 h
        refine ev_aload_n (i := 0) 138 dX11_weekGoes_137 rfl rfl rfl ?_
        refine ev_get (v := .ref 127) 141 dX11_weekGoes_138 dk_94 fl_11_116 (by decide) rfl rfl rfl ?_
        refine ev_bipush (v := 24) 143 dX11_weekGoes_141 (by decide) rfl ?_
        refine ev_iload_n (i := 1) 144 dX11_weekGoes_143 rfl rfl rfl ?_
        refine ev_iadd 145 dX11_weekGoes_144 rfl ?_
        refine ev_aload_n (i := 0) 146 dX11_weekGoes_145 rfl rfl rfl ?_
        refine ev_get (v := .ref 127) 149 dX11_weekGoes_146 dk_94 fl_11_116 (by decide) rfl rfl rfl ?_
        refine ev_bipush (v := 24) 151 dX11_weekGoes_149 (by decide) rfl ?_
        refine ev_iload_n (i := 1) 152 dX11_weekGoes_151 rfl rfl rfl ?_
        refine ev_iadd 153 dX11_weekGoes_152 rfl ?_
        obtain ⟨g15, h⟩ := rx_gd_o h
        refine ex_iald _ 154 dX11_weekGoes_153 dk_127 g15 rfl rfl ?_
        refine ev_iconst (v := 5) 155 dX11_weekGoes_154 (by decide) rfl ?_
        refine ev_isub 156 dX11_weekGoes_155 rfl ?_
        refine ev_iconst (v := 0) 157 dX11_weekGoes_156 (by decide) rfl ?_
        refine ev_bipush (v := 99) 159 dX11_weekGoes_157 (by decide) rfl ?_
        obtain ⟨x17, S16, g18, h⟩ := rx_bd_o h
        refine ev_cSi3 162 dX11_weekGoes_159 (em_X11_held g18) mm_X11_held ms_X11_held lk_11_342 (Nat.le_of_ble_eq_true rfl) (Nat.le_of_ble_eq_true rfl) rfl ?_
        obtain ⟨g19, h⟩ := rx_gd_o h
        obtain ⟨S20, eS20, h⟩ := rx_let_o h
        refine ex_iast _ 163 dX11_weekGoes_162 dk_127 g19 rfl rfl eS20 ?_
        obtain ⟨x21, ex21, h⟩ := rx_let_o h
        refine ev_iinc (v := x21) (ls' := [some (.ref 94), some (.int x21)]) 166 dX11_weekGoes_163 rfl (by rw [ex21]; rfl) (Nat.le_of_ble_eq_true rfl) rfl rfl ?_
        refine ev_goto 116 dX11_weekGoes_166 rfl ?_
        exact (ih _ _ h).fewer (rx_le_s (rx_le_s rx_le_0))

set_option maxHeartbeats 4000000 in
set_option maxRecDepth 20000 in
theorem em_X11_weekGoes_L2 {d N : Nat} {K114 : rx_S → Option (Unit × rx_S)} {zr : Unit} {zS : rx_S} (hK114 : ∀ (S24 : rx_S), K114 S24 = some (zr, zS) → EV gM (d + 6) mX11_weekGoes 114 [some (.ref 94), none] [] S24 (rx_pv zS)) : ∀ (n : Nat) (x22 : Int32) (S23 : rx_S), f_X11_weekGoes_L2 N K114 n x22 S23 = some (zr, zS) → EV gM (d + 6) mX11_weekGoes 2 [some (.ref 94), some (.int x22)] [] S23 (rx_pv zS) := by
  intro n
  induction n with
  | zero => intro x22 S23 h; cases h
  | succ n ih =>
    intro x22 S23 h
    rw [f_X11_weekGoes_L2] at h
    refine ev_iload_n (i := 1) 3 dX11_weekGoes_2 rfl rfl rfl ?_
    refine ev_aload_n (i := 0) 4 dX11_weekGoes_3 rfl rfl rfl ?_
    refine ev_get (v := .ref 107) 7 dX11_weekGoes_4 dk_94 fl_11_55 (by decide) rfl rfl rfl ?_
    refine ev_aload_n (i := 0) 8 dX11_weekGoes_7 rfl rfl rfl ?_
    refine ev_get (v := .int (S23.1 94 18)) 11 dX11_weekGoes_8 dk_94 fl_11_233 (by decide) rfl rfl rfl ?_
    obtain ⟨g25, h⟩ := rx_gd_o h
    refine ex_iald _ 12 dX11_weekGoes_11 dk_107 g25 rfl rfl ?_
    refine ev_icmp_ge 114 15 dX11_weekGoes_12 rfl rfl (fun c26 => ?_) (fun c26 => ?_)
    · replace h := rx_if_t c26 h
      exact (hK114 _ h).fewer (rx_le_s (rx_le_n rx_le_0))
    · replace h := rx_if_f c26 h
      refine ev_aload_n (i := 0) 16 dX11_weekGoes_15 rfl rfl rfl ?_
      refine ev_get (v := .ref 127) 19 dX11_weekGoes_16 dk_94 fl_11_116 (by decide) rfl rfl rfl ?_
      refine ev_bipush (v := 15) 21 dX11_weekGoes_19 (by decide) rfl ?_
      refine ev_iload_n (i := 1) 22 dX11_weekGoes_21 rfl rfl rfl ?_
      refine ev_iadd 23 dX11_weekGoes_22 rfl ?_
      obtain ⟨g27, h⟩ := rx_gd_o h
      refine ex_iald _ 24 dX11_weekGoes_23 dk_127 g27 rfl rfl ?_
      refine ev_iconst (v := 1) 25 dX11_weekGoes_24 (by decide) rfl ?_
      refine ev_icmp_ne 31 28 dX11_weekGoes_25 rfl rfl (fun c28 => ?_) (fun c28 => ?_)
      · replace h := rx_if_f c28 h
        refine ev_aload_n (i := 0) 32 dX11_weekGoes_31 rfl rfl rfl ?_
        refine ev_get (v := .ref 127) 35 dX11_weekGoes_32 dk_94 fl_11_116 (by decide) rfl rfl rfl ?_
        refine ev_bipush (v := 12) 37 dX11_weekGoes_35 (by decide) rfl ?_
        refine ev_iload_n (i := 1) 38 dX11_weekGoes_37 rfl rfl rfl ?_
        refine ev_iadd 39 dX11_weekGoes_38 rfl ?_
        obtain ⟨g29, h⟩ := rx_gd_o h
        refine ex_iald _ 40 dX11_weekGoes_39 dk_127 g29 rfl rfl ?_
        obtain ⟨J56_3, eJ56_3, h⟩ := rx_let_o h
        have hJ56_3 : ∀ (x30 : Int32) (S31 : rx_S), J56_3 x30 S31 = some (zr, zS) → EV gM (d + 6) mX11_weekGoes 56 [some (.ref 94), some (.int x30)] [] S31 (rx_pv zS) := by
          intro x30 S31 h
          subst eJ56_3
          refine ev_aload_n (i := 0) 57 dX11_weekGoes_56 rfl rfl rfl ?_
          refine ev_get (v := .ref 127) 60 dX11_weekGoes_57 dk_94 fl_11_116 (by decide) rfl rfl rfl ?_
          refine ev_aload_n (i := 0) 61 dX11_weekGoes_60 rfl rfl rfl ?_
          refine ev_iload_n (i := 1) 62 dX11_weekGoes_61 rfl rfl rfl ?_
          refine ev_iconst (v := 0) 63 dX11_weekGoes_62 (by decide) rfl ?_
          obtain ⟨x33, S32, g34, h⟩ := rx_bd_o h
          refine ev_cVi2 66 dX11_weekGoes_63 (em_X11_partnerIn g34) mm_X11_partnerIn mv_X11_partnerIn lk_11_366 dk_94 (by decide) rfl (Nat.le_of_ble_eq_true rfl) (Nat.le_of_ble_eq_true rfl) rfl ?_
          obtain ⟨g35, h⟩ := rx_gd_o h
          refine ex_iald _ 67 dX11_weekGoes_66 dk_127 g35 rfl rfl ?_
          obtain ⟨J87_4, eJ87_4, h⟩ := rx_let_o h
          have hJ87_4 : ∀ (x36 : Int32) (S37 : rx_S), J87_4 x36 S37 = some (zr, zS) → EV gM (d + 6) mX11_weekGoes 87 [some (.ref 94), some (.int x36)] [] S37 (rx_pv zS) := by
            intro x36 S37 h
            subst eJ87_4
            refine ev_aload_n (i := 0) 88 dX11_weekGoes_87 rfl rfl rfl ?_
            refine ev_get (v := .ref 127) 91 dX11_weekGoes_88 dk_94 fl_11_116 (by decide) rfl rfl rfl ?_
            refine ev_bipush (v := 15) 93 dX11_weekGoes_91 (by decide) rfl ?_
            refine ev_iload_n (i := 1) 94 dX11_weekGoes_93 rfl rfl rfl ?_
            refine ev_iadd 95 dX11_weekGoes_94 rfl ?_
            refine ev_iconst (v := 1) 96 dX11_weekGoes_95 (by decide) rfl ?_
            obtain ⟨g38, h⟩ := rx_gd_o h
            obtain ⟨S39, eS39, h⟩ := rx_let_o h
            refine ex_iast _ 97 dX11_weekGoes_96 dk_127 g38 rfl rfl eS39 ?_
            refine ev_aload_n (i := 0) 98 dX11_weekGoes_97 rfl rfl rfl ?_
            refine ev_get (v := .ref 127) 101 dX11_weekGoes_98 dk_94 fl_11_116 (by decide) rfl rfl rfl ?_
            refine ev_bipush (v := 12) 103 dX11_weekGoes_101 (by decide) rfl ?_
            refine ev_iload_n (i := 1) 104 dX11_weekGoes_103 rfl rfl rfl ?_
            refine ev_iadd 105 dX11_weekGoes_104 rfl ?_
            refine ev_bipush (v := (-2)) 107 dX11_weekGoes_105 (by decide) rfl ?_
            obtain ⟨g40, h⟩ := rx_gd_o h
            obtain ⟨S41, eS41, h⟩ := rx_let_o h
            refine ex_iast _ 108 dX11_weekGoes_107 dk_127 g40 rfl rfl eS41 ?_
            obtain ⟨x42, ex42, h⟩ := rx_let_o h
            refine ev_iinc (v := x42) (ls' := [some (.ref 94), some (.int x42)]) 111 dX11_weekGoes_108 rfl (by rw [ex42]; rfl) (Nat.le_of_ble_eq_true rfl) rfl rfl ?_
            refine ev_goto 2 dX11_weekGoes_111 rfl ?_
            exact (ih _ _ h).fewer (rx_le_s (rx_le_s rx_le_0))
          refine ev_if_le 87 70 dX11_weekGoes_67 rfl rfl (fun c43 => ?_) (fun c43 => ?_)
          · replace h := rx_if_t c43 h
            exact (hJ87_4 _ _ h).fewer (rx_le_s (rx_le_s rx_le_0))
          · replace h := rx_if_f c43 h
            refine ev_aload_n (i := 0) 71 dX11_weekGoes_70 rfl rfl rfl ?_
            refine ev_get (v := .ref 127) 74 dX11_weekGoes_71 dk_94 fl_11_116 (by decide) rfl rfl rfl ?_
            refine ev_aload_n (i := 0) 75 dX11_weekGoes_74 rfl rfl rfl ?_
            refine ev_iload_n (i := 1) 76 dX11_weekGoes_75 rfl rfl rfl ?_
            refine ev_iconst (v := 1) 77 dX11_weekGoes_76 (by decide) rfl ?_
            obtain ⟨x45, S44, g46, h⟩ := rx_bd_o h
            refine ev_cVi2 80 dX11_weekGoes_77 (em_X11_partnerIn g46) mm_X11_partnerIn mv_X11_partnerIn lk_11_366 dk_94 (by decide) rfl (Nat.le_of_ble_eq_true rfl) (Nat.le_of_ble_eq_true rfl) rfl ?_
            obtain ⟨g47, h⟩ := rx_gd_o h
            refine ex_iald _ 81 dX11_weekGoes_80 dk_127 g47 rfl rfl ?_
            refine ev_if_le 87 84 dX11_weekGoes_81 rfl rfl (fun c48 => ?_) (fun c48 => ?_)
            · replace h := rx_if_t c48 h
              exact (hJ87_4 _ _ h).fewer (rx_le_s (rx_le_s rx_le_0))
            · replace h := rx_if_f c48 h
              refine ev_goto 108 dX11_weekGoes_84 rfl ?_
              obtain ⟨x49, ex49, h⟩ := rx_let_o h
              refine ev_iinc (v := x49) (ls' := [some (.ref 94), some (.int x49)]) 111 dX11_weekGoes_108 rfl (by rw [ex49]; rfl) (Nat.le_of_ble_eq_true rfl) rfl rfl ?_
              refine ev_goto 2 dX11_weekGoes_111 rfl ?_
              exact (ih _ _ h).fewer (rx_le_s (rx_le_s rx_le_0))
        refine ev_if_lt 51 43 dX11_weekGoes_40 rfl rfl (fun c50 => ?_) (fun c50 => ?_)
        · replace h := rx_if_t c50 h
          refine ev_aload_n (i := 0) 52 dX11_weekGoes_51 rfl rfl rfl ?_
          refine ev_iload_n (i := 1) 53 dX11_weekGoes_52 rfl rfl rfl ?_
          obtain ⟨x52, S51, g53, h⟩ := rx_bd_o h
          refine ev_cVv1 56 dX11_weekGoes_53 (em_X11_staysSilent g53) mm_X11_staysSilent mv_X11_staysSilent lk_11_384 dk_94 (by decide) rfl (Nat.le_of_ble_eq_true rfl) (Nat.le_of_ble_eq_true rfl) rfl ?_
          exact (hJ56_3 _ _ h).fewer (rx_le_s (rx_le_s rx_le_0))
        · replace h := rx_if_f c50 h
          refine ev_aload_n (i := 0) 44 dX11_weekGoes_43 rfl rfl rfl ?_
          refine ev_iload_n (i := 1) 45 dX11_weekGoes_44 rfl rfl rfl ?_
          obtain ⟨x55, S54, g56, h⟩ := rx_bd_o h
          refine ev_cVv1 48 dX11_weekGoes_45 (em_X11_talks g56) mm_X11_talks mv_X11_talks lk_11_381 dk_94 (by decide) rfl (Nat.le_of_ble_eq_true rfl) (Nat.le_of_ble_eq_true rfl) rfl ?_
          refine ev_goto 56 dX11_weekGoes_48 rfl ?_
          exact (hJ56_3 _ _ h).fewer (rx_le_s (rx_le_s rx_le_0))
      · replace h := rx_if_t c28 h
        refine ev_goto 108 dX11_weekGoes_28 rfl ?_
        obtain ⟨x57, ex57, h⟩ := rx_let_o h
        refine ev_iinc (v := x57) (ls' := [some (.ref 94), some (.int x57)]) 111 dX11_weekGoes_108 rfl (by rw [ex57]; rfl) (Nat.le_of_ble_eq_true rfl) rfl rfl ?_
        refine ev_goto 2 dX11_weekGoes_111 rfl ?_
        exact (ih _ _ h).fewer (rx_le_s (rx_le_s rx_le_0))

set_option maxHeartbeats 4000000 in
set_option maxRecDepth 20000 in
theorem em_X11_weekGoes {d N : Nat} {S0 : rx_S} {zr : Unit} {zS : rx_S} (h : f_X11_weekGoes N S0 = some (zr, zS)) : EM gM (d + 6) mX11_weekGoes [.ref 94] S0 (rx_pv zS) := by
  unfold f_X11_weekGoes at h
  show EV gM (d + 6) mX11_weekGoes 0 [some (.ref 94), none] [] S0 (rx_pv zS)
  refine ev_iconst (v := 0) 1 dX11_weekGoes_0 (by decide) rfl ?_
  refine ev_istore_n (ls' := [some (.ref 94), some (.int 0)]) 2 dX11_weekGoes_1 rfl (Nat.le_of_ble_eq_true rfl) rfl rfl ?_
  obtain ⟨J114_1, eJ114_1, h⟩ := rx_let_o h
  have hJ114_1 : ∀ (S2 : rx_S), J114_1 S2 = some (zr, zS) → EV gM (d + 6) mX11_weekGoes 114 [some (.ref 94), none] [] S2 (rx_pv zS) := by
    intro S2 h
    subst eJ114_1
    refine ev_iconst (v := 0) 115 dX11_weekGoes_114 (by decide) rfl ?_
    refine ev_istore_n (ls' := [some (.ref 94), some (.int 0)]) 116 dX11_weekGoes_115 rfl (Nat.le_of_ble_eq_true rfl) rfl rfl ?_
    obtain ⟨J169_2, eJ169_2, h⟩ := rx_let_o h
    have hJ169_2 : ∀ (S3 : rx_S), J169_2 S3 = some (zr, zS) → EV gM (d + 6) mX11_weekGoes 169 [some (.ref 94), none] [] S3 (rx_pv zS) := by
      intro S3 h
      subst eJ169_2
      refine ev_aload_n (i := 0) 170 dX11_weekGoes_169 rfl rfl rfl ?_
      refine ev_get (v := .ref 127) 173 dX11_weekGoes_170 dk_94 fl_11_116 (by decide) rfl rfl rfl ?_
      refine ev_bipush (v := 44) 175 dX11_weekGoes_173 (by decide) rfl ?_
      refine ev_dup2 176 dX11_weekGoes_175 rfl rfl rfl ?_
      refine ex_iald 44 177 dX11_weekGoes_176 dk_127 (rx_vin (by decide)) (by decide) rfl ?_
      refine ev_iconst (v := 1) 178 dX11_weekGoes_177 (by decide) rfl ?_
      refine ev_iadd 179 dX11_weekGoes_178 rfl ?_
      obtain ⟨S4, eS4, h⟩ := rx_let_o h
      refine ex_iast 44 180 dX11_weekGoes_179 dk_127 (rx_vin (by decide)) (by decide) rfl eS4 ?_
      exact ev_return dX11_weekGoes_180 rfl (rx_ret_v h)
    exact (em_X11_weekGoes_L116 hJ169_2 _ _ _ h).fewer (rx_le_s (rx_le_s rx_le_0))
  exact (em_X11_weekGoes_L2 hJ114_1 _ _ _ h).fewer (rx_le_s (rx_le_s rx_le_0))

def f_X11_goes_L2 (N : Nat) : Nat → Int32 → Int32 → rx_S → Option (Unit × rx_S)
  | 0, _, _, _ => none
  | n + 1, x3, x4, S5 => if x3 ≤ x4 then (some ((), S5)) else (rx_bd (f_X11_weekGoes N S5) (fun x8 S7 => rx_let (x4 + 1) (fun x10 => f_X11_goes_L2 N n x3 x10 S7)))
def f_X11_goes (N : Nat) (x1 : Int32) (S0 : rx_S) : Option (Unit × rx_S) := f_X11_goes_L2 N N x1 0 S0
set_option maxHeartbeats 4000000 in
set_option maxRecDepth 20000 in
theorem em_X11_goes_L2 {d N : Nat} {zr : Unit} {zS : rx_S} : ∀ (n : Nat) (x3 : Int32) (x4 : Int32) (S5 : rx_S), f_X11_goes_L2 N n x3 x4 S5 = some (zr, zS) → EV gM (d + 7) mX11_goes 2 [some (.ref 94), some (.int x3), some (.int x4)] [] S5 (rx_pv zS) := by
  intro n
  induction n with
  | zero => intro x3 x4 S5 h; cases h
  | succ n ih =>
    intro x3 x4 S5 h
    rw [f_X11_goes_L2] at h
    refine ev_iload_n (i := 2) 3 dX11_goes_2 rfl rfl rfl ?_
    refine ev_iload_n (i := 1) 4 dX11_goes_3 rfl rfl rfl ?_
    refine ev_icmp_ge 17 7 dX11_goes_4 rfl rfl (fun c6 => ?_) (fun c6 => ?_)
    · replace h := rx_if_t c6 h
      exact ev_return dX11_goes_17 rfl (rx_ret_v h)
    · replace h := rx_if_f c6 h
      refine ev_aload_n (i := 0) 8 dX11_goes_7 rfl rfl rfl ?_
      obtain ⟨x8, S7, g9, h⟩ := rx_bd_o h
      refine ev_cVv0 11 dX11_goes_8 (em_X11_weekGoes g9) mm_X11_weekGoes mv_X11_weekGoes lk_11_390 dk_94 (by decide) rfl (Nat.le_of_ble_eq_true rfl) (Nat.le_of_ble_eq_true rfl) rfl ?_
      obtain ⟨x10, ex10, h⟩ := rx_let_o h
      refine ev_iinc (v := x10) (ls' := [some (.ref 94), some (.int x3), some (.int x10)]) 14 dX11_goes_11 rfl (by rw [ex10]; rfl) (Nat.le_of_ble_eq_true rfl) rfl rfl ?_
      refine ev_goto 2 dX11_goes_14 rfl ?_
      exact (ih _ _ _ h).fewer (rx_le_s (rx_le_s (rx_le_s rx_le_0)))

set_option maxHeartbeats 4000000 in
set_option maxRecDepth 20000 in
theorem em_X11_goes {d N : Nat} {x1 : Int32} {S0 : rx_S} {zr : Unit} {zS : rx_S} (h : f_X11_goes N x1 S0 = some (zr, zS)) : EM gM (d + 7) mX11_goes [.ref 94, .int x1] S0 (rx_pv zS) := by
  unfold f_X11_goes at h
  show EV gM (d + 7) mX11_goes 0 [some (.ref 94), some (.int x1), none] [] S0 (rx_pv zS)
  refine ev_iconst (v := 0) 1 dX11_goes_0 (by decide) rfl ?_
  refine ev_istore_n (ls' := [some (.ref 94), some (.int x1), some (.int 0)]) 2 dX11_goes_1 rfl (Nat.le_of_ble_eq_true rfl) rfl rfl ?_
  exact (em_X11_goes_L2 _ _ _ _ h).fewer (rx_le_s (rx_le_s (rx_le_s rx_le_0)))

def f_X11_spouse (N : Nat) (x1 : Int32) (x2 : Int32) (S0 : rx_S) : Option (Int32 × rx_S) := rx_bd (f_X11_isSpouse x1 S0) (fun x5 S4 => if x5 = 0 then (some ((-1), S4)) else (rx_bd (f_X11_copies N S4) (fun x9 S8 => if x2 = 0 then (rx_gd x1 48 (some ((S8.1 127 (Int32.toNatClampNeg x1)), S8))) else (if x2 = 1 then (rx_gd (((6 : Int32) * (S8.1 94 18)) + x1) 12 (some ((S8.1 106 (Int32.toNatClampNeg (((6 : Int32) * (S8.1 94 18)) + x1))), S8))) else (if x2 = 2 then (rx_bd (f_X11_saidBy N x1 S8) (fun x17 S16 => some (x17, S16))) else (if x2 = 3 then (rx_gd ((6 : Int32) + x1) 48 (some ((S8.1 127 (Int32.toNatClampNeg ((6 : Int32) + x1))), S8))) else (some ((-1), S8))))))))
set_option maxHeartbeats 4000000 in
set_option maxRecDepth 20000 in
theorem em_X11_spouse {d N : Nat} {x1 : Int32} {x2 : Int32} {S0 : rx_S} {zr : Int32} {zS : rx_S} (h : f_X11_spouse N x1 x2 S0 = some (zr, zS)) : EM gM (d + 3) mX11_spouse [.ref 94, .int x1, .int x2] S0 (rx_pi zr zS) := by
  unfold f_X11_spouse at h
  show EV gM (d + 3) mX11_spouse 0 [some (.ref 94), some (.int x1), some (.int x2)] [] S0 (rx_pi zr zS)
  refine ev_aload_n (i := 0) 1 dX11_spouse_0 rfl rfl rfl ?_
  refine ev_iload_n (i := 1) 2 dX11_spouse_1 rfl rfl rfl ?_
  obtain ⟨x5, S4, g6, h⟩ := rx_bd_o h
  refine ev_cVi1 5 dX11_spouse_2 (em_X11_isSpouse g6) mm_X11_isSpouse mv_X11_isSpouse lk_11_393 dk_94 (by decide) rfl (Nat.le_of_ble_eq_true rfl) (Nat.le_of_ble_eq_true rfl) rfl ?_
  refine ev_if_ne 10 8 dX11_spouse_5 rfl rfl (fun c7 => ?_) (fun c7 => ?_)
  · replace h := rx_if_f c7 h
    refine ev_aload_n (i := 0) 11 dX11_spouse_10 rfl rfl rfl ?_
    obtain ⟨x9, S8, g10, h⟩ := rx_bd_o h
    refine ev_cVv0 14 dX11_spouse_11 (em_X11_copies g10) mm_X11_copies mv_X11_copies lk_11_396 dk_94 (by decide) rfl (Nat.le_of_ble_eq_true rfl) (Nat.le_of_ble_eq_true rfl) rfl ?_
    refine ev_iload_n (i := 2) 15 dX11_spouse_14 rfl rfl rfl ?_
    by_cases c11 : x2 = 0
    · replace h := rx_if_t c11 h
      refine ev_tableIn 44 dX11_spouse_15 (by rw [c11]; decide) (by rw [c11]; decide) (off := 29) (by rw [c11]; rfl) rfl ?_
      refine ev_aload_n (i := 0) 45 dX11_spouse_44 rfl rfl rfl ?_
      refine ev_get (v := .ref 127) 48 dX11_spouse_45 dk_94 fl_11_116 (by decide) rfl rfl rfl ?_
      refine ev_iload_n (i := 1) 49 dX11_spouse_48 rfl rfl rfl ?_
      obtain ⟨g12, h⟩ := rx_gd_o h
      refine ex_iald _ 50 dX11_spouse_49 dk_127 g12 rfl rfl ?_
      exact ev_ireturn dX11_spouse_50 rfl (rx_ret_i h)
    · replace h := rx_if_f c11 h
      by_cases c13 : x2 = 1
      · replace h := rx_if_t c13 h
        refine ev_tableIn 51 dX11_spouse_15 (by rw [c13]; decide) (by rw [c13]; decide) (off := 36) (by rw [c13]; rfl) rfl ?_
        refine ev_aload_n (i := 0) 52 dX11_spouse_51 rfl rfl rfl ?_
        refine ev_get (v := .ref 106) 55 dX11_spouse_52 dk_94 fl_11_52 (by decide) rfl rfl rfl ?_
        refine ev_bipush (v := 6) 57 dX11_spouse_55 (by decide) rfl ?_
        refine ev_aload_n (i := 0) 58 dX11_spouse_57 rfl rfl rfl ?_
        refine ev_get (v := .int (S8.1 94 18)) 61 dX11_spouse_58 dk_94 fl_11_233 (by decide) rfl rfl rfl ?_
        refine ev_imul 62 dX11_spouse_61 rfl ?_
        refine ev_iload_n (i := 1) 63 dX11_spouse_62 rfl rfl rfl ?_
        refine ev_iadd 64 dX11_spouse_63 rfl ?_
        obtain ⟨g14, h⟩ := rx_gd_o h
        refine ex_iald _ 65 dX11_spouse_64 dk_106 g14 rfl rfl ?_
        exact ev_ireturn dX11_spouse_65 rfl (rx_ret_i h)
      · replace h := rx_if_f c13 h
        by_cases c15 : x2 = 2
        · replace h := rx_if_t c15 h
          refine ev_tableIn 66 dX11_spouse_15 (by rw [c15]; decide) (by rw [c15]; decide) (off := 51) (by rw [c15]; rfl) rfl ?_
          refine ev_aload_n (i := 0) 67 dX11_spouse_66 rfl rfl rfl ?_
          refine ev_iload_n (i := 1) 68 dX11_spouse_67 rfl rfl rfl ?_
          obtain ⟨x17, S16, g18, h⟩ := rx_bd_o h
          refine ev_cVi1 71 dX11_spouse_68 (em_X11_saidBy g18) mm_X11_saidBy mv_X11_saidBy lk_11_372 dk_94 (by decide) rfl (Nat.le_of_ble_eq_true rfl) (Nat.le_of_ble_eq_true rfl) rfl ?_
          exact ev_ireturn dX11_spouse_71 rfl (rx_ret_i h)
        · replace h := rx_if_f c15 h
          by_cases c19 : x2 = 3
          · replace h := rx_if_t c19 h
            refine ev_tableIn 72 dX11_spouse_15 (by rw [c19]; decide) (by rw [c19]; decide) (off := 57) (by rw [c19]; rfl) rfl ?_
            refine ev_aload_n (i := 0) 73 dX11_spouse_72 rfl rfl rfl ?_
            refine ev_get (v := .ref 127) 76 dX11_spouse_73 dk_94 fl_11_116 (by decide) rfl rfl rfl ?_
            refine ev_bipush (v := 6) 78 dX11_spouse_76 (by decide) rfl ?_
            refine ev_iload_n (i := 1) 79 dX11_spouse_78 rfl rfl rfl ?_
            refine ev_iadd 80 dX11_spouse_79 rfl ?_
            obtain ⟨g20, h⟩ := rx_gd_o h
            refine ex_iald _ 81 dX11_spouse_80 dk_127 g20 rfl rfl ?_
            exact ev_ireturn dX11_spouse_81 rfl (rx_ret_i h)
          · replace h := rx_if_f c19 h
            refine ev_tableOut 82 dX11_spouse_15 (by have q0 := rx_ne c11 (z := 0) (by decide); have q1 := rx_ne c13 (z := 1) (by decide); have q2 := rx_ne c15 (z := 2) (by decide); have q3 := rx_ne c19 (z := 3) (by decide); omega) rfl ?_
            refine ev_iconst (v := (-1)) 83 dX11_spouse_82 (by decide) rfl ?_
            exact ev_ireturn dX11_spouse_83 rfl (rx_ret_i h)
  · replace h := rx_if_t c7 h
    refine ev_iconst (v := (-1)) 9 dX11_spouse_8 (by decide) rfl ?_
    exact ev_ireturn dX11_spouse_9 rfl (rx_ret_i h)

def f_X11_couple (x1 : Int32) (x2 : Int32) (S0 : rx_S) : Option (Int32 × rx_S) := rx_bd (f_X11_isCouple x1 S0) (fun x5 S4 => if x5 = 0 then (some ((-1), S4)) else (rx_bd (f_X11_in x2 0 5 S4) (fun x9 S8 => if x9 = 0 then (some ((-1), S8)) else (if (2 : Int32) ≤ x2 then (rx_gd (((6 : Int32) + ((3 : Int32) * x2)) + x1) 48 (some ((S8.1 126 (Int32.toNatClampNeg (((6 : Int32) + ((3 : Int32) * x2)) + x1))), S8))) else (rx_bd (f_X11_partnerIn x1 x2 S8) (fun x15 S14 => some (x15, S14)))))))
set_option maxHeartbeats 4000000 in
set_option maxRecDepth 20000 in
theorem em_X11_couple {d : Nat} {x1 : Int32} {x2 : Int32} {S0 : rx_S} {zr : Int32} {zS : rx_S} (h : f_X11_couple x1 x2 S0 = some (zr, zS)) : EM gM (d + 2) mX11_couple [.ref 94, .int x1, .int x2] S0 (rx_pi zr zS) := by
  unfold f_X11_couple at h
  show EV gM (d + 2) mX11_couple 0 [some (.ref 94), some (.int x1), some (.int x2)] [] S0 (rx_pi zr zS)
  refine ev_aload_n (i := 0) 1 dX11_couple_0 rfl rfl rfl ?_
  refine ev_iload_n (i := 1) 2 dX11_couple_1 rfl rfl rfl ?_
  obtain ⟨x5, S4, g6, h⟩ := rx_bd_o h
  refine ev_cVi1 5 dX11_couple_2 (em_X11_isCouple g6) mm_X11_isCouple mv_X11_isCouple lk_11_399 dk_94 (by decide) rfl (Nat.le_of_ble_eq_true rfl) (Nat.le_of_ble_eq_true rfl) rfl ?_
  refine ev_if_eq 17 8 dX11_couple_5 rfl rfl (fun c7 => ?_) (fun c7 => ?_)
  · replace h := rx_if_t c7 h
    refine ev_iconst (v := (-1)) 18 dX11_couple_17 (by decide) rfl ?_
    exact ev_ireturn dX11_couple_18 rfl (rx_ret_i h)
  · replace h := rx_if_f c7 h
    refine ev_iload_n (i := 2) 9 dX11_couple_8 rfl rfl rfl ?_
    refine ev_iconst (v := 0) 10 dX11_couple_9 (by decide) rfl ?_
    refine ev_iconst (v := 5) 11 dX11_couple_10 (by decide) rfl ?_
    obtain ⟨x9, S8, g10, h⟩ := rx_bd_o h
    refine ev_cSi3 14 dX11_couple_11 (em_X11_in g10) mm_X11_in ms_X11_in lk_11_316 (Nat.le_of_ble_eq_true rfl) (Nat.le_of_ble_eq_true rfl) rfl ?_
    refine ev_if_ne 19 17 dX11_couple_14 rfl rfl (fun c11 => ?_) (fun c11 => ?_)
    · replace h := rx_if_f c11 h
      refine ev_iload_n (i := 2) 20 dX11_couple_19 rfl rfl rfl ?_
      refine ev_iconst (v := 2) 21 dX11_couple_20 (by decide) rfl ?_
      refine ev_icmp_ge 33 24 dX11_couple_21 rfl rfl (fun c12 => ?_) (fun c12 => ?_)
      · replace h := rx_if_t c12 h
        refine ev_aload_n (i := 0) 34 dX11_couple_33 rfl rfl rfl ?_
        refine ev_get (v := .ref 126) 37 dX11_couple_34 dk_94 fl_11_113 (by decide) rfl rfl rfl ?_
        refine ev_bipush (v := 6) 39 dX11_couple_37 (by decide) rfl ?_
        refine ev_iconst (v := 3) 40 dX11_couple_39 (by decide) rfl ?_
        refine ev_iload_n (i := 2) 41 dX11_couple_40 rfl rfl rfl ?_
        refine ev_imul 42 dX11_couple_41 rfl ?_
        refine ev_iadd 43 dX11_couple_42 rfl ?_
        refine ev_iload_n (i := 1) 44 dX11_couple_43 rfl rfl rfl ?_
        refine ev_iadd 45 dX11_couple_44 rfl ?_
        obtain ⟨g13, h⟩ := rx_gd_o h
        refine ex_iald _ 46 dX11_couple_45 dk_126 g13 rfl rfl ?_
        exact ev_ireturn dX11_couple_46 rfl (rx_ret_i h)
      · replace h := rx_if_f c12 h
        refine ev_aload_n (i := 0) 25 dX11_couple_24 rfl rfl rfl ?_
        refine ev_iload_n (i := 1) 26 dX11_couple_25 rfl rfl rfl ?_
        refine ev_iload_n (i := 2) 27 dX11_couple_26 rfl rfl rfl ?_
        obtain ⟨x15, S14, g16, h⟩ := rx_bd_o h
        refine ev_cVi2 30 dX11_couple_27 (em_X11_partnerIn g16) mm_X11_partnerIn mv_X11_partnerIn lk_11_366 dk_94 (by decide) rfl (Nat.le_of_ble_eq_true rfl) (Nat.le_of_ble_eq_true rfl) rfl ?_
        refine ev_goto 46 dX11_couple_30 rfl ?_
        exact ev_ireturn dX11_couple_46 rfl (rx_ret_i h)
    · replace h := rx_if_t c11 h
      refine ev_iconst (v := (-1)) 18 dX11_couple_17 (by decide) rfl ?_
      exact ev_ireturn dX11_couple_18 rfl (rx_ret_i h)

def f_X11_third (N : Nat) (x1 : Int32) (x2 : Int32) (S0 : rx_S) : Option (Int32 × rx_S) := rx_bd (f_X11_isThird x1 S0) (fun x5 S4 => if x5 = 0 then (some ((-100000), S4)) else (rx_bd (f_X11_copies N S4) (fun x9 S8 => rx_let (fun (x11 : Int32) (x12 : Int32) (S13 : rx_S) => rx_gd (((20 : Int32) + ((4 : Int32) * x12)) + x11) 48 (some ((S13.1 127 (Int32.toNatClampNeg (((20 : Int32) + ((4 : Int32) * x12)) + x11))), S13))) (fun J78_1 => if x2 = 0 then (rx_gd (((4 : Int32) * (S8.1 94 18)) + x1) 8 (some ((S8.1 110 (Int32.toNatClampNeg (((4 : Int32) * (S8.1 94 18)) + x1))), S8))) else (if x2 = 1 then (J78_1 x1 x2 S8) else (if x2 = 2 then (J78_1 x1 x2 S8) else (if x2 = 3 then (J78_1 x1 x2 S8) else (if x2 = 4 then (J78_1 x1 x2 S8) else (if x2 = 5 then (J78_1 x1 x2 S8) else (if x2 = 6 then (rx_bd (f_X11_hiredBy N x1 S8) (fun x24 S23 => some (x24, S23))) else (if x2 = 7 then (rx_bd (f_X11_isDaring N x1 S8) (fun x28 S27 => if x28 = 0 then (some (0, S27)) else (some (1, S27)))) else (some ((-100000), S8)))))))))))))
set_option maxHeartbeats 4000000 in
set_option maxRecDepth 20000 in
theorem em_X11_third {d N : Nat} {x1 : Int32} {x2 : Int32} {S0 : rx_S} {zr : Int32} {zS : rx_S} (h : f_X11_third N x1 x2 S0 = some (zr, zS)) : EM gM (d + 3) mX11_third [.ref 94, .int x1, .int x2] S0 (rx_pi zr zS) := by
  unfold f_X11_third at h
  show EV gM (d + 3) mX11_third 0 [some (.ref 94), some (.int x1), some (.int x2)] [] S0 (rx_pi zr zS)
  refine ev_aload_n (i := 0) 1 dX11_third_0 rfl rfl rfl ?_
  refine ev_iload_n (i := 1) 2 dX11_third_1 rfl rfl rfl ?_
  obtain ⟨x5, S4, g6, h⟩ := rx_bd_o h
  refine ev_cVi1 5 dX11_third_2 (em_X11_isThird g6) mm_X11_isThird mv_X11_isThird lk_11_402 dk_94 (by decide) rfl (Nat.le_of_ble_eq_true rfl) (Nat.le_of_ble_eq_true rfl) rfl ?_
  refine ev_if_ne 12 8 dX11_third_5 rfl rfl (fun c7 => ?_) (fun c7 => ?_)
  · replace h := rx_if_f c7 h
    refine ev_aload_n (i := 0) 13 dX11_third_12 rfl rfl rfl ?_
    obtain ⟨x9, S8, g10, h⟩ := rx_bd_o h
    refine ev_cVv0 16 dX11_third_13 (em_X11_copies g10) mm_X11_copies mv_X11_copies lk_11_396 dk_94 (by decide) rfl (Nat.le_of_ble_eq_true rfl) (Nat.le_of_ble_eq_true rfl) rfl ?_
    refine ev_iload_n (i := 2) 17 dX11_third_16 rfl rfl rfl ?_
    obtain ⟨J78_1, eJ78_1, h⟩ := rx_let_o h
    have hJ78_1 : ∀ (x11 : Int32) (x12 : Int32) (S13 : rx_S), J78_1 x11 x12 S13 = some (zr, zS) → EV gM (d + 3) mX11_third 78 [some (.ref 94), some (.int x11), some (.int x12)] [] S13 (rx_pi zr zS) := by
      intro x11 x12 S13 h
      subst eJ78_1
      refine ev_aload_n (i := 0) 79 dX11_third_78 rfl rfl rfl ?_
      refine ev_get (v := .ref 127) 82 dX11_third_79 dk_94 fl_11_116 (by decide) rfl rfl rfl ?_
      refine ev_bipush (v := 20) 84 dX11_third_82 (by decide) rfl ?_
      refine ev_iconst (v := 4) 85 dX11_third_84 (by decide) rfl ?_
      refine ev_iload_n (i := 2) 86 dX11_third_85 rfl rfl rfl ?_
      refine ev_imul 87 dX11_third_86 rfl ?_
      refine ev_iadd 88 dX11_third_87 rfl ?_
      refine ev_iload_n (i := 1) 89 dX11_third_88 rfl rfl rfl ?_
      refine ev_iadd 90 dX11_third_89 rfl ?_
      obtain ⟨g14, h⟩ := rx_gd_o h
      refine ex_iald _ 91 dX11_third_90 dk_127 g14 rfl rfl ?_
      exact ev_ireturn dX11_third_91 rfl (rx_ret_i h)
    by_cases c15 : x2 = 0
    · replace h := rx_if_t c15 h
      refine ev_tableIn 64 dX11_third_17 (by rw [c15]; decide) (by rw [c15]; decide) (off := 47) (by rw [c15]; rfl) rfl ?_
      refine ev_aload_n (i := 0) 65 dX11_third_64 rfl rfl rfl ?_
      refine ev_get (v := .ref 110) 68 dX11_third_65 dk_94 fl_11_64 (by decide) rfl rfl rfl ?_
      refine ev_iconst (v := 4) 69 dX11_third_68 (by decide) rfl ?_
      refine ev_aload_n (i := 0) 70 dX11_third_69 rfl rfl rfl ?_
      refine ev_get (v := .int (S8.1 94 18)) 73 dX11_third_70 dk_94 fl_11_233 (by decide) rfl rfl rfl ?_
      refine ev_imul 74 dX11_third_73 rfl ?_
      refine ev_iload_n (i := 1) 75 dX11_third_74 rfl rfl rfl ?_
      refine ev_iadd 76 dX11_third_75 rfl ?_
      obtain ⟨g16, h⟩ := rx_gd_o h
      refine ex_iald _ 77 dX11_third_76 dk_110 g16 rfl rfl ?_
      exact ev_ireturn dX11_third_77 rfl (rx_ret_i h)
    · replace h := rx_if_f c15 h
      by_cases c17 : x2 = 1
      · replace h := rx_if_t c17 h
        refine ev_tableIn 78 dX11_third_17 (by rw [c17]; decide) (by rw [c17]; decide) (off := 61) (by rw [c17]; rfl) rfl ?_
        exact (hJ78_1 _ _ _ h).fewer (rx_le_s (rx_le_s (rx_le_s rx_le_0)))
      · replace h := rx_if_f c17 h
        by_cases c18 : x2 = 2
        · replace h := rx_if_t c18 h
          refine ev_tableIn 78 dX11_third_17 (by rw [c18]; decide) (by rw [c18]; decide) (off := 61) (by rw [c18]; rfl) rfl ?_
          exact (hJ78_1 _ _ _ h).fewer (rx_le_s (rx_le_s (rx_le_s rx_le_0)))
        · replace h := rx_if_f c18 h
          by_cases c19 : x2 = 3
          · replace h := rx_if_t c19 h
            refine ev_tableIn 78 dX11_third_17 (by rw [c19]; decide) (by rw [c19]; decide) (off := 61) (by rw [c19]; rfl) rfl ?_
            exact (hJ78_1 _ _ _ h).fewer (rx_le_s (rx_le_s (rx_le_s rx_le_0)))
          · replace h := rx_if_f c19 h
            by_cases c20 : x2 = 4
            · replace h := rx_if_t c20 h
              refine ev_tableIn 78 dX11_third_17 (by rw [c20]; decide) (by rw [c20]; decide) (off := 61) (by rw [c20]; rfl) rfl ?_
              exact (hJ78_1 _ _ _ h).fewer (rx_le_s (rx_le_s (rx_le_s rx_le_0)))
            · replace h := rx_if_f c20 h
              by_cases c21 : x2 = 5
              · replace h := rx_if_t c21 h
                refine ev_tableIn 78 dX11_third_17 (by rw [c21]; decide) (by rw [c21]; decide) (off := 61) (by rw [c21]; rfl) rfl ?_
                exact (hJ78_1 _ _ _ h).fewer (rx_le_s (rx_le_s (rx_le_s rx_le_0)))
              · replace h := rx_if_f c21 h
                by_cases c22 : x2 = 6
                · replace h := rx_if_t c22 h
                  refine ev_tableIn 92 dX11_third_17 (by rw [c22]; decide) (by rw [c22]; decide) (off := 75) (by rw [c22]; rfl) rfl ?_
                  refine ev_aload_n (i := 0) 93 dX11_third_92 rfl rfl rfl ?_
                  refine ev_iload_n (i := 1) 94 dX11_third_93 rfl rfl rfl ?_
                  obtain ⟨x24, S23, g25, h⟩ := rx_bd_o h
                  refine ev_cVi1 97 dX11_third_94 (em_X11_hiredBy g25) mm_X11_hiredBy mv_X11_hiredBy lk_11_387 dk_94 (by decide) rfl (Nat.le_of_ble_eq_true rfl) (Nat.le_of_ble_eq_true rfl) rfl ?_
                  exact ev_ireturn dX11_third_97 rfl (rx_ret_i h)
                · replace h := rx_if_f c22 h
                  by_cases c26 : x2 = 7
                  · replace h := rx_if_t c26 h
                    refine ev_tableIn 98 dX11_third_17 (by rw [c26]; decide) (by rw [c26]; decide) (off := 81) (by rw [c26]; rfl) rfl ?_
                    refine ev_aload_n (i := 0) 99 dX11_third_98 rfl rfl rfl ?_
                    refine ev_iload_n (i := 1) 100 dX11_third_99 rfl rfl rfl ?_
                    obtain ⟨x28, S27, g29, h⟩ := rx_bd_o h
                    refine ev_cVi1 103 dX11_third_100 (em_X11_isDaring g29) mm_X11_isDaring mv_X11_isDaring lk_11_348 dk_94 (by decide) rfl (Nat.le_of_ble_eq_true rfl) (Nat.le_of_ble_eq_true rfl) rfl ?_
                    refine ev_if_eq 110 106 dX11_third_103 rfl rfl (fun c30 => ?_) (fun c30 => ?_)
                    · replace h := rx_if_t c30 h
                      refine ev_iconst (v := 0) 111 dX11_third_110 (by decide) rfl ?_
                      exact ev_ireturn dX11_third_111 rfl (rx_ret_i h)
                    · replace h := rx_if_f c30 h
                      refine ev_iconst (v := 1) 107 dX11_third_106 (by decide) rfl ?_
                      refine ev_goto 111 dX11_third_107 rfl ?_
                      exact ev_ireturn dX11_third_111 rfl (rx_ret_i h)
                  · replace h := rx_if_f c26 h
                    refine ev_tableOut 112 dX11_third_17 (by have q0 := rx_ne c15 (z := 0) (by decide); have q1 := rx_ne c17 (z := 1) (by decide); have q2 := rx_ne c18 (z := 2) (by decide); have q3 := rx_ne c19 (z := 3) (by decide); have q4 := rx_ne c20 (z := 4) (by decide); have q5 := rx_ne c21 (z := 5) (by decide); have q6 := rx_ne c22 (z := 6) (by decide); have q7 := rx_ne c26 (z := 7) (by decide); omega) rfl ?_
                    refine ev_ldcw (v := (-100000)) 115 dX11_third_112 rfl ct_11_405 rfl ?_
                    exact ev_ireturn dX11_third_115 rfl (rx_ret_i h)
  · replace h := rx_if_t c7 h
    refine ev_ldcw (v := (-100000)) 11 dX11_third_8 rfl ct_11_405 rfl ?_
    exact ev_ireturn dX11_third_11 rfl (rx_ret_i h)

def f_X11_keeps_L51 (N : Nat) (K83 : rx_S → Option (Unit × rx_S)) : Nat → Int32 → rx_S → Option (Unit × rx_S)
  | 0, _, _ => none
  | n + 1, x8, S9 => if (48 : Int32) ≤ x8 then (K83 S9) else (rx_gd x8 48 (rx_gd (((48 : Int32) * (S9.1 94 52)) + x8) 1920 (rx_let (rx_ui S9 128 (Int32.toNatClampNeg (((48 : Int32) * (S9.1 94 52)) + x8)) (S9.1 126 (Int32.toNatClampNeg x8))) (fun S14 => rx_let (x8 + 1) (fun x15 => f_X11_keeps_L51 N K83 n x15 S14)))))
def f_X11_keeps_L11 (N : Nat) (K39 : rx_S → Option (Unit × rx_S)) : Nat → Int32 → rx_S → Option (Unit × rx_S)
  | 0, _, _ => none
  | n + 1, x19, S20 => if (1872 : Int32) ≤ x19 then (K39 S20) else (rx_gd (x19 + 48) 1920 (rx_gd x19 1920 (rx_let (rx_ui S20 128 (Int32.toNatClampNeg x19) (S20.1 128 (Int32.toNatClampNeg (x19 + 48)))) (fun S25 => rx_let (x19 + 1) (fun x26 => f_X11_keeps_L11 N K39 n x26 S25)))))
def f_X11_keeps (N : Nat) (S0 : rx_S) : Option (Unit × rx_S) := rx_let (fun (S2 : rx_S) => rx_let (fun (S3 : rx_S) => rx_let (rx_ui S3 94 52 ((S3.1 94 52) + 1)) (fun S4 => rx_bd (f_X11_keepsRow N S4) (fun x6 S5 => some ((), S5)))) (fun J83_2 => f_X11_keeps_L51 N J83_2 N 0 S2)) (fun J49_1 => if (S0.1 94 52) = 40 then (rx_let (fun (S17 : rx_S) => rx_let (rx_ui S17 94 52 ((S17.1 94 52) - 1)) (fun S18 => J49_1 S18)) (fun J39_3 => f_X11_keeps_L11 N J39_3 N 0 S0)) else (J49_1 S0))
set_option maxHeartbeats 4000000 in
set_option maxRecDepth 20000 in
theorem em_X11_keeps_L51 {d N : Nat} {K83 : rx_S → Option (Unit × rx_S)} {zr : Unit} {zS : rx_S} (hK83 : ∀ (S10 : rx_S), K83 S10 = some (zr, zS) → EV gM (d + 1) mX11_keeps 83 [some (.ref 94), none] [] S10 (rx_pv zS)) : ∀ (n : Nat) (x8 : Int32) (S9 : rx_S), f_X11_keeps_L51 N K83 n x8 S9 = some (zr, zS) → EV gM (d + 1) mX11_keeps 51 [some (.ref 94), some (.int x8)] [] S9 (rx_pv zS) := by
  intro n
  induction n with
  | zero => intro x8 S9 h; cases h
  | succ n ih =>
    intro x8 S9 h
    rw [f_X11_keeps_L51] at h
    refine ev_iload_n (i := 1) 52 dX11_keeps_51 rfl rfl rfl ?_
    refine ev_bipush (v := 48) 54 dX11_keeps_52 (by decide) rfl ?_
    refine ev_icmp_ge 83 57 dX11_keeps_54 rfl rfl (fun c11 => ?_) (fun c11 => ?_)
    · replace h := rx_if_t c11 h
      exact (hK83 _ h).fewer (rx_le_s (rx_le_n rx_le_0))
    · replace h := rx_if_f c11 h
      refine ev_aload_n (i := 0) 58 dX11_keeps_57 rfl rfl rfl ?_
      refine ev_get (v := .ref 128) 61 dX11_keeps_58 dk_94 fl_11_119 (by decide) rfl rfl rfl ?_
      refine ev_bipush (v := 48) 63 dX11_keeps_61 (by decide) rfl ?_
      refine ev_aload_n (i := 0) 64 dX11_keeps_63 rfl rfl rfl ?_
      refine ev_get (v := .int (S9.1 94 52)) 67 dX11_keeps_64 dk_94 fl_11_251 (by decide) rfl rfl rfl ?_
      refine ev_imul 68 dX11_keeps_67 rfl ?_
      refine ev_iload_n (i := 1) 69 dX11_keeps_68 rfl rfl rfl ?_
      refine ev_iadd 70 dX11_keeps_69 rfl ?_
      refine ev_aload_n (i := 0) 71 dX11_keeps_70 rfl rfl rfl ?_
      refine ev_get (v := .ref 126) 74 dX11_keeps_71 dk_94 fl_11_113 (by decide) rfl rfl rfl ?_
      refine ev_iload_n (i := 1) 75 dX11_keeps_74 rfl rfl rfl ?_
      obtain ⟨g12, h⟩ := rx_gd_o h
      refine ex_iald _ 76 dX11_keeps_75 dk_126 g12 rfl rfl ?_
      obtain ⟨g13, h⟩ := rx_gd_o h
      obtain ⟨S14, eS14, h⟩ := rx_let_o h
      refine ex_iast _ 77 dX11_keeps_76 dk_128 g13 rfl rfl eS14 ?_
      obtain ⟨x15, ex15, h⟩ := rx_let_o h
      refine ev_iinc (v := x15) (ls' := [some (.ref 94), some (.int x15)]) 80 dX11_keeps_77 rfl (by rw [ex15]; rfl) (Nat.le_of_ble_eq_true rfl) rfl rfl ?_
      refine ev_goto 51 dX11_keeps_80 rfl ?_
      exact (ih _ _ h).fewer (rx_le_s (rx_le_s rx_le_0))

set_option maxHeartbeats 4000000 in
set_option maxRecDepth 20000 in
theorem em_X11_keeps_L11 {d N : Nat} {K39 : rx_S → Option (Unit × rx_S)} {zr : Unit} {zS : rx_S} (hK39 : ∀ (S21 : rx_S), K39 S21 = some (zr, zS) → EV gM (d + 1) mX11_keeps 39 [some (.ref 94), none] [] S21 (rx_pv zS)) : ∀ (n : Nat) (x19 : Int32) (S20 : rx_S), f_X11_keeps_L11 N K39 n x19 S20 = some (zr, zS) → EV gM (d + 1) mX11_keeps 11 [some (.ref 94), some (.int x19)] [] S20 (rx_pv zS) := by
  intro n
  induction n with
  | zero => intro x19 S20 h; cases h
  | succ n ih =>
    intro x19 S20 h
    rw [f_X11_keeps_L11] at h
    refine ev_iload_n (i := 1) 12 dX11_keeps_11 rfl rfl rfl ?_
    refine ev_sipush (v := 1872) 15 dX11_keeps_12 (by decide) rfl ?_
    refine ev_icmp_ge 39 18 dX11_keeps_15 rfl rfl (fun c22 => ?_) (fun c22 => ?_)
    · replace h := rx_if_t c22 h
      exact (hK39 _ h).fewer (rx_le_s (rx_le_n rx_le_0))
    · replace h := rx_if_f c22 h
      refine ev_aload_n (i := 0) 19 dX11_keeps_18 rfl rfl rfl ?_
      refine ev_get (v := .ref 128) 22 dX11_keeps_19 dk_94 fl_11_119 (by decide) rfl rfl rfl ?_
      refine ev_iload_n (i := 1) 23 dX11_keeps_22 rfl rfl rfl ?_
      refine ev_aload_n (i := 0) 24 dX11_keeps_23 rfl rfl rfl ?_
      refine ev_get (v := .ref 128) 27 dX11_keeps_24 dk_94 fl_11_119 (by decide) rfl rfl rfl ?_
      refine ev_iload_n (i := 1) 28 dX11_keeps_27 rfl rfl rfl ?_
      refine ev_bipush (v := 48) 30 dX11_keeps_28 (by decide) rfl ?_
      refine ev_iadd 31 dX11_keeps_30 rfl ?_
      obtain ⟨g23, h⟩ := rx_gd_o h
      refine ex_iald _ 32 dX11_keeps_31 dk_128 g23 rfl rfl ?_
      obtain ⟨g24, h⟩ := rx_gd_o h
      obtain ⟨S25, eS25, h⟩ := rx_let_o h
      refine ex_iast _ 33 dX11_keeps_32 dk_128 g24 rfl rfl eS25 ?_
      obtain ⟨x26, ex26, h⟩ := rx_let_o h
      refine ev_iinc (v := x26) (ls' := [some (.ref 94), some (.int x26)]) 36 dX11_keeps_33 rfl (by rw [ex26]; rfl) (Nat.le_of_ble_eq_true rfl) rfl rfl ?_
      refine ev_goto 11 dX11_keeps_36 rfl ?_
      exact (ih _ _ h).fewer (rx_le_s (rx_le_s rx_le_0))

set_option maxHeartbeats 4000000 in
set_option maxRecDepth 20000 in
theorem em_X11_keeps {d N : Nat} {S0 : rx_S} {zr : Unit} {zS : rx_S} (h : f_X11_keeps N S0 = some (zr, zS)) : EM gM (d + 1) mX11_keeps [.ref 94] S0 (rx_pv zS) := by
  unfold f_X11_keeps at h
  show EV gM (d + 1) mX11_keeps 0 [some (.ref 94), none] [] S0 (rx_pv zS)
  refine ev_aload_n (i := 0) 1 dX11_keeps_0 rfl rfl rfl ?_
  refine ev_get (v := .int (S0.1 94 52)) 4 dX11_keeps_1 dk_94 fl_11_251 (by decide) rfl rfl rfl ?_
  refine ev_bipush (v := 40) 6 dX11_keeps_4 (by decide) rfl ?_
  obtain ⟨J49_1, eJ49_1, h⟩ := rx_let_o h
  have hJ49_1 : ∀ (S2 : rx_S), J49_1 S2 = some (zr, zS) → EV gM (d + 1) mX11_keeps 49 [some (.ref 94), none] [] S2 (rx_pv zS) := by
    intro S2 h
    subst eJ49_1
    refine ev_iconst (v := 0) 50 dX11_keeps_49 (by decide) rfl ?_
    refine ev_istore_n (ls' := [some (.ref 94), some (.int 0)]) 51 dX11_keeps_50 rfl (Nat.le_of_ble_eq_true rfl) rfl rfl ?_
    obtain ⟨J83_2, eJ83_2, h⟩ := rx_let_o h
    have hJ83_2 : ∀ (S3 : rx_S), J83_2 S3 = some (zr, zS) → EV gM (d + 1) mX11_keeps 83 [some (.ref 94), none] [] S3 (rx_pv zS) := by
      intro S3 h
      subst eJ83_2
      refine ev_aload_n (i := 0) 84 dX11_keeps_83 rfl rfl rfl ?_
      refine ev_dup 85 dX11_keeps_84 rfl rfl ?_
      refine ev_get (v := .int (S3.1 94 52)) 88 dX11_keeps_85 dk_94 fl_11_251 (by decide) rfl rfl rfl ?_
      refine ev_iconst (v := 1) 89 dX11_keeps_88 (by decide) rfl ?_
      refine ev_iadd 90 dX11_keeps_89 rfl ?_
      obtain ⟨S4, eS4, h⟩ := rx_let_o h
      refine ex_put 93 dX11_keeps_90 dk_94 fl_11_251 pp_11_52 (by decide) rfl rfl rfl rfl eS4 ?_
      refine ev_aload_n (i := 0) 94 dX11_keeps_93 rfl rfl rfl ?_
      obtain ⟨x6, S5, g7, h⟩ := rx_bd_o h
      refine ev_cVv0 97 dX11_keeps_94 (em_X11_keepsRow g7) mm_X11_keepsRow mv_X11_keepsRow lk_11_163 dk_94 (by decide) rfl (Nat.le_of_ble_eq_true rfl) (Nat.le_of_ble_eq_true rfl) rfl ?_
      exact ev_return dX11_keeps_97 rfl (rx_ret_v h)
    exact (em_X11_keeps_L51 hJ83_2 _ _ _ h).fewer (rx_le_s (rx_le_s rx_le_0))
  refine ev_icmp_ne 49 9 dX11_keeps_6 rfl rfl (fun c16 => ?_) (fun c16 => ?_)
  · replace h := rx_if_f c16 h
    exact (hJ49_1 _ h).fewer (rx_le_s (rx_le_n rx_le_0))
  · replace h := rx_if_t c16 h
    refine ev_iconst (v := 0) 10 dX11_keeps_9 (by decide) rfl ?_
    refine ev_istore_n (ls' := [some (.ref 94), some (.int 0)]) 11 dX11_keeps_10 rfl (Nat.le_of_ble_eq_true rfl) rfl rfl ?_
    obtain ⟨J39_3, eJ39_3, h⟩ := rx_let_o h
    have hJ39_3 : ∀ (S17 : rx_S), J39_3 S17 = some (zr, zS) → EV gM (d + 1) mX11_keeps 39 [some (.ref 94), none] [] S17 (rx_pv zS) := by
      intro S17 h
      subst eJ39_3
      refine ev_aload_n (i := 0) 40 dX11_keeps_39 rfl rfl rfl ?_
      refine ev_dup 41 dX11_keeps_40 rfl rfl ?_
      refine ev_get (v := .int (S17.1 94 52)) 44 dX11_keeps_41 dk_94 fl_11_251 (by decide) rfl rfl rfl ?_
      refine ev_iconst (v := 1) 45 dX11_keeps_44 (by decide) rfl ?_
      refine ev_isub 46 dX11_keeps_45 rfl ?_
      obtain ⟨S18, eS18, h⟩ := rx_let_o h
      refine ex_put 49 dX11_keeps_46 dk_94 fl_11_251 pp_11_52 (by decide) rfl rfl rfl rfl eS18 ?_
      exact (hJ49_1 _ h).fewer (rx_le_s (rx_le_n rx_le_0))
    exact (em_X11_keeps_L11 hJ39_3 _ _ _ h).fewer (rx_le_s (rx_le_s rx_le_0))

def f_X11_hire (N : Nat) (x1 : Int32) (x2 : Int32) (S0 : rx_S) : Option (Int32 × rx_S) := rx_bd (f_X11_isCouple x1 S0) (fun x5 S4 => if x5 = 0 then (some (0, S4)) else (rx_let (fun (x8 : Int32) (x9 : Int32) (S10 : rx_S) => rx_gd ((15 : Int32) + x8) 48 (if (S10.1 126 (Int32.toNatClampNeg ((15 : Int32) + x8))) = 1 then (some (0, S10)) else (rx_let (fun (x13 : Int32) (x14 : Int32) (S15 : rx_S) => rx_gd ((12 : Int32) + x13) 48 (if (S15.1 126 (Int32.toNatClampNeg ((12 : Int32) + x13))) = x14 then (some (0, S15)) else (rx_bd (f_X11_copies N S15) (fun x19 S18 => rx_gd ((12 : Int32) + x13) 48 (rx_let (rx_ui S18 127 (Int32.toNatClampNeg ((12 : Int32) + x13)) x14) (fun S22 => rx_bd (f_X11_keeps N S22) (fun x24 S23 => some (1, S23)))))))) (fun J47_2 => if x9 = (-1) then (J47_2 x8 (-2) S10) else (J47_2 x8 x9 S10))))) (fun J21_1 => if x2 = (-1) then (J21_1 x1 x2 S4) else (rx_bd (f_X11_isThird x2 S4) (fun x29 S28 => if x29 = 0 then (some (0, S28)) else (J21_1 x1 x2 S28))))))
set_option maxHeartbeats 4000000 in
set_option maxRecDepth 20000 in
theorem em_X11_hire {d N : Nat} {x1 : Int32} {x2 : Int32} {S0 : rx_S} {zr : Int32} {zS : rx_S} (h : f_X11_hire N x1 x2 S0 = some (zr, zS)) : EM gM (d + 2) mX11_hire [.ref 94, .int x1, .int x2] S0 (rx_pi zr zS) := by
  unfold f_X11_hire at h
  show EV gM (d + 2) mX11_hire 0 [some (.ref 94), some (.int x1), some (.int x2), none] [] S0 (rx_pi zr zS)
  refine ev_aload_n (i := 0) 1 dX11_hire_0 rfl rfl rfl ?_
  refine ev_iload_n (i := 1) 2 dX11_hire_1 rfl rfl rfl ?_
  obtain ⟨x5, S4, g6, h⟩ := rx_bd_o h
  refine ev_cVi1 5 dX11_hire_2 (em_X11_isCouple g6) mm_X11_isCouple mv_X11_isCouple lk_11_399 dk_94 (by decide) rfl (Nat.le_of_ble_eq_true rfl) (Nat.le_of_ble_eq_true rfl) rfl ?_
  refine ev_if_eq 34 8 dX11_hire_5 rfl rfl (fun c7 => ?_) (fun c7 => ?_)
  · replace h := rx_if_t c7 h
    refine ev_iconst (v := 0) 35 dX11_hire_34 (by decide) rfl ?_
    exact ev_zreturn dX11_hire_35 rfl (by decide) (rx_ret_i h)
  · replace h := rx_if_f c7 h
    refine ev_iload_n (i := 2) 9 dX11_hire_8 rfl rfl rfl ?_
    refine ev_iconst (v := (-1)) 10 dX11_hire_9 (by decide) rfl ?_
    obtain ⟨J21_1, eJ21_1, h⟩ := rx_let_o h
    have hJ21_1 : ∀ (x8 : Int32) (x9 : Int32) (S10 : rx_S), J21_1 x8 x9 S10 = some (zr, zS) → EV gM (d + 2) mX11_hire 21 [some (.ref 94), some (.int x8), some (.int x9), none] [] S10 (rx_pi zr zS) := by
      intro x8 x9 S10 h
      subst eJ21_1
      refine ev_aload_n (i := 0) 22 dX11_hire_21 rfl rfl rfl ?_
      refine ev_get (v := .ref 126) 25 dX11_hire_22 dk_94 fl_11_113 (by decide) rfl rfl rfl ?_
      refine ev_bipush (v := 15) 27 dX11_hire_25 (by decide) rfl ?_
      refine ev_iload_n (i := 1) 28 dX11_hire_27 rfl rfl rfl ?_
      refine ev_iadd 29 dX11_hire_28 rfl ?_
      obtain ⟨g11, h⟩ := rx_gd_o h
      refine ex_iald _ 30 dX11_hire_29 dk_126 g11 rfl rfl ?_
      refine ev_iconst (v := 1) 31 dX11_hire_30 (by decide) rfl ?_
      refine ev_icmp_ne 36 34 dX11_hire_31 rfl rfl (fun c12 => ?_) (fun c12 => ?_)
      · replace h := rx_if_f c12 h
        refine ev_iload_n (i := 2) 37 dX11_hire_36 rfl rfl rfl ?_
        refine ev_iconst (v := (-1)) 38 dX11_hire_37 (by decide) rfl ?_
        obtain ⟨J47_2, eJ47_2, h⟩ := rx_let_o h
        have hJ47_2 : ∀ (x13 : Int32) (x14 : Int32) (S15 : rx_S), J47_2 x13 x14 S15 = some (zr, zS) → EV gM (d + 2) mX11_hire 47 [some (.ref 94), some (.int x13), none, none] [.int x14] S15 (rx_pi zr zS) := by
          intro x13 x14 S15 h
          subst eJ47_2
          refine ev_istore_n (ls' := [some (.ref 94), some (.int x13), none, some (.int x14)]) 48 dX11_hire_47 rfl (Nat.le_of_ble_eq_true rfl) rfl rfl ?_
          refine ev_aload_n (i := 0) 49 dX11_hire_48 rfl rfl rfl ?_
          refine ev_get (v := .ref 126) 52 dX11_hire_49 dk_94 fl_11_113 (by decide) rfl rfl rfl ?_
          refine ev_bipush (v := 12) 54 dX11_hire_52 (by decide) rfl ?_
          refine ev_iload_n (i := 1) 55 dX11_hire_54 rfl rfl rfl ?_
          refine ev_iadd 56 dX11_hire_55 rfl ?_
          obtain ⟨g16, h⟩ := rx_gd_o h
          refine ex_iald _ 57 dX11_hire_56 dk_126 g16 rfl rfl ?_
          refine ev_iload_n (i := 3) 58 dX11_hire_57 rfl rfl rfl ?_
          refine ev_icmp_ne 63 61 dX11_hire_58 rfl rfl (fun c17 => ?_) (fun c17 => ?_)
          · replace h := rx_if_f c17 h
            refine ev_aload_n (i := 0) 64 dX11_hire_63 rfl rfl rfl ?_
            obtain ⟨x19, S18, g20, h⟩ := rx_bd_o h
            refine ev_cVv0 67 dX11_hire_64 (em_X11_copies g20) mm_X11_copies mv_X11_copies lk_11_396 dk_94 (by decide) rfl (Nat.le_of_ble_eq_true rfl) (Nat.le_of_ble_eq_true rfl) rfl ?_
            refine ev_aload_n (i := 0) 68 dX11_hire_67 rfl rfl rfl ?_
            refine ev_get (v := .ref 127) 71 dX11_hire_68 dk_94 fl_11_116 (by decide) rfl rfl rfl ?_
            refine ev_bipush (v := 12) 73 dX11_hire_71 (by decide) rfl ?_
            refine ev_iload_n (i := 1) 74 dX11_hire_73 rfl rfl rfl ?_
            refine ev_iadd 75 dX11_hire_74 rfl ?_
            refine ev_iload_n (i := 3) 76 dX11_hire_75 rfl rfl rfl ?_
            obtain ⟨g21, h⟩ := rx_gd_o h
            obtain ⟨S22, eS22, h⟩ := rx_let_o h
            refine ex_iast _ 77 dX11_hire_76 dk_127 g21 rfl rfl eS22 ?_
            refine ev_aload_n (i := 0) 78 dX11_hire_77 rfl rfl rfl ?_
            obtain ⟨x24, S23, g25, h⟩ := rx_bd_o h
            refine ev_cVv0 81 dX11_hire_78 (em_X11_keeps g25) mm_X11_keeps mv_X11_keeps lk_11_406 dk_94 (by decide) rfl (Nat.le_of_ble_eq_true rfl) (Nat.le_of_ble_eq_true rfl) rfl ?_
            refine ev_iconst (v := 1) 82 dX11_hire_81 (by decide) rfl ?_
            exact ev_zreturn dX11_hire_82 rfl (by decide) (rx_ret_i h)
          · replace h := rx_if_t c17 h
            refine ev_iconst (v := 0) 62 dX11_hire_61 (by decide) rfl ?_
            exact ev_zreturn dX11_hire_62 rfl (by decide) (rx_ret_i h)
        refine ev_icmp_ne 46 41 dX11_hire_38 rfl rfl (fun c26 => ?_) (fun c26 => ?_)
        · replace h := rx_if_f c26 h
          refine ev_iload_n (i := 2) 47 dX11_hire_46 rfl rfl rfl ?_
          exact (hJ47_2 _ _ _ h).fewer (rx_le_s (rx_le_s (rx_le_n (rx_le_n rx_le_0))))
        · replace h := rx_if_t c26 h
          refine ev_bipush (v := (-2)) 43 dX11_hire_41 (by decide) rfl ?_
          refine ev_goto 47 dX11_hire_43 rfl ?_
          exact (hJ47_2 _ _ _ h).fewer (rx_le_s (rx_le_s (rx_le_n (rx_le_n rx_le_0))))
      · replace h := rx_if_t c12 h
        refine ev_iconst (v := 0) 35 dX11_hire_34 (by decide) rfl ?_
        exact ev_zreturn dX11_hire_35 rfl (by decide) (rx_ret_i h)
    refine ev_icmp_eq 21 13 dX11_hire_10 rfl rfl (fun c27 => ?_) (fun c27 => ?_)
    · replace h := rx_if_t c27 h
      exact (hJ21_1 _ _ _ h).fewer (rx_le_s (rx_le_s (rx_le_s (rx_le_n rx_le_0))))
    · replace h := rx_if_f c27 h
      refine ev_aload_n (i := 0) 14 dX11_hire_13 rfl rfl rfl ?_
      refine ev_iload_n (i := 2) 15 dX11_hire_14 rfl rfl rfl ?_
      obtain ⟨x29, S28, g30, h⟩ := rx_bd_o h
      refine ev_cVi1 18 dX11_hire_15 (em_X11_isThird g30) mm_X11_isThird mv_X11_isThird lk_11_402 dk_94 (by decide) rfl (Nat.le_of_ble_eq_true rfl) (Nat.le_of_ble_eq_true rfl) rfl ?_
      refine ev_if_eq 34 21 dX11_hire_18 rfl rfl (fun c31 => ?_) (fun c31 => ?_)
      · replace h := rx_if_t c31 h
        refine ev_iconst (v := 0) 35 dX11_hire_34 (by decide) rfl ?_
        exact ev_zreturn dX11_hire_35 rfl (by decide) (rx_ret_i h)
      · replace h := rx_if_f c31 h
        exact (hJ21_1 _ _ _ h).fewer (rx_le_s (rx_le_s (rx_le_s (rx_le_n rx_le_0))))

def f_X11_swear (N : Nat) (x1 : Int32) (x2 : Int32) (S0 : rx_S) : Option (Int32 × rx_S) := rx_bd (f_X11_isThird x1 S0) (fun x5 S4 => if x5 = 0 then (some (0, S4)) else (rx_gd ((32 : Int32) + x1) 48 (rx_let (fun (x9 : Int32) (x10 : Int32) (x11 : Int32) (S12 : rx_S) => if x11 = x10 then (some (0, S12)) else (rx_bd (f_X11_copies N S12) (fun x15 S14 => rx_let (fun (x17 : Int32) (x18 : Int32) (S19 : rx_S) => rx_gd x17 48 (rx_let (rx_ui S19 127 (Int32.toNatClampNeg x17) x18) (fun S21 => rx_bd (f_X11_keeps N S21) (fun x23 S22 => some (1, S22))))) (fun J53_2 => if x10 = 0 then (J53_2 ((32 : Int32) + x9) 0 S14) else (J53_2 ((32 : Int32) + x9) 1 S14))))) (fun J26_1 => if (S4.1 126 (Int32.toNatClampNeg ((32 : Int32) + x1))) = 1 then (J26_1 x1 x2 1 S4) else (J26_1 x1 x2 0 S4)))))
set_option maxHeartbeats 4000000 in
set_option maxRecDepth 20000 in
theorem em_X11_swear {d N : Nat} {x1 : Int32} {x2 : Int32} {S0 : rx_S} {zr : Int32} {zS : rx_S} (h : f_X11_swear N x1 x2 S0 = some (zr, zS)) : EM gM (d + 2) mX11_swear [.ref 94, .int x1, .int x2] S0 (rx_pi zr zS) := by
  unfold f_X11_swear at h
  show EV gM (d + 2) mX11_swear 0 [some (.ref 94), some (.int x1), some (.int x2)] [] S0 (rx_pi zr zS)
  refine ev_aload_n (i := 0) 1 dX11_swear_0 rfl rfl rfl ?_
  refine ev_iload_n (i := 1) 2 dX11_swear_1 rfl rfl rfl ?_
  obtain ⟨x5, S4, g6, h⟩ := rx_bd_o h
  refine ev_cVi1 5 dX11_swear_2 (em_X11_isThird g6) mm_X11_isThird mv_X11_isThird lk_11_402 dk_94 (by decide) rfl (Nat.le_of_ble_eq_true rfl) (Nat.le_of_ble_eq_true rfl) rfl ?_
  refine ev_if_eq 30 8 dX11_swear_5 rfl rfl (fun c7 => ?_) (fun c7 => ?_)
  · replace h := rx_if_t c7 h
    refine ev_iconst (v := 0) 31 dX11_swear_30 (by decide) rfl ?_
    exact ev_zreturn dX11_swear_31 rfl (by decide) (rx_ret_i h)
  · replace h := rx_if_f c7 h
    refine ev_aload_n (i := 0) 9 dX11_swear_8 rfl rfl rfl ?_
    refine ev_get (v := .ref 126) 12 dX11_swear_9 dk_94 fl_11_113 (by decide) rfl rfl rfl ?_
    refine ev_bipush (v := 32) 14 dX11_swear_12 (by decide) rfl ?_
    refine ev_iload_n (i := 1) 15 dX11_swear_14 rfl rfl rfl ?_
    refine ev_iadd 16 dX11_swear_15 rfl ?_
    obtain ⟨g8, h⟩ := rx_gd_o h
    refine ex_iald _ 17 dX11_swear_16 dk_126 g8 rfl rfl ?_
    refine ev_iconst (v := 1) 18 dX11_swear_17 (by decide) rfl ?_
    obtain ⟨J26_1, eJ26_1, h⟩ := rx_let_o h
    have hJ26_1 : ∀ (x9 : Int32) (x10 : Int32) (x11 : Int32) (S12 : rx_S), J26_1 x9 x10 x11 S12 = some (zr, zS) → EV gM (d + 2) mX11_swear 26 [some (.ref 94), some (.int x9), some (.int x10)] [.int x11] S12 (rx_pi zr zS) := by
      intro x9 x10 x11 S12 h
      subst eJ26_1
      refine ev_iload_n (i := 2) 27 dX11_swear_26 rfl rfl rfl ?_
      refine ev_icmp_ne 32 30 dX11_swear_27 rfl rfl (fun c13 => ?_) (fun c13 => ?_)
      · replace h := rx_if_f c13 h
        refine ev_aload_n (i := 0) 33 dX11_swear_32 rfl rfl rfl ?_
        obtain ⟨x15, S14, g16, h⟩ := rx_bd_o h
        refine ev_cVv0 36 dX11_swear_33 (em_X11_copies g16) mm_X11_copies mv_X11_copies lk_11_396 dk_94 (by decide) rfl (Nat.le_of_ble_eq_true rfl) (Nat.le_of_ble_eq_true rfl) rfl ?_
        refine ev_aload_n (i := 0) 37 dX11_swear_36 rfl rfl rfl ?_
        refine ev_get (v := .ref 127) 40 dX11_swear_37 dk_94 fl_11_116 (by decide) rfl rfl rfl ?_
        refine ev_bipush (v := 32) 42 dX11_swear_40 (by decide) rfl ?_
        refine ev_iload_n (i := 1) 43 dX11_swear_42 rfl rfl rfl ?_
        refine ev_iadd 44 dX11_swear_43 rfl ?_
        refine ev_iload_n (i := 2) 45 dX11_swear_44 rfl rfl rfl ?_
        obtain ⟨J53_2, eJ53_2, h⟩ := rx_let_o h
        have hJ53_2 : ∀ (x17 : Int32) (x18 : Int32) (S19 : rx_S), J53_2 x17 x18 S19 = some (zr, zS) → EV gM (d + 2) mX11_swear 53 [some (.ref 94), none, none] [.int x18, .int x17, .ref 127] S19 (rx_pi zr zS) := by
          intro x17 x18 S19 h
          subst eJ53_2
          obtain ⟨g20, h⟩ := rx_gd_o h
          obtain ⟨S21, eS21, h⟩ := rx_let_o h
          refine ex_iast _ 54 dX11_swear_53 dk_127 g20 rfl rfl eS21 ?_
          refine ev_aload_n (i := 0) 55 dX11_swear_54 rfl rfl rfl ?_
          obtain ⟨x23, S22, g24, h⟩ := rx_bd_o h
          refine ev_cVv0 58 dX11_swear_55 (em_X11_keeps g24) mm_X11_keeps mv_X11_keeps lk_11_406 dk_94 (by decide) rfl (Nat.le_of_ble_eq_true rfl) (Nat.le_of_ble_eq_true rfl) rfl ?_
          refine ev_iconst (v := 1) 59 dX11_swear_58 (by decide) rfl ?_
          exact ev_zreturn dX11_swear_59 rfl (by decide) (rx_ret_i h)
        refine ev_if_eq 52 48 dX11_swear_45 rfl rfl (fun c25 => ?_) (fun c25 => ?_)
        · replace h := rx_if_t c25 h
          refine ev_iconst (v := 0) 53 dX11_swear_52 (by decide) rfl ?_
          exact (hJ53_2 _ _ _ h).fewer (rx_le_s (rx_le_n (rx_le_n rx_le_0)))
        · replace h := rx_if_f c25 h
          refine ev_iconst (v := 1) 49 dX11_swear_48 (by decide) rfl ?_
          refine ev_goto 53 dX11_swear_49 rfl ?_
          exact (hJ53_2 _ _ _ h).fewer (rx_le_s (rx_le_n (rx_le_n rx_le_0)))
      · replace h := rx_if_t c13 h
        refine ev_iconst (v := 0) 31 dX11_swear_30 (by decide) rfl ?_
        exact ev_zreturn dX11_swear_31 rfl (by decide) (rx_ret_i h)
    refine ev_icmp_ne 25 21 dX11_swear_18 rfl rfl (fun c26 => ?_) (fun c26 => ?_)
    · replace h := rx_if_f c26 h
      refine ev_iconst (v := 0) 26 dX11_swear_25 (by decide) rfl ?_
      exact (hJ26_1 _ _ _ _ h).fewer (rx_le_s (rx_le_s (rx_le_s rx_le_0)))
    · replace h := rx_if_t c26 h
      refine ev_iconst (v := 1) 22 dX11_swear_21 (by decide) rfl ?_
      refine ev_goto 26 dX11_swear_22 rfl ?_
      exact (hJ26_1 _ _ _ _ h).fewer (rx_le_s (rx_le_s (rx_le_s rx_le_0)))

def f_X11_weeks (N : Nat) (x1 : Int32) (S0 : rx_S) : Option (Int32 × rx_S) := rx_bd (f_X11_in x1 0 60 S0) (fun x4 S3 => if x4 = 0 then (some ((-1), S3)) else (if x1 = 0 then (some ((S3.1 126 44), S3)) else (rx_bd (f_X11_copies N S3) (fun x9 S8 => rx_bd (f_X11_goes N x1 S8) (fun x12 S11 => rx_bd (f_X11_keeps N S11) (fun x15 S14 => some ((S14.1 126 44), S14)))))))
set_option maxHeartbeats 4000000 in
set_option maxRecDepth 20000 in
theorem em_X11_weeks {d N : Nat} {x1 : Int32} {S0 : rx_S} {zr : Int32} {zS : rx_S} (h : f_X11_weeks N x1 S0 = some (zr, zS)) : EM gM (d + 8) mX11_weeks [.ref 94, .int x1] S0 (rx_pi zr zS) := by
  unfold f_X11_weeks at h
  show EV gM (d + 8) mX11_weeks 0 [some (.ref 94), some (.int x1)] [] S0 (rx_pi zr zS)
  refine ev_iload_n (i := 1) 1 dX11_weeks_0 rfl rfl rfl ?_
  refine ev_iconst (v := 0) 2 dX11_weeks_1 (by decide) rfl ?_
  refine ev_bipush (v := 60) 4 dX11_weeks_2 (by decide) rfl ?_
  obtain ⟨x4, S3, g5, h⟩ := rx_bd_o h
  refine ev_cSi3 7 dX11_weeks_4 (em_X11_in g5) mm_X11_in ms_X11_in lk_11_316 (Nat.le_of_ble_eq_true rfl) (Nat.le_of_ble_eq_true rfl) rfl ?_
  refine ev_if_ne 12 10 dX11_weeks_7 rfl rfl (fun c6 => ?_) (fun c6 => ?_)
  · replace h := rx_if_f c6 h
    refine ev_iload_n (i := 1) 13 dX11_weeks_12 rfl rfl rfl ?_
    refine ev_if_ne 24 16 dX11_weeks_13 rfl rfl (fun c7 => ?_) (fun c7 => ?_)
    · replace h := rx_if_f c7 h
      refine ev_aload_n (i := 0) 25 dX11_weeks_24 rfl rfl rfl ?_
      obtain ⟨x9, S8, g10, h⟩ := rx_bd_o h
      refine ev_cVv0 28 dX11_weeks_25 (em_X11_copies g10) mm_X11_copies mv_X11_copies lk_11_396 dk_94 (by decide) rfl (Nat.le_of_ble_eq_true rfl) (Nat.le_of_ble_eq_true rfl) rfl ?_
      refine ev_aload_n (i := 0) 29 dX11_weeks_28 rfl rfl rfl ?_
      refine ev_iload_n (i := 1) 30 dX11_weeks_29 rfl rfl rfl ?_
      obtain ⟨x12, S11, g13, h⟩ := rx_bd_o h
      refine ev_cVv1 33 dX11_weeks_30 (em_X11_goes g13) mm_X11_goes mv_X11_goes lk_11_409 dk_94 (by decide) rfl (Nat.le_of_ble_eq_true rfl) (Nat.le_of_ble_eq_true rfl) rfl ?_
      refine ev_aload_n (i := 0) 34 dX11_weeks_33 rfl rfl rfl ?_
      obtain ⟨x15, S14, g16, h⟩ := rx_bd_o h
      refine ev_cVv0 37 dX11_weeks_34 (em_X11_keeps g16) mm_X11_keeps mv_X11_keeps lk_11_406 dk_94 (by decide) rfl (Nat.le_of_ble_eq_true rfl) (Nat.le_of_ble_eq_true rfl) rfl ?_
      refine ev_aload_n (i := 0) 38 dX11_weeks_37 rfl rfl rfl ?_
      refine ev_get (v := .ref 126) 41 dX11_weeks_38 dk_94 fl_11_113 (by decide) rfl rfl rfl ?_
      refine ev_bipush (v := 44) 43 dX11_weeks_41 (by decide) rfl ?_
      refine ex_iald 44 44 dX11_weeks_43 dk_126 (rx_vin (by decide)) (by decide) rfl ?_
      exact ev_ireturn dX11_weeks_44 rfl (rx_ret_i h)
    · replace h := rx_if_t c7 h
      refine ev_aload_n (i := 0) 17 dX11_weeks_16 rfl rfl rfl ?_
      refine ev_get (v := .ref 126) 20 dX11_weeks_17 dk_94 fl_11_113 (by decide) rfl rfl rfl ?_
      refine ev_bipush (v := 44) 22 dX11_weeks_20 (by decide) rfl ?_
      refine ex_iald 44 23 dX11_weeks_22 dk_126 (rx_vin (by decide)) (by decide) rfl ?_
      exact ev_ireturn dX11_weeks_23 rfl (rx_ret_i h)
  · replace h := rx_if_t c6 h
    refine ev_iconst (v := (-1)) 11 dX11_weeks_10 (by decide) rfl ?_
    exact ev_ireturn dX11_weeks_11 rfl (rx_ret_i h)

def f_X11_undo_L21 (N : Nat) : Nat → Int32 → rx_S → Option (Int32 × rx_S)
  | 0, _, _ => none
  | n + 1, x4, S5 => if (48 : Int32) ≤ x4 then (some (1, S5)) else (rx_gd (((48 : Int32) * (S5.1 94 52)) + x4) 1920 (rx_gd x4 48 (rx_let (rx_ui S5 126 (Int32.toNatClampNeg x4) (S5.1 128 (Int32.toNatClampNeg (((48 : Int32) * (S5.1 94 52)) + x4)))) (fun S9 => rx_let (x4 + 1) (fun x10 => f_X11_undo_L21 N n x10 S9)))))
def f_X11_undo (N : Nat) (S0 : rx_S) : Option (Int32 × rx_S) := if (S0.1 94 52) = 0 then (some (0, S0)) else (rx_let (rx_ui S0 94 52 ((S0.1 94 52) - 1)) (fun S3 => f_X11_undo_L21 N N 0 S3))
set_option maxHeartbeats 4000000 in
set_option maxRecDepth 20000 in
theorem em_X11_undo_L21 {d N : Nat} {zr : Int32} {zS : rx_S} : ∀ (n : Nat) (x4 : Int32) (S5 : rx_S), f_X11_undo_L21 N n x4 S5 = some (zr, zS) → EV gM d mX11_undo 21 [some (.ref 94), some (.int x4)] [] S5 (rx_pi zr zS) := by
  intro n
  induction n with
  | zero => intro x4 S5 h; cases h
  | succ n ih =>
    intro x4 S5 h
    rw [f_X11_undo_L21] at h
    refine ev_iload_n (i := 1) 22 dX11_undo_21 rfl rfl rfl ?_
    refine ev_bipush (v := 48) 24 dX11_undo_22 (by decide) rfl ?_
    refine ev_icmp_ge 53 27 dX11_undo_24 rfl rfl (fun c6 => ?_) (fun c6 => ?_)
    · replace h := rx_if_t c6 h
      refine ev_iconst (v := 1) 54 dX11_undo_53 (by decide) rfl ?_
      exact ev_zreturn dX11_undo_54 rfl (by decide) (rx_ret_i h)
    · replace h := rx_if_f c6 h
      refine ev_aload_n (i := 0) 28 dX11_undo_27 rfl rfl rfl ?_
      refine ev_get (v := .ref 126) 31 dX11_undo_28 dk_94 fl_11_113 (by decide) rfl rfl rfl ?_
      refine ev_iload_n (i := 1) 32 dX11_undo_31 rfl rfl rfl ?_
      refine ev_aload_n (i := 0) 33 dX11_undo_32 rfl rfl rfl ?_
      refine ev_get (v := .ref 128) 36 dX11_undo_33 dk_94 fl_11_119 (by decide) rfl rfl rfl ?_
      refine ev_bipush (v := 48) 38 dX11_undo_36 (by decide) rfl ?_
      refine ev_aload_n (i := 0) 39 dX11_undo_38 rfl rfl rfl ?_
      refine ev_get (v := .int (S5.1 94 52)) 42 dX11_undo_39 dk_94 fl_11_251 (by decide) rfl rfl rfl ?_
      refine ev_imul 43 dX11_undo_42 rfl ?_
      refine ev_iload_n (i := 1) 44 dX11_undo_43 rfl rfl rfl ?_
      refine ev_iadd 45 dX11_undo_44 rfl ?_
      obtain ⟨g7, h⟩ := rx_gd_o h
      refine ex_iald _ 46 dX11_undo_45 dk_128 g7 rfl rfl ?_
      obtain ⟨g8, h⟩ := rx_gd_o h
      obtain ⟨S9, eS9, h⟩ := rx_let_o h
      refine ex_iast _ 47 dX11_undo_46 dk_126 g8 rfl rfl eS9 ?_
      obtain ⟨x10, ex10, h⟩ := rx_let_o h
      refine ev_iinc (v := x10) (ls' := [some (.ref 94), some (.int x10)]) 50 dX11_undo_47 rfl (by rw [ex10]; rfl) (Nat.le_of_ble_eq_true rfl) rfl rfl ?_
      refine ev_goto 21 dX11_undo_50 rfl ?_
      exact (ih _ _ h).fewer (rx_le_s (rx_le_s rx_le_0))

set_option maxHeartbeats 4000000 in
set_option maxRecDepth 20000 in
theorem em_X11_undo {d N : Nat} {S0 : rx_S} {zr : Int32} {zS : rx_S} (h : f_X11_undo N S0 = some (zr, zS)) : EM gM d mX11_undo [.ref 94] S0 (rx_pi zr zS) := by
  unfold f_X11_undo at h
  show EV gM d mX11_undo 0 [some (.ref 94), none] [] S0 (rx_pi zr zS)
  refine ev_aload_n (i := 0) 1 dX11_undo_0 rfl rfl rfl ?_
  refine ev_get (v := .int (S0.1 94 52)) 4 dX11_undo_1 dk_94 fl_11_251 (by decide) rfl rfl rfl ?_
  refine ev_if_ne 9 7 dX11_undo_4 rfl rfl (fun c2 => ?_) (fun c2 => ?_)
  · replace h := rx_if_f c2 h
    refine ev_aload_n (i := 0) 10 dX11_undo_9 rfl rfl rfl ?_
    refine ev_dup 11 dX11_undo_10 rfl rfl ?_
    refine ev_get (v := .int (S0.1 94 52)) 14 dX11_undo_11 dk_94 fl_11_251 (by decide) rfl rfl rfl ?_
    refine ev_iconst (v := 1) 15 dX11_undo_14 (by decide) rfl ?_
    refine ev_isub 16 dX11_undo_15 rfl ?_
    obtain ⟨S3, eS3, h⟩ := rx_let_o h
    refine ex_put 19 dX11_undo_16 dk_94 fl_11_251 pp_11_52 (by decide) rfl rfl rfl rfl eS3 ?_
    refine ev_iconst (v := 0) 20 dX11_undo_19 (by decide) rfl ?_
    refine ev_istore_n (ls' := [some (.ref 94), some (.int 0)]) 21 dX11_undo_20 rfl (Nat.le_of_ble_eq_true rfl) rfl rfl ?_
    exact (em_X11_undo_L21 _ _ _ h).fewer (rx_le_s (rx_le_s rx_le_0))
  · replace h := rx_if_t c2 h
    refine ev_iconst (v := 0) 8 dX11_undo_7 (by decide) rfl ?_
    exact ev_zreturn dX11_undo_8 rfl (by decide) (rx_ret_i h)

def f_X11_isRow (N : Nat) (x0 : Int32) (S0 : rx_S) : Option (Int32 × rx_S) := rx_bd (f_X11_wordsIn N x0 S0) (fun x3 S2 => if x3 < 0 then (some (0, S2)) else (some (1, S2)))
set_option maxHeartbeats 4000000 in
set_option maxRecDepth 20000 in
theorem em_X11_isRow {G : Nat × Nat} {d N : Nat} {x0 : Int32} {S0 : rx_S} {zr : Int32} {zS : rx_S} (h : f_X11_isRow N x0 S0 = some (zr, zS)) : EM G (d + 1) mX11_isRow [.int x0] S0 (rx_pi zr zS) := by
  unfold f_X11_isRow at h
  show EV G (d + 1) mX11_isRow 0 [some (.int x0)] [] S0 (rx_pi zr zS)
  refine ev_iload_n (i := 0) 1 dX11_isRow_0 rfl rfl rfl ?_
  obtain ⟨x3, S2, g4, h⟩ := rx_bd_o h
  refine ev_cSi1 4 dX11_isRow_1 (em_X11_wordsIn g4) mm_X11_wordsIn ms_X11_wordsIn lk_11_351 (Nat.le_of_ble_eq_true rfl) (Nat.le_of_ble_eq_true rfl) rfl ?_
  refine ev_if_lt 11 7 dX11_isRow_4 rfl rfl (fun c5 => ?_) (fun c5 => ?_)
  · replace h := rx_if_t c5 h
    refine ev_iconst (v := 0) 12 dX11_isRow_11 (by decide) rfl ?_
    exact ev_zreturn dX11_isRow_12 rfl (by decide) (rx_ret_i h)
  · replace h := rx_if_f c5 h
    refine ev_iconst (v := 1) 8 dX11_isRow_7 (by decide) rfl ?_
    refine ev_goto 12 dX11_isRow_8 rfl ?_
    exact ev_zreturn dX11_isRow_12 rfl (by decide) (rx_ret_i h)

def f_X11_bends (N : Nat) (x1 : Int32) (x2 : Int32) (x3 : Int32) (S0 : rx_S) : Option (Int32 × rx_S) := rx_bd (f_X11_isThird x1 S0) (fun x6 S5 => if x6 = 0 then (some ((-1), S5)) else (rx_bd (f_X11_in x2 0 7 S5) (fun x10 S9 => if x10 = 0 then (some ((-1), S9)) else (rx_bd (f_X11_in x3 0 4 S9) (fun x14 S13 => if x14 = 0 then (some ((-1), S13)) else (rx_bd (f_X11_copies N S13) (fun x18 S17 => rx_bd (f_X11_putAs N x1 x2 x3 S17) (fun x21 S20 => some (x21, S20)))))))))
set_option maxHeartbeats 4000000 in
set_option maxRecDepth 20000 in
theorem em_X11_bends {d N : Nat} {x1 : Int32} {x2 : Int32} {x3 : Int32} {S0 : rx_S} {zr : Int32} {zS : rx_S} (h : f_X11_bends N x1 x2 x3 S0 = some (zr, zS)) : EM gM (d + 4) mX11_bends [.ref 94, .int x1, .int x2, .int x3] S0 (rx_pi zr zS) := by
  unfold f_X11_bends at h
  show EV gM (d + 4) mX11_bends 0 [some (.ref 94), some (.int x1), some (.int x2), some (.int x3)] [] S0 (rx_pi zr zS)
  refine ev_aload_n (i := 0) 1 dX11_bends_0 rfl rfl rfl ?_
  refine ev_iload_n (i := 1) 2 dX11_bends_1 rfl rfl rfl ?_
  obtain ⟨x6, S5, g7, h⟩ := rx_bd_o h
  refine ev_cVi1 5 dX11_bends_2 (em_X11_isThird g7) mm_X11_isThird mv_X11_isThird lk_11_402 dk_94 (by decide) rfl (Nat.le_of_ble_eq_true rfl) (Nat.le_of_ble_eq_true rfl) rfl ?_
  refine ev_if_eq 27 8 dX11_bends_5 rfl rfl (fun c8 => ?_) (fun c8 => ?_)
  · replace h := rx_if_t c8 h
    refine ev_iconst (v := (-1)) 28 dX11_bends_27 (by decide) rfl ?_
    exact ev_ireturn dX11_bends_28 rfl (rx_ret_i h)
  · replace h := rx_if_f c8 h
    refine ev_iload_n (i := 2) 9 dX11_bends_8 rfl rfl rfl ?_
    refine ev_iconst (v := 0) 10 dX11_bends_9 (by decide) rfl ?_
    refine ev_bipush (v := 7) 12 dX11_bends_10 (by decide) rfl ?_
    obtain ⟨x10, S9, g11, h⟩ := rx_bd_o h
    refine ev_cSi3 15 dX11_bends_12 (em_X11_in g11) mm_X11_in ms_X11_in lk_11_316 (Nat.le_of_ble_eq_true rfl) (Nat.le_of_ble_eq_true rfl) rfl ?_
    refine ev_if_eq 27 18 dX11_bends_15 rfl rfl (fun c12 => ?_) (fun c12 => ?_)
    · replace h := rx_if_t c12 h
      refine ev_iconst (v := (-1)) 28 dX11_bends_27 (by decide) rfl ?_
      exact ev_ireturn dX11_bends_28 rfl (rx_ret_i h)
    · replace h := rx_if_f c12 h
      refine ev_iload_n (i := 3) 19 dX11_bends_18 rfl rfl rfl ?_
      refine ev_iconst (v := 0) 20 dX11_bends_19 (by decide) rfl ?_
      refine ev_iconst (v := 4) 21 dX11_bends_20 (by decide) rfl ?_
      obtain ⟨x14, S13, g15, h⟩ := rx_bd_o h
      refine ev_cSi3 24 dX11_bends_21 (em_X11_in g15) mm_X11_in ms_X11_in lk_11_316 (Nat.le_of_ble_eq_true rfl) (Nat.le_of_ble_eq_true rfl) rfl ?_
      refine ev_if_ne 29 27 dX11_bends_24 rfl rfl (fun c16 => ?_) (fun c16 => ?_)
      · replace h := rx_if_f c16 h
        refine ev_aload_n (i := 0) 30 dX11_bends_29 rfl rfl rfl ?_
        obtain ⟨x18, S17, g19, h⟩ := rx_bd_o h
        refine ev_cVv0 33 dX11_bends_30 (em_X11_copies g19) mm_X11_copies mv_X11_copies lk_11_396 dk_94 (by decide) rfl (Nat.le_of_ble_eq_true rfl) (Nat.le_of_ble_eq_true rfl) rfl ?_
        refine ev_aload_n (i := 0) 34 dX11_bends_33 rfl rfl rfl ?_
        refine ev_iload_n (i := 1) 35 dX11_bends_34 rfl rfl rfl ?_
        refine ev_iload_n (i := 2) 36 dX11_bends_35 rfl rfl rfl ?_
        refine ev_iload_n (i := 3) 37 dX11_bends_36 rfl rfl rfl ?_
        obtain ⟨x21, S20, g22, h⟩ := rx_bd_o h
        refine ev_cVi3 40 dX11_bends_37 (em_X11_putAs g22) mm_X11_putAs mv_X11_putAs lk_11_357 dk_94 (by decide) rfl (Nat.le_of_ble_eq_true rfl) (Nat.le_of_ble_eq_true rfl) rfl ?_
        exact ev_ireturn dX11_bends_40 rfl (rx_ret_i h)
      · replace h := rx_if_t c16 h
        refine ev_iconst (v := (-1)) 28 dX11_bends_27 (by decide) rfl ?_
        exact ev_ireturn dX11_bends_28 rfl (rx_ret_i h)

def f_X11_heard (N : Nat) (x1 : Int32) (x2 : Int32) (S0 : rx_S) : Option (Int32 × rx_S) := rx_bd (f_X11_isThird x1 S0) (fun x5 S4 => if x5 = 0 then (some ((-1), S4)) else (rx_bd (f_X11_isRow N x2 S4) (fun x9 S8 => if x9 = 0 then (some ((-1), S8)) else (rx_bd (f_X11_copies N S8) (fun x13 S12 => rx_bd (f_X11_putBy N x1 x2 (-1) S12) (fun x16 S15 => some (x16, S15)))))))
set_option maxHeartbeats 4000000 in
set_option maxRecDepth 20000 in
theorem em_X11_heard {d N : Nat} {x1 : Int32} {x2 : Int32} {S0 : rx_S} {zr : Int32} {zS : rx_S} (h : f_X11_heard N x1 x2 S0 = some (zr, zS)) : EM gM (d + 5) mX11_heard [.ref 94, .int x1, .int x2] S0 (rx_pi zr zS) := by
  unfold f_X11_heard at h
  show EV gM (d + 5) mX11_heard 0 [some (.ref 94), some (.int x1), some (.int x2)] [] S0 (rx_pi zr zS)
  refine ev_aload_n (i := 0) 1 dX11_heard_0 rfl rfl rfl ?_
  refine ev_iload_n (i := 1) 2 dX11_heard_1 rfl rfl rfl ?_
  obtain ⟨x5, S4, g6, h⟩ := rx_bd_o h
  refine ev_cVi1 5 dX11_heard_2 (em_X11_isThird g6) mm_X11_isThird mv_X11_isThird lk_11_402 dk_94 (by decide) rfl (Nat.le_of_ble_eq_true rfl) (Nat.le_of_ble_eq_true rfl) rfl ?_
  refine ev_if_eq 15 8 dX11_heard_5 rfl rfl (fun c7 => ?_) (fun c7 => ?_)
  · replace h := rx_if_t c7 h
    refine ev_iconst (v := (-1)) 16 dX11_heard_15 (by decide) rfl ?_
    exact ev_ireturn dX11_heard_16 rfl (rx_ret_i h)
  · replace h := rx_if_f c7 h
    refine ev_iload_n (i := 2) 9 dX11_heard_8 rfl rfl rfl ?_
    obtain ⟨x9, S8, g10, h⟩ := rx_bd_o h
    refine ev_cSi1 12 dX11_heard_9 (em_X11_isRow g10) mm_X11_isRow ms_X11_isRow lk_11_412 (Nat.le_of_ble_eq_true rfl) (Nat.le_of_ble_eq_true rfl) rfl ?_
    refine ev_if_ne 17 15 dX11_heard_12 rfl rfl (fun c11 => ?_) (fun c11 => ?_)
    · replace h := rx_if_f c11 h
      refine ev_aload_n (i := 0) 18 dX11_heard_17 rfl rfl rfl ?_
      obtain ⟨x13, S12, g14, h⟩ := rx_bd_o h
      refine ev_cVv0 21 dX11_heard_18 (em_X11_copies g14) mm_X11_copies mv_X11_copies lk_11_396 dk_94 (by decide) rfl (Nat.le_of_ble_eq_true rfl) (Nat.le_of_ble_eq_true rfl) rfl ?_
      refine ev_aload_n (i := 0) 22 dX11_heard_21 rfl rfl rfl ?_
      refine ev_iload_n (i := 1) 23 dX11_heard_22 rfl rfl rfl ?_
      refine ev_iload_n (i := 2) 24 dX11_heard_23 rfl rfl rfl ?_
      refine ev_iconst (v := (-1)) 25 dX11_heard_24 (by decide) rfl ?_
      obtain ⟨x16, S15, g17, h⟩ := rx_bd_o h
      refine ev_cVi3 28 dX11_heard_25 (em_X11_putBy g17) mm_X11_putBy mv_X11_putBy lk_11_375 dk_94 (by decide) rfl (Nat.le_of_ble_eq_true rfl) (Nat.le_of_ble_eq_true rfl) rfl ?_
      exact ev_ireturn dX11_heard_28 rfl (rx_ret_i h)
    · replace h := rx_if_t c11 h
      refine ev_iconst (v := (-1)) 16 dX11_heard_15 (by decide) rfl ?_
      exact ev_ireturn dX11_heard_16 rfl (rx_ret_i h)

def f_X11_chain (N : Nat) (x1 : Int32) (x2 : Int32) (x3 : Int32) (S0 : rx_S) : Option (Int32 × rx_S) := rx_bd (f_X11_isThird x1 S0) (fun x6 S5 => if x6 = 0 then (some ((-1), S5)) else (rx_bd (f_X11_isThird x2 S5) (fun x10 S9 => if x10 = 0 then (some ((-1), S9)) else (rx_bd (f_X11_isRow N x3 S9) (fun x14 S13 => if x14 = 0 then (some ((-1), S13)) else (rx_bd (f_X11_copies N S13) (fun x18 S17 => rx_bd (f_X11_putBy N x1 x3 (-1) S17) (fun x21 S20 => rx_bd (f_X11_putBy N x2 x21 (-1) S20) (fun x24 S23 => some (x24, S23))))))))))
set_option maxHeartbeats 4000000 in
set_option maxRecDepth 20000 in
theorem em_X11_chain {d N : Nat} {x1 : Int32} {x2 : Int32} {x3 : Int32} {S0 : rx_S} {zr : Int32} {zS : rx_S} (h : f_X11_chain N x1 x2 x3 S0 = some (zr, zS)) : EM gM (d + 5) mX11_chain [.ref 94, .int x1, .int x2, .int x3] S0 (rx_pi zr zS) := by
  unfold f_X11_chain at h
  show EV gM (d + 5) mX11_chain 0 [some (.ref 94), some (.int x1), some (.int x2), some (.int x3)] [] S0 (rx_pi zr zS)
  refine ev_aload_n (i := 0) 1 dX11_chain_0 rfl rfl rfl ?_
  refine ev_iload_n (i := 1) 2 dX11_chain_1 rfl rfl rfl ?_
  obtain ⟨x6, S5, g7, h⟩ := rx_bd_o h
  refine ev_cVi1 5 dX11_chain_2 (em_X11_isThird g7) mm_X11_isThird mv_X11_isThird lk_11_402 dk_94 (by decide) rfl (Nat.le_of_ble_eq_true rfl) (Nat.le_of_ble_eq_true rfl) rfl ?_
  refine ev_if_eq 23 8 dX11_chain_5 rfl rfl (fun c8 => ?_) (fun c8 => ?_)
  · replace h := rx_if_t c8 h
    refine ev_iconst (v := (-1)) 24 dX11_chain_23 (by decide) rfl ?_
    exact ev_ireturn dX11_chain_24 rfl (rx_ret_i h)
  · replace h := rx_if_f c8 h
    refine ev_aload_n (i := 0) 9 dX11_chain_8 rfl rfl rfl ?_
    refine ev_iload_n (i := 2) 10 dX11_chain_9 rfl rfl rfl ?_
    obtain ⟨x10, S9, g11, h⟩ := rx_bd_o h
    refine ev_cVi1 13 dX11_chain_10 (em_X11_isThird g11) mm_X11_isThird mv_X11_isThird lk_11_402 dk_94 (by decide) rfl (Nat.le_of_ble_eq_true rfl) (Nat.le_of_ble_eq_true rfl) rfl ?_
    refine ev_if_eq 23 16 dX11_chain_13 rfl rfl (fun c12 => ?_) (fun c12 => ?_)
    · replace h := rx_if_t c12 h
      refine ev_iconst (v := (-1)) 24 dX11_chain_23 (by decide) rfl ?_
      exact ev_ireturn dX11_chain_24 rfl (rx_ret_i h)
    · replace h := rx_if_f c12 h
      refine ev_iload_n (i := 3) 17 dX11_chain_16 rfl rfl rfl ?_
      obtain ⟨x14, S13, g15, h⟩ := rx_bd_o h
      refine ev_cSi1 20 dX11_chain_17 (em_X11_isRow g15) mm_X11_isRow ms_X11_isRow lk_11_412 (Nat.le_of_ble_eq_true rfl) (Nat.le_of_ble_eq_true rfl) rfl ?_
      refine ev_if_ne 25 23 dX11_chain_20 rfl rfl (fun c16 => ?_) (fun c16 => ?_)
      · replace h := rx_if_f c16 h
        refine ev_aload_n (i := 0) 26 dX11_chain_25 rfl rfl rfl ?_
        obtain ⟨x18, S17, g19, h⟩ := rx_bd_o h
        refine ev_cVv0 29 dX11_chain_26 (em_X11_copies g19) mm_X11_copies mv_X11_copies lk_11_396 dk_94 (by decide) rfl (Nat.le_of_ble_eq_true rfl) (Nat.le_of_ble_eq_true rfl) rfl ?_
        refine ev_aload_n (i := 0) 30 dX11_chain_29 rfl rfl rfl ?_
        refine ev_iload_n (i := 2) 31 dX11_chain_30 rfl rfl rfl ?_
        refine ev_aload_n (i := 0) 32 dX11_chain_31 rfl rfl rfl ?_
        refine ev_iload_n (i := 1) 33 dX11_chain_32 rfl rfl rfl ?_
        refine ev_iload_n (i := 3) 34 dX11_chain_33 rfl rfl rfl ?_
        refine ev_iconst (v := (-1)) 35 dX11_chain_34 (by decide) rfl ?_
        obtain ⟨x21, S20, g22, h⟩ := rx_bd_o h
        refine ev_cVi3 38 dX11_chain_35 (em_X11_putBy g22) mm_X11_putBy mv_X11_putBy lk_11_375 dk_94 (by decide) rfl (Nat.le_of_ble_eq_true rfl) (Nat.le_of_ble_eq_true rfl) rfl ?_
        refine ev_iconst (v := (-1)) 39 dX11_chain_38 (by decide) rfl ?_
        obtain ⟨x24, S23, g25, h⟩ := rx_bd_o h
        refine ev_cVi3 42 dX11_chain_39 (em_X11_putBy g25) mm_X11_putBy mv_X11_putBy lk_11_375 dk_94 (by decide) rfl (Nat.le_of_ble_eq_true rfl) (Nat.le_of_ble_eq_true rfl) rfl ?_
        exact ev_ireturn dX11_chain_42 rfl (rx_ret_i h)
      · replace h := rx_if_t c16 h
        refine ev_iconst (v := (-1)) 24 dX11_chain_23 (by decide) rfl ?_
        exact ev_ireturn dX11_chain_24 rfl (rx_ret_i h)

def f_X11_fillsPut_L2 (N : Nat) : Nat → Int32 → Int32 → rx_S → Option (Unit × rx_S)
  | 0, _, _, _ => none
  | n + 1, x3, x4, S5 => if (32 : Int32) ≤ x4 then (some ((), S5)) else (rx_bd (f_X11_putAs N x3 (rx_rem x4 8) (x4 / 8) S5) (fun x8 S7 => rx_gd x4 32 (rx_let (rx_ui S7 129 (Int32.toNatClampNeg x4) x8) (fun S11 => rx_let (x4 + 1) (fun x12 => f_X11_fillsPut_L2 N n x3 x12 S11)))))
def f_X11_fillsPut (N : Nat) (x1 : Int32) (S0 : rx_S) : Option (Unit × rx_S) := f_X11_fillsPut_L2 N N x1 0 S0
set_option maxHeartbeats 4000000 in
set_option maxRecDepth 20000 in
theorem em_X11_fillsPut_L2 {d N : Nat} {zr : Unit} {zS : rx_S} : ∀ (n : Nat) (x3 : Int32) (x4 : Int32) (S5 : rx_S), f_X11_fillsPut_L2 N n x3 x4 S5 = some (zr, zS) → EV gM (d + 4) mX11_fillsPut 2 [some (.ref 94), some (.int x3), some (.int x4)] [] S5 (rx_pv zS) := by
  intro n
  induction n with
  | zero => intro x3 x4 S5 h; cases h
  | succ n ih =>
    intro x3 x4 S5 h
    rw [f_X11_fillsPut_L2] at h
    refine ev_iload_n (i := 2) 3 dX11_fillsPut_2 rfl rfl rfl ?_
    refine ev_bipush (v := 32) 5 dX11_fillsPut_3 (by decide) rfl ?_
    refine ev_icmp_ge 33 8 dX11_fillsPut_5 rfl rfl (fun c6 => ?_) (fun c6 => ?_)
    · replace h := rx_if_t c6 h
      exact ev_return dX11_fillsPut_33 rfl (rx_ret_v h)
    · replace h := rx_if_f c6 h
      refine ev_aload_n (i := 0) 9 dX11_fillsPut_8 rfl rfl rfl ?_
      refine ev_get (v := .ref 129) 12 dX11_fillsPut_9 dk_94 fl_11_122 (by decide) rfl rfl rfl ?_
      refine ev_iload_n (i := 2) 13 dX11_fillsPut_12 rfl rfl rfl ?_
      refine ev_aload_n (i := 0) 14 dX11_fillsPut_13 rfl rfl rfl ?_
      refine ev_iload_n (i := 1) 15 dX11_fillsPut_14 rfl rfl rfl ?_
      refine ev_iload_n (i := 2) 16 dX11_fillsPut_15 rfl rfl rfl ?_
      refine ev_bipush (v := 8) 18 dX11_fillsPut_16 (by decide) rfl ?_
      refine ev_rem 19 dX11_fillsPut_18 (by decide) rfl ?_
      refine ev_iload_n (i := 2) 20 dX11_fillsPut_19 rfl rfl rfl ?_
      refine ev_bipush (v := 8) 22 dX11_fillsPut_20 (by decide) rfl ?_
      refine ev_idiv 23 dX11_fillsPut_22 (by decide) rfl ?_
      obtain ⟨x8, S7, g9, h⟩ := rx_bd_o h
      refine ev_cVi3 26 dX11_fillsPut_23 (em_X11_putAs g9) mm_X11_putAs mv_X11_putAs lk_11_357 dk_94 (by decide) rfl (Nat.le_of_ble_eq_true rfl) (Nat.le_of_ble_eq_true rfl) rfl ?_
      obtain ⟨g10, h⟩ := rx_gd_o h
      obtain ⟨S11, eS11, h⟩ := rx_let_o h
      refine ex_iast _ 27 dX11_fillsPut_26 dk_129 g10 rfl rfl eS11 ?_
      obtain ⟨x12, ex12, h⟩ := rx_let_o h
      refine ev_iinc (v := x12) (ls' := [some (.ref 94), some (.int x3), some (.int x12)]) 30 dX11_fillsPut_27 rfl (by rw [ex12]; rfl) (Nat.le_of_ble_eq_true rfl) rfl rfl ?_
      refine ev_goto 2 dX11_fillsPut_30 rfl ?_
      exact (ih _ _ _ h).fewer (rx_le_s (rx_le_s (rx_le_s rx_le_0)))

set_option maxHeartbeats 4000000 in
set_option maxRecDepth 20000 in
theorem em_X11_fillsPut {d N : Nat} {x1 : Int32} {S0 : rx_S} {zr : Unit} {zS : rx_S} (h : f_X11_fillsPut N x1 S0 = some (zr, zS)) : EM gM (d + 4) mX11_fillsPut [.ref 94, .int x1] S0 (rx_pv zS) := by
  unfold f_X11_fillsPut at h
  show EV gM (d + 4) mX11_fillsPut 0 [some (.ref 94), some (.int x1), none] [] S0 (rx_pv zS)
  refine ev_iconst (v := 0) 1 dX11_fillsPut_0 (by decide) rfl ?_
  refine ev_istore_n (ls' := [some (.ref 94), some (.int x1), some (.int 0)]) 2 dX11_fillsPut_1 rfl (Nat.le_of_ble_eq_true rfl) rfl rfl ?_
  exact (em_X11_fillsPut_L2 _ _ _ _ h).fewer (rx_le_s (rx_le_s (rx_le_s rx_le_0)))

def f_X11_putWith_L5 (N : Nat) : Nat → Int32 → Int32 → Int32 → Int32 → rx_S → Option (Int32 × rx_S)
  | 0, _, _, _, _, _ => none
  | n + 1, x4, x5, x6, x7, S8 => if x5 ≤ x7 then (some (x6, S8)) else (rx_bd (f_X11_wordIn N x4 x5 x7 S8) (fun x11 S10 => rx_gd (((8 : Int32) * x7) + x11) 32 (rx_let (S10.1 129 (Int32.toNatClampNeg (((8 : Int32) * x7) + x11))) (fun x14 => if (8 : Int32) ≤ x14 then (rx_let (x7 + 1) (fun x16 => f_X11_putWith_L5 N n x4 x5 x6 x16 S10)) else (rx_let (((8 : Int32) * x6) + x14) (fun x17 => rx_let (x7 + 1) (fun x18 => f_X11_putWith_L5 N n x4 x5 x17 x18 S10)))))))
def f_X11_putWith (N : Nat) (x1 : Int32) (x2 : Int32) (S0 : rx_S) : Option (Int32 × rx_S) := f_X11_putWith_L5 N N x1 x2 1 0 S0
set_option maxHeartbeats 4000000 in
set_option maxRecDepth 20000 in
theorem em_X11_putWith_L5 {d N : Nat} {zr : Int32} {zS : rx_S} : ∀ (n : Nat) (x4 : Int32) (x5 : Int32) (x6 : Int32) (x7 : Int32) (S8 : rx_S), f_X11_putWith_L5 N n x4 x5 x6 x7 S8 = some (zr, zS) → EV gM (d + 2) mX11_putWith 5 [some (.ref 94), some (.int x4), some (.int x5), some (.int x6), some (.int x7), none] [] S8 (rx_pi zr zS) := by
  intro n
  induction n with
  | zero => intro x4 x5 x6 x7 S8 h; cases h
  | succ n ih =>
    intro x4 x5 x6 x7 S8 h
    rw [f_X11_putWith_L5] at h
    refine ev_iload 7 dX11_putWith_5 rfl rfl ?_
    refine ev_iload_n (i := 2) 8 dX11_putWith_7 rfl rfl rfl ?_
    refine ev_icmp_ge 52 11 dX11_putWith_8 rfl rfl (fun c9 => ?_) (fun c9 => ?_)
    · replace h := rx_if_t c9 h
      refine ev_iload_n (i := 3) 53 dX11_putWith_52 rfl rfl rfl ?_
      exact ev_ireturn dX11_putWith_53 rfl (rx_ret_i h)
    · replace h := rx_if_f c9 h
      refine ev_aload_n (i := 0) 12 dX11_putWith_11 rfl rfl rfl ?_
      refine ev_get (v := .ref 129) 15 dX11_putWith_12 dk_94 fl_11_122 (by decide) rfl rfl rfl ?_
      refine ev_bipush (v := 8) 17 dX11_putWith_15 (by decide) rfl ?_
      refine ev_iload 19 dX11_putWith_17 rfl rfl ?_
      refine ev_imul 20 dX11_putWith_19 rfl ?_
      refine ev_iload_n (i := 1) 21 dX11_putWith_20 rfl rfl rfl ?_
      refine ev_iload_n (i := 2) 22 dX11_putWith_21 rfl rfl rfl ?_
      refine ev_iload 24 dX11_putWith_22 rfl rfl ?_
      obtain ⟨x11, S10, g12, h⟩ := rx_bd_o h
      refine ev_cSi3 27 dX11_putWith_24 (em_X11_wordIn g12) mm_X11_wordIn ms_X11_wordIn lk_11_354 (Nat.le_of_ble_eq_true rfl) (Nat.le_of_ble_eq_true rfl) rfl ?_
      refine ev_iadd 28 dX11_putWith_27 rfl ?_
      obtain ⟨g13, h⟩ := rx_gd_o h
      refine ex_iald _ 29 dX11_putWith_28 dk_129 g13 rfl rfl ?_
      obtain ⟨x14, ex14, h⟩ := rx_let_o h
      refine ev_nm ex14 ?_
      refine ev_istore (ls' := [some (.ref 94), some (.int x4), some (.int x5), some (.int x6), some (.int x7), some (.int x14)]) 31 dX11_putWith_29 (Nat.le_of_ble_eq_true rfl) rfl rfl ?_
      refine ev_iload 33 dX11_putWith_31 rfl rfl ?_
      refine ev_bipush (v := 8) 35 dX11_putWith_33 (by decide) rfl ?_
      refine ev_icmp_ge 46 38 dX11_putWith_35 rfl rfl (fun c15 => ?_) (fun c15 => ?_)
      · replace h := rx_if_t c15 h
        obtain ⟨x16, ex16, h⟩ := rx_let_o h
        refine ev_iinc (v := x16) (ls' := [some (.ref 94), some (.int x4), some (.int x5), some (.int x6), some (.int x16), some (.int x14)]) 49 dX11_putWith_46 rfl (by rw [ex16]; rfl) (Nat.le_of_ble_eq_true rfl) rfl rfl ?_
        refine ev_goto 5 dX11_putWith_49 rfl ?_
        exact (ih _ _ _ _ _ h).fewer (rx_le_s (rx_le_s (rx_le_s (rx_le_s (rx_le_s (rx_le_n rx_le_0))))))
      · replace h := rx_if_f c15 h
        refine ev_bipush (v := 8) 40 dX11_putWith_38 (by decide) rfl ?_
        refine ev_iload_n (i := 3) 41 dX11_putWith_40 rfl rfl rfl ?_
        refine ev_imul 42 dX11_putWith_41 rfl ?_
        refine ev_iload 44 dX11_putWith_42 rfl rfl ?_
        refine ev_iadd 45 dX11_putWith_44 rfl ?_
        obtain ⟨x17, ex17, h⟩ := rx_let_o h
        refine ev_nm ex17 ?_
        refine ev_istore_n (ls' := [some (.ref 94), some (.int x4), some (.int x5), some (.int x17), some (.int x7), some (.int x14)]) 46 dX11_putWith_45 rfl (Nat.le_of_ble_eq_true rfl) rfl rfl ?_
        obtain ⟨x18, ex18, h⟩ := rx_let_o h
        refine ev_iinc (v := x18) (ls' := [some (.ref 94), some (.int x4), some (.int x5), some (.int x17), some (.int x18), some (.int x14)]) 49 dX11_putWith_46 rfl (by rw [ex18]; rfl) (Nat.le_of_ble_eq_true rfl) rfl rfl ?_
        refine ev_goto 5 dX11_putWith_49 rfl ?_
        exact (ih _ _ _ _ _ h).fewer (rx_le_s (rx_le_s (rx_le_s (rx_le_s (rx_le_s (rx_le_n rx_le_0))))))

set_option maxHeartbeats 4000000 in
set_option maxRecDepth 20000 in
theorem em_X11_putWith {d N : Nat} {x1 : Int32} {x2 : Int32} {S0 : rx_S} {zr : Int32} {zS : rx_S} (h : f_X11_putWith N x1 x2 S0 = some (zr, zS)) : EM gM (d + 2) mX11_putWith [.ref 94, .int x1, .int x2] S0 (rx_pi zr zS) := by
  unfold f_X11_putWith at h
  show EV gM (d + 2) mX11_putWith 0 [some (.ref 94), some (.int x1), some (.int x2), none, none, none] [] S0 (rx_pi zr zS)
  refine ev_iconst (v := 1) 1 dX11_putWith_0 (by decide) rfl ?_
  refine ev_istore_n (ls' := [some (.ref 94), some (.int x1), some (.int x2), some (.int 1), none, none]) 2 dX11_putWith_1 rfl (Nat.le_of_ble_eq_true rfl) rfl rfl ?_
  refine ev_iconst (v := 0) 3 dX11_putWith_2 (by decide) rfl ?_
  refine ev_istore (ls' := [some (.ref 94), some (.int x1), some (.int x2), some (.int 1), some (.int 0), none]) 5 dX11_putWith_3 (Nat.le_of_ble_eq_true rfl) rfl rfl ?_
  exact (em_X11_putWith_L5 _ _ _ _ _ _ h).fewer (rx_le_s (rx_le_s (rx_le_s (rx_le_s (rx_le_s (rx_le_n rx_le_0))))))

def f_X11_say_L39 (N : Nat) (K70 : Int32 → Int32 → rx_S → Option (Int32 × rx_S)) : Nat → Int32 → Int32 → Int32 → rx_S → Option (Int32 × rx_S)
  | 0, _, _, _, _ => none
  | n + 1, x29, x30, x31, S32 => rx_bd (f_X11_eights N x30 S32) (fun x37 S36 => if ((2 : Int32) * x37) ≤ x31 then (K70 x29 x30 S36) else (rx_bd (f_X11_putWith N x31 x30 S36) (fun x41 S40 => if x41 = x29 then (some (x31, S40)) else (rx_let (x31 + 1) (fun x44 => f_X11_say_L39 N K70 n x29 x30 x44 S40)))))
def f_X11_say_L28 (N : Nat) : Nat → Int32 → Int32 → rx_S → Option (Int32 × rx_S)
  | 0, _, _, _ => none
  | n + 1, x18, x19, S20 => if (4 : Int32) < x19 then (some ((-2), S20)) else (rx_bd (f_X11_eights N x19 S20) (fun x23 S22 => rx_let (fun (x25 : Int32) (x26 : Int32) (S27 : rx_S) => rx_let (x26 + 1) (fun x28 => f_X11_say_L28 N n x25 x28 S27)) (fun J70_1 => f_X11_say_L39 N J70_1 N x18 x19 x23 S22)))
def f_X11_say (N : Nat) (x1 : Int32) (x2 : Int32) (S0 : rx_S) : Option (Int32 × rx_S) := rx_bd (f_X11_isThird x1 S0) (fun x5 S4 => if x5 = 0 then (some ((-1), S4)) else (rx_bd (f_X11_isRow N x2 S4) (fun x9 S8 => if x9 = 0 then (some ((-1), S8)) else (rx_bd (f_X11_copies N S8) (fun x13 S12 => rx_bd (f_X11_fillsPut N x1 S12) (fun x16 S15 => f_X11_say_L28 N N x2 0 S15))))))
set_option maxHeartbeats 4000000 in
set_option maxRecDepth 20000 in
theorem em_X11_say_L39 {d N : Nat} {K70 : Int32 → Int32 → rx_S → Option (Int32 × rx_S)} {zr : Int32} {zS : rx_S} (hK70 : ∀ (x33 : Int32) (x34 : Int32) (S35 : rx_S), K70 x33 x34 S35 = some (zr, zS) → EV gM (d + 5) mX11_say 70 [some (.ref 94), none, some (.int x33), some (.int x34), none] [] S35 (rx_pi zr zS)) : ∀ (n : Nat) (x29 : Int32) (x30 : Int32) (x31 : Int32) (S32 : rx_S), f_X11_say_L39 N K70 n x29 x30 x31 S32 = some (zr, zS) → EV gM (d + 5) mX11_say 39 [some (.ref 94), none, some (.int x29), some (.int x30), some (.int x31)] [] S32 (rx_pi zr zS) := by
  intro n
  induction n with
  | zero => intro x29 x30 x31 S32 h; cases h
  | succ n ih =>
    intro x29 x30 x31 S32 h
    rw [f_X11_say_L39] at h
    refine ev_iload 41 dX11_say_39 rfl rfl ?_
    refine ev_iconst (v := 2) 42 dX11_say_41 (by decide) rfl ?_
    refine ev_iload_n (i := 3) 43 dX11_say_42 rfl rfl rfl ?_
    obtain ⟨x37, S36, g38, h⟩ := rx_bd_o h
    refine ev_cSi1 46 dX11_say_43 (em_X11_eights g38) mm_X11_eights ms_X11_eights lk_11_330 (Nat.le_of_ble_eq_true rfl) (Nat.le_of_ble_eq_true rfl) rfl ?_
    refine ev_imul 47 dX11_say_46 rfl ?_
    refine ev_icmp_ge 70 50 dX11_say_47 rfl rfl (fun c39 => ?_) (fun c39 => ?_)
    · replace h := rx_if_t c39 h
      exact (hK70 _ _ _ h).fewer (rx_le_s (rx_le_n (rx_le_s (rx_le_s (rx_le_n rx_le_0)))))
    · replace h := rx_if_f c39 h
      refine ev_aload_n (i := 0) 51 dX11_say_50 rfl rfl rfl ?_
      refine ev_iload 53 dX11_say_51 rfl rfl ?_
      refine ev_iload_n (i := 3) 54 dX11_say_53 rfl rfl rfl ?_
      obtain ⟨x41, S40, g42, h⟩ := rx_bd_o h
      refine ev_cVi2 57 dX11_say_54 (em_X11_putWith g42) mm_X11_putWith mv_X11_putWith lk_11_418 dk_94 (by decide) rfl (Nat.le_of_ble_eq_true rfl) (Nat.le_of_ble_eq_true rfl) rfl ?_
      refine ev_iload_n (i := 2) 58 dX11_say_57 rfl rfl rfl ?_
      refine ev_icmp_ne 64 61 dX11_say_58 rfl rfl (fun c43 => ?_) (fun c43 => ?_)
      · replace h := rx_if_f c43 h
        obtain ⟨x44, ex44, h⟩ := rx_let_o h
        refine ev_iinc (v := x44) (ls' := [some (.ref 94), none, some (.int x29), some (.int x30), some (.int x44)]) 67 dX11_say_64 rfl (by rw [ex44]; rfl) (Nat.le_of_ble_eq_true rfl) rfl rfl ?_
        refine ev_goto 39 dX11_say_67 rfl ?_
        exact (ih _ _ _ _ h).fewer (rx_le_s (rx_le_n (rx_le_s (rx_le_s (rx_le_s rx_le_0)))))
      · replace h := rx_if_t c43 h
        refine ev_iload 63 dX11_say_61 rfl rfl ?_
        exact ev_ireturn dX11_say_63 rfl (rx_ret_i h)

set_option maxHeartbeats 4000000 in
set_option maxRecDepth 20000 in
theorem em_X11_say_L28 {d N : Nat} {zr : Int32} {zS : rx_S} : ∀ (n : Nat) (x18 : Int32) (x19 : Int32) (S20 : rx_S), f_X11_say_L28 N n x18 x19 S20 = some (zr, zS) → EV gM (d + 5) mX11_say 28 [some (.ref 94), none, some (.int x18), some (.int x19), none] [] S20 (rx_pi zr zS) := by
  intro n
  induction n with
  | zero => intro x18 x19 S20 h; cases h
  | succ n ih =>
    intro x18 x19 S20 h
    rw [f_X11_say_L28] at h
    refine ev_iload_n (i := 3) 29 dX11_say_28 rfl rfl rfl ?_
    refine ev_iconst (v := 4) 30 dX11_say_29 (by decide) rfl ?_
    refine ev_icmp_gt 76 33 dX11_say_30 rfl rfl (fun c21 => ?_) (fun c21 => ?_)
    · replace h := rx_if_t c21 h
      refine ev_bipush (v := (-2)) 78 dX11_say_76 (by decide) rfl ?_
      exact ev_ireturn dX11_say_78 rfl (rx_ret_i h)
    · replace h := rx_if_f c21 h
      refine ev_iload_n (i := 3) 34 dX11_say_33 rfl rfl rfl ?_
      obtain ⟨x23, S22, g24, h⟩ := rx_bd_o h
      refine ev_cSi1 37 dX11_say_34 (em_X11_eights g24) mm_X11_eights ms_X11_eights lk_11_330 (Nat.le_of_ble_eq_true rfl) (Nat.le_of_ble_eq_true rfl) rfl ?_
      refine ev_istore (ls' := [some (.ref 94), none, some (.int x18), some (.int x19), some (.int x23)]) 39 dX11_say_37 (Nat.le_of_ble_eq_true rfl) rfl rfl ?_
      obtain ⟨J70_1, eJ70_1, h⟩ := rx_let_o h
      have hJ70_1 : ∀ (x25 : Int32) (x26 : Int32) (S27 : rx_S), J70_1 x25 x26 S27 = some (zr, zS) → EV gM (d + 5) mX11_say 70 [some (.ref 94), none, some (.int x25), some (.int x26), none] [] S27 (rx_pi zr zS) := by
        intro x25 x26 S27 h
        subst eJ70_1
        obtain ⟨x28, ex28, h⟩ := rx_let_o h
        refine ev_iinc (v := x28) (ls' := [some (.ref 94), none, some (.int x25), some (.int x28), none]) 73 dX11_say_70 rfl (by rw [ex28]; rfl) (Nat.le_of_ble_eq_true rfl) rfl rfl ?_
        refine ev_goto 28 dX11_say_73 rfl ?_
        exact (ih _ _ _ h).fewer (rx_le_s (rx_le_n (rx_le_s (rx_le_s (rx_le_n rx_le_0)))))
      exact (em_X11_say_L39 hJ70_1 _ _ _ _ _ h).fewer (rx_le_s (rx_le_n (rx_le_s (rx_le_s (rx_le_s rx_le_0)))))

set_option maxHeartbeats 4000000 in
set_option maxRecDepth 20000 in
theorem em_X11_say {d N : Nat} {x1 : Int32} {x2 : Int32} {S0 : rx_S} {zr : Int32} {zS : rx_S} (h : f_X11_say N x1 x2 S0 = some (zr, zS)) : EM gM (d + 5) mX11_say [.ref 94, .int x1, .int x2] S0 (rx_pi zr zS) := by
  unfold f_X11_say at h
  show EV gM (d + 5) mX11_say 0 [some (.ref 94), some (.int x1), some (.int x2), none, none] [] S0 (rx_pi zr zS)
  refine ev_aload_n (i := 0) 1 dX11_say_0 rfl rfl rfl ?_
  refine ev_iload_n (i := 1) 2 dX11_say_1 rfl rfl rfl ?_
  obtain ⟨x5, S4, g6, h⟩ := rx_bd_o h
  refine ev_cVi1 5 dX11_say_2 (em_X11_isThird g6) mm_X11_isThird mv_X11_isThird lk_11_402 dk_94 (by decide) rfl (Nat.le_of_ble_eq_true rfl) (Nat.le_of_ble_eq_true rfl) rfl ?_
  refine ev_if_eq 15 8 dX11_say_5 rfl rfl (fun c7 => ?_) (fun c7 => ?_)
  · replace h := rx_if_t c7 h
    refine ev_iconst (v := (-1)) 16 dX11_say_15 (by decide) rfl ?_
    exact ev_ireturn dX11_say_16 rfl (rx_ret_i h)
  · replace h := rx_if_f c7 h
    refine ev_iload_n (i := 2) 9 dX11_say_8 rfl rfl rfl ?_
    obtain ⟨x9, S8, g10, h⟩ := rx_bd_o h
    refine ev_cSi1 12 dX11_say_9 (em_X11_isRow g10) mm_X11_isRow ms_X11_isRow lk_11_412 (Nat.le_of_ble_eq_true rfl) (Nat.le_of_ble_eq_true rfl) rfl ?_
    refine ev_if_ne 17 15 dX11_say_12 rfl rfl (fun c11 => ?_) (fun c11 => ?_)
    · replace h := rx_if_f c11 h
      refine ev_aload_n (i := 0) 18 dX11_say_17 rfl rfl rfl ?_
      obtain ⟨x13, S12, g14, h⟩ := rx_bd_o h
      refine ev_cVv0 21 dX11_say_18 (em_X11_copies g14) mm_X11_copies mv_X11_copies lk_11_396 dk_94 (by decide) rfl (Nat.le_of_ble_eq_true rfl) (Nat.le_of_ble_eq_true rfl) rfl ?_
      refine ev_aload_n (i := 0) 22 dX11_say_21 rfl rfl rfl ?_
      refine ev_iload_n (i := 1) 23 dX11_say_22 rfl rfl rfl ?_
      obtain ⟨x16, S15, g17, h⟩ := rx_bd_o h
      refine ev_cVv1 26 dX11_say_23 (em_X11_fillsPut g17) mm_X11_fillsPut mv_X11_fillsPut lk_11_415 dk_94 (by decide) rfl (Nat.le_of_ble_eq_true rfl) (Nat.le_of_ble_eq_true rfl) rfl ?_
      refine ev_iconst (v := 0) 27 dX11_say_26 (by decide) rfl ?_
      refine ev_istore_n (ls' := [some (.ref 94), some (.int x1), some (.int x2), some (.int 0), none]) 28 dX11_say_27 rfl (Nat.le_of_ble_eq_true rfl) rfl rfl ?_
      exact (em_X11_say_L28 _ _ _ _ h).fewer (rx_le_s (rx_le_n (rx_le_s (rx_le_s (rx_le_n rx_le_0)))))
    · replace h := rx_if_t c11 h
      refine ev_iconst (v := (-1)) 16 dX11_say_15 (by decide) rfl ?_
      exact ev_ireturn dX11_say_16 rfl (rx_ret_i h)

