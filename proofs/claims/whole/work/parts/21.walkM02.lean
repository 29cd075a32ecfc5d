def f_X11_expression_L96 (N : Nat) (K145 : Int32 → rx_S → Option (Unit × rx_S)) : Nat → Int32 → rx_S → Option (Unit × rx_S)
  | 0, _, _ => none
  | n + 1, x76, S77 => rx_bd (f_X11_is 7 S77) (fun x81 S80 => if x81 = 0 then (K145 x76 S80) else (if (S80.1 94 12) ≤ x76 then (K145 x76 S80) else (rx_bd (f_X11_comesOut N 0 S80) (fun x86 S85 => rx_let (rx_ui S85 94 45 ((S85.1 94 45) - 1)) (fun S88 => rx_let (rx_ui S88 94 12 ((S88.1 94 12) - 1)) (fun S89 => rx_bd (f_X11_goesOn S89) (fun x91 S90 => f_X11_expression_L96 N K145 n x76 S90)))))))
def f_X11_expression_L23 (N : Nat) (K84 : Int32 → rx_S → Option (Unit × rx_S)) : Nat → Int32 → rx_S → Option (Unit × rx_S)
  | 0, _, _ => none
  | n + 1, x93, S94 => rx_bd (f_X11_is 6 S94) (fun x98 S97 => if x98 = 0 then (K84 x93 S97) else (rx_let (fun (x101 : Int32) (S102 : rx_S) => rx_let (rx_ui S102 94 12 ((S102.1 94 12) + 1)) (fun S103 => rx_bd (f_X11_goesOn S103) (fun x105 S104 => rx_gd (S104.1 94 45) 64 (rx_let (rx_ui S104 123 (Int32.toNatClampNeg (S104.1 94 45)) 6) (fun S108 => rx_let (rx_ui S108 94 45 ((S108.1 94 45) + 1)) (fun S109 => f_X11_expression_L23 N K84 n x101 S109)))))) (fun J46_9 => if (S97.1 94 12) = 6 then (rx_bd (f_X11_fail 2 S97) (fun x112 S111 => J46_9 x93 S111)) else (J46_9 x93 S97))))
def f_X11_expression_L12 (N : Nat) (K191 : Int32 → rx_S → Option (Unit × rx_S)) : Nat → Int32 → Int32 → rx_S → Option (Unit × rx_S)
  | 0, _, _, _ => none
  | n + 1, x14, x15, S16 => if x15 = 0 then (some ((), S16)) else (if (S16.1 94 13) = 0 then (rx_let (fun (x21 : Int32) (S22 : rx_S) => rx_bd (f_X11_unit S22) (fun x24 S23 => if (S23.1 94 13) ≤ 0 then (rx_let (fun (x27 : Int32) (S28 : rx_S) => rx_bd (f_X11_is 8 S28) (fun x30 S29 => rx_let (fun (x32 : Int32) (x33 : Int32) (S34 : rx_S) => if x33 = 0 then (K191 x32 S34) else (rx_bd (f_X11_is 10 S34) (fun x37 S36 => rx_let (fun (x39 : Int32) (x40 : Int32) (x41 : Int32) (S42 : rx_S) => rx_bd (f_X11_comesOut N x41 S42) (fun x44 S43 => rx_gd (S43.1 94 11) 403 (rx_gd (S43.1 94 45) 64 (rx_let (rx_ui S43 123 (Int32.toNatClampNeg (S43.1 94 45)) (S43.1 97 (Int32.toNatClampNeg (S43.1 94 11)))) (fun S48 => rx_let (rx_ui S48 94 45 ((S48.1 94 45) + 1)) (fun S49 => rx_bd (f_X11_goesOn S49) (fun x51 S50 => f_X11_expression_L12 N K191 n x39 x40 S50))))))) (fun J234_6 => rx_let (fun (x53 : Int32) (x54 : Int32) (S55 : rx_S) => J234_6 x53 x54 1 S55) (fun J229_7 => if x37 = 0 then (rx_bd (f_X11_is 15 S36) (fun x58 S57 => if x58 = 0 then (J234_6 x32 x33 0 S57) else (J229_7 x32 x33 S57))) else (J229_7 x32 x33 S36)))))) (fun J186_5 => rx_let (fun (x61 : Int32) (S62 : rx_S) => J186_5 x61 1 S62) (fun J181_8 => if x30 = 0 then (rx_bd (f_X11_is 9 S29) (fun x65 S64 => if x65 = 0 then (rx_bd (f_X11_is 10 S64) (fun x69 S68 => if x69 = 0 then (rx_bd (f_X11_is 15 S68) (fun x73 S72 => if x73 = 0 then (J186_5 x27 0 S72) else (J181_8 x27 S72))) else (J181_8 x27 S68))) else (J181_8 x27 S64))) else (J181_8 x27 S29))))) (fun J145_4 => f_X11_expression_L96 N J145_4 N x21 S23)) else (some ((), S23)))) (fun J84_3 => f_X11_expression_L23 N J84_3 N x14 S16)) else (some ((), S16)))
def f_X11_expression (N : Nat) (S0 : rx_S) : Option (Unit × rx_S) := rx_let (rx_ui S0 94 45 0) (fun S2 => rx_let (S2.1 94 12) (fun x3 => rx_let (fun (x4 : Int32) (S5 : rx_S) => rx_let (fun (S6 : rx_S) => rx_bd (f_X11_comesOut N 0 S6) (fun x8 S7 => some ((), S7))) (fun J204_2 => if (S5.1 94 12) ≤ x4 then (J204_2 S5) else (rx_bd (f_X11_fail 1 S5) (fun x12 S11 => J204_2 S11)))) (fun J191_1 => f_X11_expression_L12 N J191_1 N x3 1 S2)))
set_option maxHeartbeats 4000000 in
set_option maxRecDepth 20000 in
theorem em_X11_expression_L96 {d N : Nat} {K145 : Int32 → rx_S → Option (Unit × rx_S)} {zr : Unit} {zS : rx_S} (hK145 : ∀ (x78 : Int32) (S79 : rx_S), K145 x78 S79 = some (zr, zS) → EV gM (d + 3) mX11_expression 145 [some (.ref 94), some (.int x78), none] [] S79 (rx_pv zS)) : ∀ (n : Nat) (x76 : Int32) (S77 : rx_S), f_X11_expression_L96 N K145 n x76 S77 = some (zr, zS) → EV gM (d + 3) mX11_expression 96 [some (.ref 94), some (.int x76), none] [] S77 (rx_pv zS) := by
  intro n
  induction n with
  | zero => intro x76 S77 h; cases h
  | succ n ih =>
    intro x76 S77 h
    rw [f_X11_expression_L96] at h
    refine ev_aload_n (i := 0) 97 dX11_expression_96 rfl rfl rfl ?_
    refine ev_bipush (v := 7) 99 dX11_expression_97 (by decide) rfl ?_
    obtain ⟨x81, S80, g82, h⟩ := rx_bd_o h
    refine ev_cVi1 102 dX11_expression_99 (em_X11_is g82) mm_X11_is mv_X11_is lk_11_221 dk_94 (by decide) rfl (Nat.le_of_ble_eq_true rfl) (Nat.le_of_ble_eq_true rfl) rfl ?_
    refine ev_if_eq 145 105 dX11_expression_102 rfl rfl (fun c83 => ?_) (fun c83 => ?_)
    · replace h := rx_if_t c83 h
      exact (hK145 _ _ h).fewer (rx_le_s (rx_le_s (rx_le_n rx_le_0)))
    · replace h := rx_if_f c83 h
      refine ev_aload_n (i := 0) 106 dX11_expression_105 rfl rfl rfl ?_
      refine ev_get (v := .int (S80.1 94 12)) 109 dX11_expression_106 dk_94 fl_11_230 (by decide) rfl rfl rfl ?_
      refine ev_iload_n (i := 1) 110 dX11_expression_109 rfl rfl rfl ?_
      refine ev_icmp_le 145 113 dX11_expression_110 rfl rfl (fun c84 => ?_) (fun c84 => ?_)
      · replace h := rx_if_t c84 h
        exact (hK145 _ _ h).fewer (rx_le_s (rx_le_s (rx_le_n rx_le_0)))
      · replace h := rx_if_f c84 h
        refine ev_aload_n (i := 0) 114 dX11_expression_113 rfl rfl rfl ?_
        refine ev_iconst (v := 0) 115 dX11_expression_114 (by decide) rfl ?_
        obtain ⟨x86, S85, g87, h⟩ := rx_bd_o h
        refine ev_cVv1 118 dX11_expression_115 (em_X11_comesOut g87) mm_X11_comesOut mv_X11_comesOut lk_11_308 dk_94 (by decide) rfl (Nat.le_of_ble_eq_true rfl) (Nat.le_of_ble_eq_true rfl) rfl ?_
        refine ev_aload_n (i := 0) 119 dX11_expression_118 rfl rfl rfl ?_
        refine ev_dup 120 dX11_expression_119 rfl rfl ?_
        refine ev_get (v := .int (S85.1 94 45)) 123 dX11_expression_120 dk_94 fl_11_299 (by decide) rfl rfl rfl ?_
        refine ev_iconst (v := 1) 124 dX11_expression_123 (by decide) rfl ?_
        refine ev_isub 125 dX11_expression_124 rfl ?_
        obtain ⟨S88, eS88, h⟩ := rx_let_o h
        refine ex_put 128 dX11_expression_125 dk_94 fl_11_299 pp_11_45 (by decide) rfl rfl rfl rfl eS88 ?_
        refine ev_aload_n (i := 0) 129 dX11_expression_128 rfl rfl rfl ?_
        refine ev_dup 130 dX11_expression_129 rfl rfl ?_
        refine ev_get (v := .int (S88.1 94 12)) 133 dX11_expression_130 dk_94 fl_11_230 (by decide) rfl rfl rfl ?_
        refine ev_iconst (v := 1) 134 dX11_expression_133 (by decide) rfl ?_
        refine ev_isub 135 dX11_expression_134 rfl ?_
        obtain ⟨S89, eS89, h⟩ := rx_let_o h
        refine ex_put 138 dX11_expression_135 dk_94 fl_11_230 pp_11_12 (by decide) rfl rfl rfl rfl eS89 ?_
        refine ev_aload_n (i := 0) 139 dX11_expression_138 rfl rfl rfl ?_
        obtain ⟨x91, S90, g92, h⟩ := rx_bd_o h
        refine ev_cVv0 142 dX11_expression_139 (em_X11_goesOn g92) mm_X11_goesOn mv_X11_goesOn lk_11_224 dk_94 (by decide) rfl (Nat.le_of_ble_eq_true rfl) (Nat.le_of_ble_eq_true rfl) rfl ?_
        refine ev_goto 96 dX11_expression_142 rfl ?_
        exact (ih _ _ h).fewer (rx_le_s (rx_le_s (rx_le_n rx_le_0)))

set_option maxHeartbeats 4000000 in
set_option maxRecDepth 20000 in
theorem em_X11_expression_L23 {d N : Nat} {K84 : Int32 → rx_S → Option (Unit × rx_S)} {zr : Unit} {zS : rx_S} (hK84 : ∀ (x95 : Int32) (S96 : rx_S), K84 x95 S96 = some (zr, zS) → EV gM (d + 3) mX11_expression 84 [some (.ref 94), some (.int x95), none] [] S96 (rx_pv zS)) : ∀ (n : Nat) (x93 : Int32) (S94 : rx_S), f_X11_expression_L23 N K84 n x93 S94 = some (zr, zS) → EV gM (d + 3) mX11_expression 23 [some (.ref 94), some (.int x93), none] [] S94 (rx_pv zS) := by
  intro n
  induction n with
  | zero => intro x93 S94 h; cases h
  | succ n ih =>
    intro x93 S94 h
    rw [f_X11_expression_L23] at h
    refine ev_aload_n (i := 0) 24 dX11_expression_23 rfl rfl rfl ?_
    refine ev_bipush (v := 6) 26 dX11_expression_24 (by decide) rfl ?_
    obtain ⟨x98, S97, g99, h⟩ := rx_bd_o h
    refine ev_cVi1 29 dX11_expression_26 (em_X11_is g99) mm_X11_is mv_X11_is lk_11_221 dk_94 (by decide) rfl (Nat.le_of_ble_eq_true rfl) (Nat.le_of_ble_eq_true rfl) rfl ?_
    refine ev_if_eq 84 32 dX11_expression_29 rfl rfl (fun c100 => ?_) (fun c100 => ?_)
    · replace h := rx_if_t c100 h
      exact (hK84 _ _ h).fewer (rx_le_s (rx_le_s (rx_le_n rx_le_0)))
    · replace h := rx_if_f c100 h
      refine ev_aload_n (i := 0) 33 dX11_expression_32 rfl rfl rfl ?_
      refine ev_get (v := .int (S97.1 94 12)) 36 dX11_expression_33 dk_94 fl_11_230 (by decide) rfl rfl rfl ?_
      refine ev_bipush (v := 6) 38 dX11_expression_36 (by decide) rfl ?_
      obtain ⟨J46_9, eJ46_9, h⟩ := rx_let_o h
      have hJ46_9 : ∀ (x101 : Int32) (S102 : rx_S), J46_9 x101 S102 = some (zr, zS) → EV gM (d + 3) mX11_expression 46 [some (.ref 94), some (.int x101), none] [] S102 (rx_pv zS) := by
        intro x101 S102 h
        subst eJ46_9
        refine ev_aload_n (i := 0) 47 dX11_expression_46 rfl rfl rfl ?_
        refine ev_dup 48 dX11_expression_47 rfl rfl ?_
        refine ev_get (v := .int (S102.1 94 12)) 51 dX11_expression_48 dk_94 fl_11_230 (by decide) rfl rfl rfl ?_
        refine ev_iconst (v := 1) 52 dX11_expression_51 (by decide) rfl ?_
        refine ev_iadd 53 dX11_expression_52 rfl ?_
        obtain ⟨S103, eS103, h⟩ := rx_let_o h
        refine ex_put 56 dX11_expression_53 dk_94 fl_11_230 pp_11_12 (by decide) rfl rfl rfl rfl eS103 ?_
        refine ev_aload_n (i := 0) 57 dX11_expression_56 rfl rfl rfl ?_
        obtain ⟨x105, S104, g106, h⟩ := rx_bd_o h
        refine ev_cVv0 60 dX11_expression_57 (em_X11_goesOn g106) mm_X11_goesOn mv_X11_goesOn lk_11_224 dk_94 (by decide) rfl (Nat.le_of_ble_eq_true rfl) (Nat.le_of_ble_eq_true rfl) rfl ?_
        refine ev_aload_n (i := 0) 61 dX11_expression_60 rfl rfl rfl ?_
        refine ev_get (v := .ref 123) 64 dX11_expression_61 dk_94 fl_11_104 (by decide) rfl rfl rfl ?_
        refine ev_aload_n (i := 0) 65 dX11_expression_64 rfl rfl rfl ?_
        refine ev_get (v := .int (S104.1 94 45)) 68 dX11_expression_65 dk_94 fl_11_299 (by decide) rfl rfl rfl ?_
        refine ev_bipush (v := 6) 70 dX11_expression_68 (by decide) rfl ?_
        obtain ⟨g107, h⟩ := rx_gd_o h
        obtain ⟨S108, eS108, h⟩ := rx_let_o h
        refine ex_iast _ 71 dX11_expression_70 dk_123 g107 rfl rfl eS108 ?_
        refine ev_aload_n (i := 0) 72 dX11_expression_71 rfl rfl rfl ?_
        refine ev_dup 73 dX11_expression_72 rfl rfl ?_
        refine ev_get (v := .int (S108.1 94 45)) 76 dX11_expression_73 dk_94 fl_11_299 (by decide) rfl rfl rfl ?_
        refine ev_iconst (v := 1) 77 dX11_expression_76 (by decide) rfl ?_
        refine ev_iadd 78 dX11_expression_77 rfl ?_
        obtain ⟨S109, eS109, h⟩ := rx_let_o h
        refine ex_put 81 dX11_expression_78 dk_94 fl_11_299 pp_11_45 (by decide) rfl rfl rfl rfl eS109 ?_
        refine ev_goto 23 dX11_expression_81 rfl ?_
        exact (ih _ _ h).fewer (rx_le_s (rx_le_s (rx_le_n rx_le_0)))
      refine ev_icmp_ne 46 41 dX11_expression_38 rfl rfl (fun c110 => ?_) (fun c110 => ?_)
      · replace h := rx_if_f c110 h
        exact (hJ46_9 _ _ h).fewer (rx_le_s (rx_le_s (rx_le_n rx_le_0)))
      · replace h := rx_if_t c110 h
        refine ev_aload_n (i := 0) 42 dX11_expression_41 rfl rfl rfl ?_
        refine ev_iconst (v := 2) 43 dX11_expression_42 (by decide) rfl ?_
        obtain ⟨x112, S111, g113, h⟩ := rx_bd_o h
        refine ev_cVv1 46 dX11_expression_43 (em_X11_fail g113) mm_X11_fail mv_X11_fail lk_11_218 dk_94 (by decide) rfl (Nat.le_of_ble_eq_true rfl) (Nat.le_of_ble_eq_true rfl) rfl ?_
        exact (hJ46_9 _ _ h).fewer (rx_le_s (rx_le_s (rx_le_n rx_le_0)))

set_option maxHeartbeats 4000000 in
set_option maxRecDepth 20000 in
theorem em_X11_expression_L12 {d N : Nat} {K191 : Int32 → rx_S → Option (Unit × rx_S)} {zr : Unit} {zS : rx_S} (hK191 : ∀ (x17 : Int32) (S18 : rx_S), K191 x17 S18 = some (zr, zS) → EV gM (d + 3) mX11_expression 191 [some (.ref 94), some (.int x17), none] [] S18 (rx_pv zS)) : ∀ (n : Nat) (x14 : Int32) (x15 : Int32) (S16 : rx_S), f_X11_expression_L12 N K191 n x14 x15 S16 = some (zr, zS) → EV gM (d + 3) mX11_expression 12 [some (.ref 94), some (.int x14), some (.int x15)] [] S16 (rx_pv zS) := by
  intro n
  induction n with
  | zero => intro x14 x15 S16 h; cases h
  | succ n ih =>
    intro x14 x15 S16 h
    rw [f_X11_expression_L12] at h
    refine ev_iload_n (i := 2) 13 dX11_expression_12 rfl rfl rfl ?_
    refine ev_if_eq 272 16 dX11_expression_13 rfl rfl (fun c19 => ?_) (fun c19 => ?_)
    · replace h := rx_if_t c19 h
      exact ev_return dX11_expression_272 rfl (rx_ret_v h)
    · replace h := rx_if_f c19 h
      refine ev_aload_n (i := 0) 17 dX11_expression_16 rfl rfl rfl ?_
      refine ev_get (v := .int (S16.1 94 13)) 20 dX11_expression_17 dk_94 fl_11_203 (by decide) rfl rfl rfl ?_
      refine ev_if_ne 272 23 dX11_expression_20 rfl rfl (fun c20 => ?_) (fun c20 => ?_)
      · replace h := rx_if_f c20 h
        exact ev_return dX11_expression_272 rfl (rx_ret_v h)
      · replace h := rx_if_t c20 h
        obtain ⟨J84_3, eJ84_3, h⟩ := rx_let_o h
        have hJ84_3 : ∀ (x21 : Int32) (S22 : rx_S), J84_3 x21 S22 = some (zr, zS) → EV gM (d + 3) mX11_expression 84 [some (.ref 94), some (.int x21), none] [] S22 (rx_pv zS) := by
          intro x21 S22 h
          subst eJ84_3
          refine ev_aload_n (i := 0) 85 dX11_expression_84 rfl rfl rfl ?_
          obtain ⟨x24, S23, g25, h⟩ := rx_bd_o h
          refine ev_cVv0 88 dX11_expression_85 (em_X11_unit g25) mm_X11_unit mv_X11_unit lk_11_305 dk_94 (by decide) rfl (Nat.le_of_ble_eq_true rfl) (Nat.le_of_ble_eq_true rfl) rfl ?_
          refine ev_aload_n (i := 0) 89 dX11_expression_88 rfl rfl rfl ?_
          refine ev_get (v := .int (S23.1 94 13)) 92 dX11_expression_89 dk_94 fl_11_203 (by decide) rfl rfl rfl ?_
          refine ev_if_le 96 95 dX11_expression_92 rfl rfl (fun c26 => ?_) (fun c26 => ?_)
          · replace h := rx_if_t c26 h
            obtain ⟨J145_4, eJ145_4, h⟩ := rx_let_o h
            have hJ145_4 : ∀ (x27 : Int32) (S28 : rx_S), J145_4 x27 S28 = some (zr, zS) → EV gM (d + 3) mX11_expression 145 [some (.ref 94), some (.int x27), none] [] S28 (rx_pv zS) := by
              intro x27 S28 h
              subst eJ145_4
              refine ev_aload_n (i := 0) 146 dX11_expression_145 rfl rfl rfl ?_
              refine ev_bipush (v := 8) 148 dX11_expression_146 (by decide) rfl ?_
              obtain ⟨x30, S29, g31, h⟩ := rx_bd_o h
              refine ev_cVi1 151 dX11_expression_148 (em_X11_is g31) mm_X11_is mv_X11_is lk_11_221 dk_94 (by decide) rfl (Nat.le_of_ble_eq_true rfl) (Nat.le_of_ble_eq_true rfl) rfl ?_
              obtain ⟨J186_5, eJ186_5, h⟩ := rx_let_o h
              have hJ186_5 : ∀ (x32 : Int32) (x33 : Int32) (S34 : rx_S), J186_5 x32 x33 S34 = some (zr, zS) → EV gM (d + 3) mX11_expression 186 [some (.ref 94), some (.int x32), none] [.int x33] S34 (rx_pv zS) := by
                intro x32 x33 S34 h
                subst eJ186_5
                refine ev_istore_n (ls' := [some (.ref 94), some (.int x32), some (.int x33)]) 187 dX11_expression_186 rfl (Nat.le_of_ble_eq_true rfl) rfl rfl ?_
                refine ev_iload_n (i := 2) 188 dX11_expression_187 rfl rfl rfl ?_
                refine ev_if_ne 210 191 dX11_expression_188 rfl rfl (fun c35 => ?_) (fun c35 => ?_)
                · replace h := rx_if_f c35 h
                  refine ev_aload_n (i := 0) 211 dX11_expression_210 rfl rfl rfl ?_
                  refine ev_aload_n (i := 0) 212 dX11_expression_211 rfl rfl rfl ?_
                  refine ev_bipush (v := 10) 214 dX11_expression_212 (by decide) rfl ?_
                  obtain ⟨x37, S36, g38, h⟩ := rx_bd_o h
                  refine ev_cVi1 217 dX11_expression_214 (em_X11_is g38) mm_X11_is mv_X11_is lk_11_221 dk_94 (by decide) rfl (Nat.le_of_ble_eq_true rfl) (Nat.le_of_ble_eq_true rfl) rfl ?_
                  obtain ⟨J234_6, eJ234_6, h⟩ := rx_let_o h
                  have hJ234_6 : ∀ (x39 : Int32) (x40 : Int32) (x41 : Int32) (S42 : rx_S), J234_6 x39 x40 x41 S42 = some (zr, zS) → EV gM (d + 3) mX11_expression 234 [some (.ref 94), some (.int x39), some (.int x40)] [.int x41, .ref 94] S42 (rx_pv zS) := by
                    intro x39 x40 x41 S42 h
                    subst eJ234_6
                    obtain ⟨x44, S43, g45, h⟩ := rx_bd_o h
                    refine ev_cVv1 237 dX11_expression_234 (em_X11_comesOut g45) mm_X11_comesOut mv_X11_comesOut lk_11_308 dk_94 (by decide) rfl (Nat.le_of_ble_eq_true rfl) (Nat.le_of_ble_eq_true rfl) rfl ?_
                    refine ev_aload_n (i := 0) 238 dX11_expression_237 rfl rfl rfl ?_
                    refine ev_get (v := .ref 123) 241 dX11_expression_238 dk_94 fl_11_104 (by decide) rfl rfl rfl ?_
                    refine ev_aload_n (i := 0) 242 dX11_expression_241 rfl rfl rfl ?_
                    refine ev_get (v := .int (S43.1 94 45)) 245 dX11_expression_242 dk_94 fl_11_299 (by decide) rfl rfl rfl ?_
                    refine ev_aload_n (i := 0) 246 dX11_expression_245 rfl rfl rfl ?_
                    refine ev_get (v := .ref 97) 249 dX11_expression_246 dk_94 fl_11_20 (by decide) rfl rfl rfl ?_
                    refine ev_aload_n (i := 0) 250 dX11_expression_249 rfl rfl rfl ?_
                    refine ev_get (v := .int (S43.1 94 11)) 253 dX11_expression_250 dk_94 fl_11_206 (by decide) rfl rfl rfl ?_
                    obtain ⟨g46, h⟩ := rx_gd_o h
                    refine ex_iald _ 254 dX11_expression_253 dk_97 g46 rfl rfl ?_
                    obtain ⟨g47, h⟩ := rx_gd_o h
                    obtain ⟨S48, eS48, h⟩ := rx_let_o h
                    refine ex_iast _ 255 dX11_expression_254 dk_123 g47 rfl rfl eS48 ?_
                    refine ev_aload_n (i := 0) 256 dX11_expression_255 rfl rfl rfl ?_
                    refine ev_dup 257 dX11_expression_256 rfl rfl ?_
                    refine ev_get (v := .int (S48.1 94 45)) 260 dX11_expression_257 dk_94 fl_11_299 (by decide) rfl rfl rfl ?_
                    refine ev_iconst (v := 1) 261 dX11_expression_260 (by decide) rfl ?_
                    refine ev_iadd 262 dX11_expression_261 rfl ?_
                    obtain ⟨S49, eS49, h⟩ := rx_let_o h
                    refine ex_put 265 dX11_expression_262 dk_94 fl_11_299 pp_11_45 (by decide) rfl rfl rfl rfl eS49 ?_
                    refine ev_aload_n (i := 0) 266 dX11_expression_265 rfl rfl rfl ?_
                    obtain ⟨x51, S50, g52, h⟩ := rx_bd_o h
                    refine ev_cVv0 269 dX11_expression_266 (em_X11_goesOn g52) mm_X11_goesOn mv_X11_goesOn lk_11_224 dk_94 (by decide) rfl (Nat.le_of_ble_eq_true rfl) (Nat.le_of_ble_eq_true rfl) rfl ?_
                    refine ev_goto 12 dX11_expression_269 rfl ?_
                    exact (ih _ _ _ h).fewer (rx_le_s (rx_le_s (rx_le_s rx_le_0)))
                  obtain ⟨J229_7, eJ229_7, h⟩ := rx_let_o h
                  have hJ229_7 : ∀ (x53 : Int32) (x54 : Int32) (S55 : rx_S), J229_7 x53 x54 S55 = some (zr, zS) → EV gM (d + 3) mX11_expression 229 [some (.ref 94), some (.int x53), some (.int x54)] [.ref 94] S55 (rx_pv zS) := by
                    intro x53 x54 S55 h
                    subst eJ229_7
                    refine ev_iconst (v := 1) 230 dX11_expression_229 (by decide) rfl ?_
                    refine ev_goto 234 dX11_expression_230 rfl ?_
                    exact (hJ234_6 _ _ _ _ h).fewer (rx_le_s (rx_le_s (rx_le_s rx_le_0)))
                  refine ev_if_ne 229 220 dX11_expression_217 rfl rfl (fun c56 => ?_) (fun c56 => ?_)
                  · replace h := rx_if_f c56 h
                    exact (hJ229_7 _ _ _ h).fewer (rx_le_s (rx_le_s (rx_le_s rx_le_0)))
                  · replace h := rx_if_t c56 h
                    refine ev_aload_n (i := 0) 221 dX11_expression_220 rfl rfl rfl ?_
                    refine ev_bipush (v := 15) 223 dX11_expression_221 (by decide) rfl ?_
                    obtain ⟨x58, S57, g59, h⟩ := rx_bd_o h
                    refine ev_cVi1 226 dX11_expression_223 (em_X11_is g59) mm_X11_is mv_X11_is lk_11_221 dk_94 (by decide) rfl (Nat.le_of_ble_eq_true rfl) (Nat.le_of_ble_eq_true rfl) rfl ?_
                    refine ev_if_eq 233 229 dX11_expression_226 rfl rfl (fun c60 => ?_) (fun c60 => ?_)
                    · replace h := rx_if_t c60 h
                      refine ev_iconst (v := 0) 234 dX11_expression_233 (by decide) rfl ?_
                      exact (hJ234_6 _ _ _ _ h).fewer (rx_le_s (rx_le_s (rx_le_s rx_le_0)))
                    · replace h := rx_if_f c60 h
                      exact (hJ229_7 _ _ _ h).fewer (rx_le_s (rx_le_s (rx_le_s rx_le_0)))
                · replace h := rx_if_t c35 h
                  exact (hK191 _ _ h).fewer (rx_le_s (rx_le_s (rx_le_n rx_le_0)))
              obtain ⟨J181_8, eJ181_8, h⟩ := rx_let_o h
              have hJ181_8 : ∀ (x61 : Int32) (S62 : rx_S), J181_8 x61 S62 = some (zr, zS) → EV gM (d + 3) mX11_expression 181 [some (.ref 94), some (.int x61), none] [] S62 (rx_pv zS) := by
                intro x61 S62 h
                subst eJ181_8
                refine ev_iconst (v := 1) 182 dX11_expression_181 (by decide) rfl ?_
                refine ev_goto 186 dX11_expression_182 rfl ?_
                exact (hJ186_5 _ _ _ h).fewer (rx_le_s (rx_le_s (rx_le_n rx_le_0)))
              refine ev_if_ne 181 154 dX11_expression_151 rfl rfl (fun c63 => ?_) (fun c63 => ?_)
              · replace h := rx_if_f c63 h
                exact (hJ181_8 _ _ h).fewer (rx_le_s (rx_le_s (rx_le_n rx_le_0)))
              · replace h := rx_if_t c63 h
                refine ev_aload_n (i := 0) 155 dX11_expression_154 rfl rfl rfl ?_
                refine ev_bipush (v := 9) 157 dX11_expression_155 (by decide) rfl ?_
                obtain ⟨x65, S64, g66, h⟩ := rx_bd_o h
                refine ev_cVi1 160 dX11_expression_157 (em_X11_is g66) mm_X11_is mv_X11_is lk_11_221 dk_94 (by decide) rfl (Nat.le_of_ble_eq_true rfl) (Nat.le_of_ble_eq_true rfl) rfl ?_
                refine ev_if_ne 181 163 dX11_expression_160 rfl rfl (fun c67 => ?_) (fun c67 => ?_)
                · replace h := rx_if_f c67 h
                  exact (hJ181_8 _ _ h).fewer (rx_le_s (rx_le_s (rx_le_n rx_le_0)))
                · replace h := rx_if_t c67 h
                  refine ev_aload_n (i := 0) 164 dX11_expression_163 rfl rfl rfl ?_
                  refine ev_bipush (v := 10) 166 dX11_expression_164 (by decide) rfl ?_
                  obtain ⟨x69, S68, g70, h⟩ := rx_bd_o h
                  refine ev_cVi1 169 dX11_expression_166 (em_X11_is g70) mm_X11_is mv_X11_is lk_11_221 dk_94 (by decide) rfl (Nat.le_of_ble_eq_true rfl) (Nat.le_of_ble_eq_true rfl) rfl ?_
                  refine ev_if_ne 181 172 dX11_expression_169 rfl rfl (fun c71 => ?_) (fun c71 => ?_)
                  · replace h := rx_if_f c71 h
                    exact (hJ181_8 _ _ h).fewer (rx_le_s (rx_le_s (rx_le_n rx_le_0)))
                  · replace h := rx_if_t c71 h
                    refine ev_aload_n (i := 0) 173 dX11_expression_172 rfl rfl rfl ?_
                    refine ev_bipush (v := 15) 175 dX11_expression_173 (by decide) rfl ?_
                    obtain ⟨x73, S72, g74, h⟩ := rx_bd_o h
                    refine ev_cVi1 178 dX11_expression_175 (em_X11_is g74) mm_X11_is mv_X11_is lk_11_221 dk_94 (by decide) rfl (Nat.le_of_ble_eq_true rfl) (Nat.le_of_ble_eq_true rfl) rfl ?_
                    refine ev_if_eq 185 181 dX11_expression_178 rfl rfl (fun c75 => ?_) (fun c75 => ?_)
                    · replace h := rx_if_t c75 h
                      refine ev_iconst (v := 0) 186 dX11_expression_185 (by decide) rfl ?_
                      exact (hJ186_5 _ _ _ h).fewer (rx_le_s (rx_le_s (rx_le_n rx_le_0)))
                    · replace h := rx_if_f c75 h
                      exact (hJ181_8 _ _ h).fewer (rx_le_s (rx_le_s (rx_le_n rx_le_0)))
            exact (em_X11_expression_L96 hJ145_4 _ _ _ h).fewer (rx_le_s (rx_le_s (rx_le_n rx_le_0)))
          · replace h := rx_if_f c26 h
            exact ev_return dX11_expression_95 rfl (rx_ret_v h)
        exact (em_X11_expression_L23 hJ84_3 _ _ _ h).fewer (rx_le_s (rx_le_s (rx_le_n rx_le_0)))

set_option maxHeartbeats 4000000 in
set_option maxRecDepth 20000 in
theorem em_X11_expression {d N : Nat} {S0 : rx_S} {zr : Unit} {zS : rx_S} (h : f_X11_expression N S0 = some (zr, zS)) : EM gM (d + 3) mX11_expression [.ref 94] S0 (rx_pv zS) := by
  unfold f_X11_expression at h
  show EV gM (d + 3) mX11_expression 0 [some (.ref 94), none, none] [] S0 (rx_pv zS)
  refine ev_aload_n (i := 0) 1 dX11_expression_0 rfl rfl rfl ?_
  refine ev_iconst (v := 0) 2 dX11_expression_1 (by decide) rfl ?_
  obtain ⟨S2, eS2, h⟩ := rx_let_o h
  refine ex_put 5 dX11_expression_2 dk_94 fl_11_299 pp_11_45 (by decide) rfl rfl rfl rfl eS2 ?_
  refine ev_aload_n (i := 0) 6 dX11_expression_5 rfl rfl rfl ?_
  refine ev_get (v := .int (S2.1 94 12)) 9 dX11_expression_6 dk_94 fl_11_230 (by decide) rfl rfl rfl ?_
  obtain ⟨x3, ex3, h⟩ := rx_let_o h
  refine ev_nm ex3 ?_
  refine ev_istore_n (ls' := [some (.ref 94), some (.int x3), none]) 10 dX11_expression_9 rfl (Nat.le_of_ble_eq_true rfl) rfl rfl ?_
  refine ev_iconst (v := 1) 11 dX11_expression_10 (by decide) rfl ?_
  refine ev_istore_n (ls' := [some (.ref 94), some (.int x3), some (.int 1)]) 12 dX11_expression_11 rfl (Nat.le_of_ble_eq_true rfl) rfl rfl ?_
  obtain ⟨J191_1, eJ191_1, h⟩ := rx_let_o h
  have hJ191_1 : ∀ (x4 : Int32) (S5 : rx_S), J191_1 x4 S5 = some (zr, zS) → EV gM (d + 3) mX11_expression 191 [some (.ref 94), some (.int x4), none] [] S5 (rx_pv zS) := by
    intro x4 S5 h
    subst eJ191_1
    refine ev_aload_n (i := 0) 192 dX11_expression_191 rfl rfl rfl ?_
    refine ev_get (v := .int (S5.1 94 12)) 195 dX11_expression_192 dk_94 fl_11_230 (by decide) rfl rfl rfl ?_
    refine ev_iload_n (i := 1) 196 dX11_expression_195 rfl rfl rfl ?_
    obtain ⟨J204_2, eJ204_2, h⟩ := rx_let_o h
    have hJ204_2 : ∀ (S6 : rx_S), J204_2 S6 = some (zr, zS) → EV gM (d + 3) mX11_expression 204 [some (.ref 94), none, none] [] S6 (rx_pv zS) := by
      intro S6 h
      subst eJ204_2
      refine ev_aload_n (i := 0) 205 dX11_expression_204 rfl rfl rfl ?_
      refine ev_iconst (v := 0) 206 dX11_expression_205 (by decide) rfl ?_
      obtain ⟨x8, S7, g9, h⟩ := rx_bd_o h
      refine ev_cVv1 209 dX11_expression_206 (em_X11_comesOut g9) mm_X11_comesOut mv_X11_comesOut lk_11_308 dk_94 (by decide) rfl (Nat.le_of_ble_eq_true rfl) (Nat.le_of_ble_eq_true rfl) rfl ?_
      exact ev_return dX11_expression_209 rfl (rx_ret_v h)
    refine ev_icmp_le 204 199 dX11_expression_196 rfl rfl (fun c10 => ?_) (fun c10 => ?_)
    · replace h := rx_if_t c10 h
      exact (hJ204_2 _ h).fewer (rx_le_s (rx_le_n (rx_le_n rx_le_0)))
    · replace h := rx_if_f c10 h
      refine ev_aload_n (i := 0) 200 dX11_expression_199 rfl rfl rfl ?_
      refine ev_iconst (v := 1) 201 dX11_expression_200 (by decide) rfl ?_
      obtain ⟨x12, S11, g13, h⟩ := rx_bd_o h
      refine ev_cVv1 204 dX11_expression_201 (em_X11_fail g13) mm_X11_fail mv_X11_fail lk_11_218 dk_94 (by decide) rfl (Nat.le_of_ble_eq_true rfl) (Nat.le_of_ble_eq_true rfl) rfl ?_
      exact (hJ204_2 _ h).fewer (rx_le_s (rx_le_n (rx_le_n rx_le_0)))
  exact (em_X11_expression_L12 hJ191_1 _ _ _ _ h).fewer (rx_le_s (rx_le_s (rx_le_s rx_le_0)))

def f_X11_term (N : Nat) (S0 : rx_S) : Option (Unit × rx_S) := rx_gd (S0.1 94 35) 260 (rx_let (rx_ui S0 119 (Int32.toNatClampNeg (S0.1 94 35)) (S0.1 94 41)) (fun S3 => rx_let (fun (S4 : rx_S) => rx_gd (S4.1 94 35) 260 (rx_let (rx_ui S4 120 (Int32.toNatClampNeg (S4.1 94 35)) (S4.1 94 41)) (fun S6 => rx_let (rx_ui S6 94 35 ((S6.1 94 35) + 1)) (fun S7 => some ((), S7))))) (fun J24_1 => if (S3.1 94 13) = 0 then (rx_bd (f_X11_expression N S3) (fun x10 S9 => J24_1 S9)) else (J24_1 S3))))
set_option maxHeartbeats 4000000 in
set_option maxRecDepth 20000 in
theorem em_X11_term {d N : Nat} {S0 : rx_S} {zr : Unit} {zS : rx_S} (h : f_X11_term N S0 = some (zr, zS)) : EM gM (d + 4) mX11_term [.ref 94] S0 (rx_pv zS) := by
  unfold f_X11_term at h
  show EV gM (d + 4) mX11_term 0 [some (.ref 94)] [] S0 (rx_pv zS)
  refine ev_aload_n (i := 0) 1 dX11_term_0 rfl rfl rfl ?_
  refine ev_get (v := .ref 119) 4 dX11_term_1 dk_94 fl_11_92 (by decide) rfl rfl rfl ?_
  refine ev_aload_n (i := 0) 5 dX11_term_4 rfl rfl rfl ?_
  refine ev_get (v := .int (S0.1 94 35)) 8 dX11_term_5 dk_94 fl_11_242 (by decide) rfl rfl rfl ?_
  refine ev_aload_n (i := 0) 9 dX11_term_8 rfl rfl rfl ?_
  refine ev_get (v := .int (S0.1 94 41)) 12 dX11_term_9 dk_94 fl_11_245 (by decide) rfl rfl rfl ?_
  obtain ⟨g2, h⟩ := rx_gd_o h
  obtain ⟨S3, eS3, h⟩ := rx_let_o h
  refine ex_iast _ 13 dX11_term_12 dk_119 g2 rfl rfl eS3 ?_
  refine ev_aload_n (i := 0) 14 dX11_term_13 rfl rfl rfl ?_
  refine ev_get (v := .int (S3.1 94 13)) 17 dX11_term_14 dk_94 fl_11_203 (by decide) rfl rfl rfl ?_
  obtain ⟨J24_1, eJ24_1, h⟩ := rx_let_o h
  have hJ24_1 : ∀ (S4 : rx_S), J24_1 S4 = some (zr, zS) → EV gM (d + 4) mX11_term 24 [some (.ref 94)] [] S4 (rx_pv zS) := by
    intro S4 h
    subst eJ24_1
    refine ev_aload_n (i := 0) 25 dX11_term_24 rfl rfl rfl ?_
    refine ev_get (v := .ref 120) 28 dX11_term_25 dk_94 fl_11_95 (by decide) rfl rfl rfl ?_
    refine ev_aload_n (i := 0) 29 dX11_term_28 rfl rfl rfl ?_
    refine ev_get (v := .int (S4.1 94 35)) 32 dX11_term_29 dk_94 fl_11_242 (by decide) rfl rfl rfl ?_
    refine ev_aload_n (i := 0) 33 dX11_term_32 rfl rfl rfl ?_
    refine ev_get (v := .int (S4.1 94 41)) 36 dX11_term_33 dk_94 fl_11_245 (by decide) rfl rfl rfl ?_
    obtain ⟨g5, h⟩ := rx_gd_o h
    obtain ⟨S6, eS6, h⟩ := rx_let_o h
    refine ex_iast _ 37 dX11_term_36 dk_120 g5 rfl rfl eS6 ?_
    refine ev_aload_n (i := 0) 38 dX11_term_37 rfl rfl rfl ?_
    refine ev_dup 39 dX11_term_38 rfl rfl ?_
    refine ev_get (v := .int (S6.1 94 35)) 42 dX11_term_39 dk_94 fl_11_242 (by decide) rfl rfl rfl ?_
    refine ev_iconst (v := 1) 43 dX11_term_42 (by decide) rfl ?_
    refine ev_iadd 44 dX11_term_43 rfl ?_
    obtain ⟨S7, eS7, h⟩ := rx_let_o h
    refine ex_put 47 dX11_term_44 dk_94 fl_11_242 pp_11_35 (by decide) rfl rfl rfl rfl eS7 ?_
    exact ev_return dX11_term_47 rfl (rx_ret_v h)
  refine ev_if_ne 24 20 dX11_term_17 rfl rfl (fun c8 => ?_) (fun c8 => ?_)
  · replace h := rx_if_f c8 h
    exact (hJ24_1 _ h).fewer (rx_le_s rx_le_0)
  · replace h := rx_if_t c8 h
    refine ev_aload_n (i := 0) 21 dX11_term_20 rfl rfl rfl ?_
    obtain ⟨x10, S9, g11, h⟩ := rx_bd_o h
    refine ev_cVv0 24 dX11_term_21 (em_X11_expression g11) mm_X11_expression mv_X11_expression lk_11_293 dk_94 (by decide) rfl (Nat.le_of_ble_eq_true rfl) (Nat.le_of_ble_eq_true rfl) rfl ?_
    exact (hJ24_1 _ h).fewer (rx_le_s rx_le_0)

def f_X11_tellLaw_L12 (N : Nat) (K129 : Int32 → Int32 → rx_S → Option (Unit × rx_S)) : Nat → Int32 → Int32 → Int32 → rx_S → Option (Unit × rx_S)
  | 0, _, _, _, _ => none
  | n + 1, x23, x24, x25, S26 => if (S26.1 94 13) = 0 then (rx_bd (f_X11_is 32 S26) (fun x32 S31 => if x32 = 0 then (K129 x23 x24 S31) else (rx_let (fun (x35 : Int32) (x36 : Int32) (x37 : Int32) (S38 : rx_S) => if (S38.1 94 13) ≤ 0 then (rx_let (x37 + 1) (fun x40 => rx_bd (f_X11_goesOn S38) (fun x42 S41 => rx_gd (S41.1 94 35) 260 (rx_let (rx_ui S41 116 (Int32.toNatClampNeg (S41.1 94 35)) (vp_nar .boolean 1)) (fun S45 => rx_gd (S45.1 94 35) 260 (rx_let (rx_ui S45 117 (Int32.toNatClampNeg (S45.1 94 35)) (S45.1 94 41)) (fun S47 => rx_bd (f_X11_expression N S47) (fun x49 S48 => rx_bd (f_X11_must 13 S48) (fun x52 S51 => rx_gd (S51.1 94 35) 260 (rx_let (rx_ui S51 118 (Int32.toNatClampNeg (S51.1 94 35)) (S51.1 94 41)) (fun S55 => rx_let (fun (x56 : Int32) (x57 : Int32) (x58 : Int32) (S59 : rx_S) => rx_bd (f_X11_must 33 S59) (fun x61 S60 => rx_bd (f_X11_term N S60) (fun x64 S63 => rx_bd (f_X11_must 34 S63) (fun x67 S66 => f_X11_tellLaw_L12 N K129 n x56 x57 x58 S66)))) (fun J110_3 => if (S55.1 94 13) = 0 then (rx_bd (f_X11_expression N S55) (fun x71 S70 => J110_3 x35 x36 x40 S70)) else (J110_3 x35 x36 x40 S55))))))))))))) else (some ((), S38))) (fun J38_2 => if x25 = 4 then (rx_bd (f_X11_fail 2 S31) (fun x75 S74 => J38_2 x23 x24 x25 S74)) else (J38_2 x23 x24 x25 S31))))) else (K129 x23 x24 S26)
def f_X11_tellLaw (N : Nat) (x1 : Int32) (S0 : rx_S) : Option (Unit × rx_S) := rx_bd (f_X11_must 5 S0) (fun x4 S3 => rx_let (S3.1 94 35) (fun x6 => rx_let (fun (x7 : Int32) (x8 : Int32) (S9 : rx_S) => rx_gd (S9.1 94 35) 260 (rx_let (rx_ui S9 116 (Int32.toNatClampNeg (S9.1 94 35)) (vp_nar .boolean 0)) (fun S11 => rx_bd (f_X11_term N S11) (fun x13 S12 => rx_bd (f_X11_must 4 S12) (fun x16 S15 => if (S15.1 94 13) ≤ 0 then (rx_gd (((7 : Int32) * (S15.1 94 19)) + x7) 14 (rx_let (rx_ui S15 114 (Int32.toNatClampNeg (((7 : Int32) * (S15.1 94 19)) + x7)) x8) (fun S20 => rx_gd (((7 : Int32) * (S20.1 94 19)) + x7) 14 (rx_let (rx_ui S20 115 (Int32.toNatClampNeg (((7 : Int32) * (S20.1 94 19)) + x7)) (S20.1 94 35)) (fun S22 => some ((), S22)))))) else (some ((), S15))))))) (fun J129_1 => f_X11_tellLaw_L12 N J129_1 N x1 x6 0 S3)))
set_option maxHeartbeats 4000000 in
set_option maxRecDepth 20000 in
theorem em_X11_tellLaw_L12 {d N : Nat} {K129 : Int32 → Int32 → rx_S → Option (Unit × rx_S)} {zr : Unit} {zS : rx_S} (hK129 : ∀ (x27 : Int32) (x28 : Int32) (S29 : rx_S), K129 x27 x28 S29 = some (zr, zS) → EV gM (d + 5) mX11_tellLaw 129 [some (.ref 94), some (.int x27), some (.int x28), none] [] S29 (rx_pv zS)) : ∀ (n : Nat) (x23 : Int32) (x24 : Int32) (x25 : Int32) (S26 : rx_S), f_X11_tellLaw_L12 N K129 n x23 x24 x25 S26 = some (zr, zS) → EV gM (d + 5) mX11_tellLaw 12 [some (.ref 94), some (.int x23), some (.int x24), some (.int x25)] [] S26 (rx_pv zS) := by
  intro n
  induction n with
  | zero => intro x23 x24 x25 S26 h; cases h
  | succ n ih =>
    intro x23 x24 x25 S26 h
    rw [f_X11_tellLaw_L12] at h
    refine ev_aload_n (i := 0) 13 dX11_tellLaw_12 rfl rfl rfl ?_
    refine ev_get (v := .int (S26.1 94 13)) 16 dX11_tellLaw_13 dk_94 fl_11_203 (by decide) rfl rfl rfl ?_
    refine ev_if_ne 129 19 dX11_tellLaw_16 rfl rfl (fun c30 => ?_) (fun c30 => ?_)
    · replace h := rx_if_f c30 h
      exact (hK129 _ _ _ h).fewer (rx_le_s (rx_le_s (rx_le_s (rx_le_n rx_le_0))))
    · replace h := rx_if_t c30 h
      refine ev_aload_n (i := 0) 20 dX11_tellLaw_19 rfl rfl rfl ?_
      refine ev_bipush (v := 32) 22 dX11_tellLaw_20 (by decide) rfl ?_
      obtain ⟨x32, S31, g33, h⟩ := rx_bd_o h
      refine ev_cVi1 25 dX11_tellLaw_22 (em_X11_is g33) mm_X11_is mv_X11_is lk_11_221 dk_94 (by decide) rfl (Nat.le_of_ble_eq_true rfl) (Nat.le_of_ble_eq_true rfl) rfl ?_
      refine ev_if_eq 129 28 dX11_tellLaw_25 rfl rfl (fun c34 => ?_) (fun c34 => ?_)
      · replace h := rx_if_t c34 h
        exact (hK129 _ _ _ h).fewer (rx_le_s (rx_le_s (rx_le_s (rx_le_n rx_le_0))))
      · replace h := rx_if_f c34 h
        refine ev_iload_n (i := 3) 29 dX11_tellLaw_28 rfl rfl rfl ?_
        refine ev_iconst (v := 4) 30 dX11_tellLaw_29 (by decide) rfl ?_
        obtain ⟨J38_2, eJ38_2, h⟩ := rx_let_o h
        have hJ38_2 : ∀ (x35 : Int32) (x36 : Int32) (x37 : Int32) (S38 : rx_S), J38_2 x35 x36 x37 S38 = some (zr, zS) → EV gM (d + 5) mX11_tellLaw 38 [some (.ref 94), some (.int x35), some (.int x36), some (.int x37)] [] S38 (rx_pv zS) := by
          intro x35 x36 x37 S38 h
          subst eJ38_2
          refine ev_aload_n (i := 0) 39 dX11_tellLaw_38 rfl rfl rfl ?_
          refine ev_get (v := .int (S38.1 94 13)) 42 dX11_tellLaw_39 dk_94 fl_11_203 (by decide) rfl rfl rfl ?_
          refine ev_if_le 46 45 dX11_tellLaw_42 rfl rfl (fun c39 => ?_) (fun c39 => ?_)
          · replace h := rx_if_t c39 h
            obtain ⟨x40, ex40, h⟩ := rx_let_o h
            refine ev_iinc (v := x40) (ls' := [some (.ref 94), some (.int x35), some (.int x36), some (.int x40)]) 49 dX11_tellLaw_46 rfl (by rw [ex40]; rfl) (Nat.le_of_ble_eq_true rfl) rfl rfl ?_
            refine ev_aload_n (i := 0) 50 dX11_tellLaw_49 rfl rfl rfl ?_
            obtain ⟨x42, S41, g43, h⟩ := rx_bd_o h
            refine ev_cVv0 53 dX11_tellLaw_50 (em_X11_goesOn g43) mm_X11_goesOn mv_X11_goesOn lk_11_224 dk_94 (by decide) rfl (Nat.le_of_ble_eq_true rfl) (Nat.le_of_ble_eq_true rfl) rfl ?_
            refine ev_aload_n (i := 0) 54 dX11_tellLaw_53 rfl rfl rfl ?_
            refine ev_get (v := .ref 116) 57 dX11_tellLaw_54 dk_94 fl_11_82 (by decide) rfl rfl rfl ?_
            refine ev_aload_n (i := 0) 58 dX11_tellLaw_57 rfl rfl rfl ?_
            refine ev_get (v := .int (S41.1 94 35)) 61 dX11_tellLaw_58 dk_94 fl_11_242 (by decide) rfl rfl rfl ?_
            refine ev_iconst (v := 1) 62 dX11_tellLaw_61 (by decide) rfl ?_
            obtain ⟨g44, h⟩ := rx_gd_o h
            obtain ⟨S45, eS45, h⟩ := rx_let_o h
            refine ex_zast _ 63 dX11_tellLaw_62 dk_116 g44 rfl rfl eS45 ?_
            refine ev_aload_n (i := 0) 64 dX11_tellLaw_63 rfl rfl rfl ?_
            refine ev_get (v := .ref 117) 67 dX11_tellLaw_64 dk_94 fl_11_86 (by decide) rfl rfl rfl ?_
            refine ev_aload_n (i := 0) 68 dX11_tellLaw_67 rfl rfl rfl ?_
            refine ev_get (v := .int (S45.1 94 35)) 71 dX11_tellLaw_68 dk_94 fl_11_242 (by decide) rfl rfl rfl ?_
            refine ev_aload_n (i := 0) 72 dX11_tellLaw_71 rfl rfl rfl ?_
            refine ev_get (v := .int (S45.1 94 41)) 75 dX11_tellLaw_72 dk_94 fl_11_245 (by decide) rfl rfl rfl ?_
            obtain ⟨g46, h⟩ := rx_gd_o h
            obtain ⟨S47, eS47, h⟩ := rx_let_o h
            refine ex_iast _ 76 dX11_tellLaw_75 dk_117 g46 rfl rfl eS47 ?_
            refine ev_aload_n (i := 0) 77 dX11_tellLaw_76 rfl rfl rfl ?_
            obtain ⟨x49, S48, g50, h⟩ := rx_bd_o h
            refine ev_cVv0 80 dX11_tellLaw_77 (em_X11_expression g50) mm_X11_expression mv_X11_expression lk_11_293 dk_94 (by decide) rfl (Nat.le_of_ble_eq_true rfl) (Nat.le_of_ble_eq_true rfl) rfl ?_
            refine ev_aload_n (i := 0) 81 dX11_tellLaw_80 rfl rfl rfl ?_
            refine ev_bipush (v := 13) 83 dX11_tellLaw_81 (by decide) rfl ?_
            obtain ⟨x52, S51, g53, h⟩ := rx_bd_o h
            refine ev_cVv1 86 dX11_tellLaw_83 (em_X11_must g53) mm_X11_must mv_X11_must lk_11_274 dk_94 (by decide) rfl (Nat.le_of_ble_eq_true rfl) (Nat.le_of_ble_eq_true rfl) rfl ?_
            refine ev_aload_n (i := 0) 87 dX11_tellLaw_86 rfl rfl rfl ?_
            refine ev_get (v := .ref 118) 90 dX11_tellLaw_87 dk_94 fl_11_89 (by decide) rfl rfl rfl ?_
            refine ev_aload_n (i := 0) 91 dX11_tellLaw_90 rfl rfl rfl ?_
            refine ev_get (v := .int (S51.1 94 35)) 94 dX11_tellLaw_91 dk_94 fl_11_242 (by decide) rfl rfl rfl ?_
            refine ev_aload_n (i := 0) 95 dX11_tellLaw_94 rfl rfl rfl ?_
            refine ev_get (v := .int (S51.1 94 41)) 98 dX11_tellLaw_95 dk_94 fl_11_245 (by decide) rfl rfl rfl ?_
            obtain ⟨g54, h⟩ := rx_gd_o h
            obtain ⟨S55, eS55, h⟩ := rx_let_o h
            refine ex_iast _ 99 dX11_tellLaw_98 dk_118 g54 rfl rfl eS55 ?_
            refine ev_aload_n (i := 0) 100 dX11_tellLaw_99 rfl rfl rfl ?_
            refine ev_get (v := .int (S55.1 94 13)) 103 dX11_tellLaw_100 dk_94 fl_11_203 (by decide) rfl rfl rfl ?_
            obtain ⟨J110_3, eJ110_3, h⟩ := rx_let_o h
            have hJ110_3 : ∀ (x56 : Int32) (x57 : Int32) (x58 : Int32) (S59 : rx_S), J110_3 x56 x57 x58 S59 = some (zr, zS) → EV gM (d + 5) mX11_tellLaw 110 [some (.ref 94), some (.int x56), some (.int x57), some (.int x58)] [] S59 (rx_pv zS) := by
              intro x56 x57 x58 S59 h
              subst eJ110_3
              refine ev_aload_n (i := 0) 111 dX11_tellLaw_110 rfl rfl rfl ?_
              refine ev_bipush (v := 33) 113 dX11_tellLaw_111 (by decide) rfl ?_
              obtain ⟨x61, S60, g62, h⟩ := rx_bd_o h
              refine ev_cVv1 116 dX11_tellLaw_113 (em_X11_must g62) mm_X11_must mv_X11_must lk_11_274 dk_94 (by decide) rfl (Nat.le_of_ble_eq_true rfl) (Nat.le_of_ble_eq_true rfl) rfl ?_
              refine ev_aload_n (i := 0) 117 dX11_tellLaw_116 rfl rfl rfl ?_
              obtain ⟨x64, S63, g65, h⟩ := rx_bd_o h
              refine ev_cVv0 120 dX11_tellLaw_117 (em_X11_term g65) mm_X11_term mv_X11_term lk_11_296 dk_94 (by decide) rfl (Nat.le_of_ble_eq_true rfl) (Nat.le_of_ble_eq_true rfl) rfl ?_
              refine ev_aload_n (i := 0) 121 dX11_tellLaw_120 rfl rfl rfl ?_
              refine ev_bipush (v := 34) 123 dX11_tellLaw_121 (by decide) rfl ?_
              obtain ⟨x67, S66, g68, h⟩ := rx_bd_o h
              refine ev_cVv1 126 dX11_tellLaw_123 (em_X11_must g68) mm_X11_must mv_X11_must lk_11_274 dk_94 (by decide) rfl (Nat.le_of_ble_eq_true rfl) (Nat.le_of_ble_eq_true rfl) rfl ?_
              refine ev_goto 12 dX11_tellLaw_126 rfl ?_
              exact (ih _ _ _ _ h).fewer (rx_le_s (rx_le_s (rx_le_s (rx_le_s rx_le_0))))
            refine ev_if_ne 110 106 dX11_tellLaw_103 rfl rfl (fun c69 => ?_) (fun c69 => ?_)
            · replace h := rx_if_f c69 h
              exact (hJ110_3 _ _ _ _ h).fewer (rx_le_s (rx_le_s (rx_le_s (rx_le_s rx_le_0))))
            · replace h := rx_if_t c69 h
              refine ev_aload_n (i := 0) 107 dX11_tellLaw_106 rfl rfl rfl ?_
              obtain ⟨x71, S70, g72, h⟩ := rx_bd_o h
              refine ev_cVv0 110 dX11_tellLaw_107 (em_X11_expression g72) mm_X11_expression mv_X11_expression lk_11_293 dk_94 (by decide) rfl (Nat.le_of_ble_eq_true rfl) (Nat.le_of_ble_eq_true rfl) rfl ?_
              exact (hJ110_3 _ _ _ _ h).fewer (rx_le_s (rx_le_s (rx_le_s (rx_le_s rx_le_0))))
          · replace h := rx_if_f c39 h
            exact ev_return dX11_tellLaw_45 rfl (rx_ret_v h)
        refine ev_icmp_ne 38 33 dX11_tellLaw_30 rfl rfl (fun c73 => ?_) (fun c73 => ?_)
        · replace h := rx_if_f c73 h
          exact (hJ38_2 _ _ _ _ h).fewer (rx_le_s (rx_le_s (rx_le_s (rx_le_s rx_le_0))))
        · replace h := rx_if_t c73 h
          refine ev_aload_n (i := 0) 34 dX11_tellLaw_33 rfl rfl rfl ?_
          refine ev_iconst (v := 2) 35 dX11_tellLaw_34 (by decide) rfl ?_
          obtain ⟨x75, S74, g76, h⟩ := rx_bd_o h
          refine ev_cVv1 38 dX11_tellLaw_35 (em_X11_fail g76) mm_X11_fail mv_X11_fail lk_11_218 dk_94 (by decide) rfl (Nat.le_of_ble_eq_true rfl) (Nat.le_of_ble_eq_true rfl) rfl ?_
          exact (hJ38_2 _ _ _ _ h).fewer (rx_le_s (rx_le_s (rx_le_s (rx_le_s rx_le_0))))

set_option maxHeartbeats 4000000 in
set_option maxRecDepth 20000 in
theorem em_X11_tellLaw {d N : Nat} {x1 : Int32} {S0 : rx_S} {zr : Unit} {zS : rx_S} (h : f_X11_tellLaw N x1 S0 = some (zr, zS)) : EM gM (d + 5) mX11_tellLaw [.ref 94, .int x1] S0 (rx_pv zS) := by
  unfold f_X11_tellLaw at h
  show EV gM (d + 5) mX11_tellLaw 0 [some (.ref 94), some (.int x1), none, none] [] S0 (rx_pv zS)
  refine ev_aload_n (i := 0) 1 dX11_tellLaw_0 rfl rfl rfl ?_
  refine ev_iconst (v := 5) 2 dX11_tellLaw_1 (by decide) rfl ?_
  obtain ⟨x4, S3, g5, h⟩ := rx_bd_o h
  refine ev_cVv1 5 dX11_tellLaw_2 (em_X11_must g5) mm_X11_must mv_X11_must lk_11_274 dk_94 (by decide) rfl (Nat.le_of_ble_eq_true rfl) (Nat.le_of_ble_eq_true rfl) rfl ?_
  refine ev_aload_n (i := 0) 6 dX11_tellLaw_5 rfl rfl rfl ?_
  refine ev_get (v := .int (S3.1 94 35)) 9 dX11_tellLaw_6 dk_94 fl_11_242 (by decide) rfl rfl rfl ?_
  obtain ⟨x6, ex6, h⟩ := rx_let_o h
  refine ev_nm ex6 ?_
  refine ev_istore_n (ls' := [some (.ref 94), some (.int x1), some (.int x6), none]) 10 dX11_tellLaw_9 rfl (Nat.le_of_ble_eq_true rfl) rfl rfl ?_
  refine ev_iconst (v := 0) 11 dX11_tellLaw_10 (by decide) rfl ?_
  refine ev_istore_n (ls' := [some (.ref 94), some (.int x1), some (.int x6), some (.int 0)]) 12 dX11_tellLaw_11 rfl (Nat.le_of_ble_eq_true rfl) rfl rfl ?_
  obtain ⟨J129_1, eJ129_1, h⟩ := rx_let_o h
  have hJ129_1 : ∀ (x7 : Int32) (x8 : Int32) (S9 : rx_S), J129_1 x7 x8 S9 = some (zr, zS) → EV gM (d + 5) mX11_tellLaw 129 [some (.ref 94), some (.int x7), some (.int x8), none] [] S9 (rx_pv zS) := by
    intro x7 x8 S9 h
    subst eJ129_1
    refine ev_aload_n (i := 0) 130 dX11_tellLaw_129 rfl rfl rfl ?_
    refine ev_get (v := .ref 116) 133 dX11_tellLaw_130 dk_94 fl_11_82 (by decide) rfl rfl rfl ?_
    refine ev_aload_n (i := 0) 134 dX11_tellLaw_133 rfl rfl rfl ?_
    refine ev_get (v := .int (S9.1 94 35)) 137 dX11_tellLaw_134 dk_94 fl_11_242 (by decide) rfl rfl rfl ?_
    refine ev_iconst (v := 0) 138 dX11_tellLaw_137 (by decide) rfl ?_
    obtain ⟨g10, h⟩ := rx_gd_o h
    obtain ⟨S11, eS11, h⟩ := rx_let_o h
    refine ex_zast _ 139 dX11_tellLaw_138 dk_116 g10 rfl rfl eS11 ?_
    refine ev_aload_n (i := 0) 140 dX11_tellLaw_139 rfl rfl rfl ?_
    obtain ⟨x13, S12, g14, h⟩ := rx_bd_o h
    refine ev_cVv0 143 dX11_tellLaw_140 (em_X11_term g14) mm_X11_term mv_X11_term lk_11_296 dk_94 (by decide) rfl (Nat.le_of_ble_eq_true rfl) (Nat.le_of_ble_eq_true rfl) rfl ?_
    refine ev_aload_n (i := 0) 144 dX11_tellLaw_143 rfl rfl rfl ?_
    refine ev_iconst (v := 4) 145 dX11_tellLaw_144 (by decide) rfl ?_
    obtain ⟨x16, S15, g17, h⟩ := rx_bd_o h
    refine ev_cVv1 148 dX11_tellLaw_145 (em_X11_must g17) mm_X11_must mv_X11_must lk_11_274 dk_94 (by decide) rfl (Nat.le_of_ble_eq_true rfl) (Nat.le_of_ble_eq_true rfl) rfl ?_
    refine ev_aload_n (i := 0) 149 dX11_tellLaw_148 rfl rfl rfl ?_
    refine ev_get (v := .int (S15.1 94 13)) 152 dX11_tellLaw_149 dk_94 fl_11_203 (by decide) rfl rfl rfl ?_
    refine ev_if_le 156 155 dX11_tellLaw_152 rfl rfl (fun c18 => ?_) (fun c18 => ?_)
    · replace h := rx_if_t c18 h
      refine ev_aload_n (i := 0) 157 dX11_tellLaw_156 rfl rfl rfl ?_
      refine ev_get (v := .ref 114) 160 dX11_tellLaw_157 dk_94 fl_11_76 (by decide) rfl rfl rfl ?_
      refine ev_bipush (v := 7) 162 dX11_tellLaw_160 (by decide) rfl ?_
      refine ev_aload_n (i := 0) 163 dX11_tellLaw_162 rfl rfl rfl ?_
      refine ev_get (v := .int (S15.1 94 19)) 166 dX11_tellLaw_163 dk_94 fl_11_236 (by decide) rfl rfl rfl ?_
      refine ev_imul 167 dX11_tellLaw_166 rfl ?_
      refine ev_iload_n (i := 1) 168 dX11_tellLaw_167 rfl rfl rfl ?_
      refine ev_iadd 169 dX11_tellLaw_168 rfl ?_
      refine ev_iload_n (i := 2) 170 dX11_tellLaw_169 rfl rfl rfl ?_
      obtain ⟨g19, h⟩ := rx_gd_o h
      obtain ⟨S20, eS20, h⟩ := rx_let_o h
      refine ex_iast _ 171 dX11_tellLaw_170 dk_114 g19 rfl rfl eS20 ?_
      refine ev_aload_n (i := 0) 172 dX11_tellLaw_171 rfl rfl rfl ?_
      refine ev_get (v := .ref 115) 175 dX11_tellLaw_172 dk_94 fl_11_79 (by decide) rfl rfl rfl ?_
      refine ev_bipush (v := 7) 177 dX11_tellLaw_175 (by decide) rfl ?_
      refine ev_aload_n (i := 0) 178 dX11_tellLaw_177 rfl rfl rfl ?_
      refine ev_get (v := .int (S20.1 94 19)) 181 dX11_tellLaw_178 dk_94 fl_11_236 (by decide) rfl rfl rfl ?_
      refine ev_imul 182 dX11_tellLaw_181 rfl ?_
      refine ev_iload_n (i := 1) 183 dX11_tellLaw_182 rfl rfl rfl ?_
      refine ev_iadd 184 dX11_tellLaw_183 rfl ?_
      refine ev_aload_n (i := 0) 185 dX11_tellLaw_184 rfl rfl rfl ?_
      refine ev_get (v := .int (S20.1 94 35)) 188 dX11_tellLaw_185 dk_94 fl_11_242 (by decide) rfl rfl rfl ?_
      obtain ⟨g21, h⟩ := rx_gd_o h
      obtain ⟨S22, eS22, h⟩ := rx_let_o h
      refine ex_iast _ 189 dX11_tellLaw_188 dk_115 g21 rfl rfl eS22 ?_
      exact ev_return dX11_tellLaw_189 rfl (rx_ret_v h)
    · replace h := rx_if_f c18 h
      exact ev_return dX11_tellLaw_155 rfl (rx_ret_v h)
  exact (em_X11_tellLaw_L12 hJ129_1 _ _ _ _ _ h).fewer (rx_le_s (rx_le_s (rx_le_s (rx_le_s rx_le_0))))

def f_X11_roomFor (x1 : Int32) (x2 : Int32) (S0 : rx_S) : Option (Unit × rx_S) := rx_let (fun (S4 : rx_S) => if (S4.1 94 13) = 0 then (rx_bd (f_X11_goesOn S4) (fun x7 S6 => some ((), S6))) else (some ((), S4))) (fun J10_1 => if x1 = x2 then (rx_bd (f_X11_fail 2 S0) (fun x11 S10 => J10_1 S10)) else (J10_1 S0))
set_option maxHeartbeats 4000000 in
set_option maxRecDepth 20000 in
theorem em_X11_roomFor {d : Nat} {x1 : Int32} {x2 : Int32} {S0 : rx_S} {zr : Unit} {zS : rx_S} (h : f_X11_roomFor x1 x2 S0 = some (zr, zS)) : EM gM (d + 2) mX11_roomFor [.ref 94, .int x1, .int x2] S0 (rx_pv zS) := by
  unfold f_X11_roomFor at h
  show EV gM (d + 2) mX11_roomFor 0 [some (.ref 94), some (.int x1), some (.int x2)] [] S0 (rx_pv zS)
  refine ev_iload_n (i := 1) 1 dX11_roomFor_0 rfl rfl rfl ?_
  refine ev_iload_n (i := 2) 2 dX11_roomFor_1 rfl rfl rfl ?_
  obtain ⟨J10_1, eJ10_1, h⟩ := rx_let_o h
  have hJ10_1 : ∀ (S4 : rx_S), J10_1 S4 = some (zr, zS) → EV gM (d + 2) mX11_roomFor 10 [some (.ref 94), none, none] [] S4 (rx_pv zS) := by
    intro S4 h
    subst eJ10_1
    refine ev_aload_n (i := 0) 11 dX11_roomFor_10 rfl rfl rfl ?_
    refine ev_get (v := .int (S4.1 94 13)) 14 dX11_roomFor_11 dk_94 fl_11_203 (by decide) rfl rfl rfl ?_
    refine ev_if_ne 21 17 dX11_roomFor_14 rfl rfl (fun c5 => ?_) (fun c5 => ?_)
    · replace h := rx_if_f c5 h
      exact ev_return dX11_roomFor_21 rfl (rx_ret_v h)
    · replace h := rx_if_t c5 h
      refine ev_aload_n (i := 0) 18 dX11_roomFor_17 rfl rfl rfl ?_
      obtain ⟨x7, S6, g8, h⟩ := rx_bd_o h
      refine ev_cVv0 21 dX11_roomFor_18 (em_X11_goesOn g8) mm_X11_goesOn mv_X11_goesOn lk_11_224 dk_94 (by decide) rfl (Nat.le_of_ble_eq_true rfl) (Nat.le_of_ble_eq_true rfl) rfl ?_
      exact ev_return dX11_roomFor_21 rfl (rx_ret_v h)
  refine ev_icmp_ne 10 5 dX11_roomFor_2 rfl rfl (fun c9 => ?_) (fun c9 => ?_)
  · replace h := rx_if_f c9 h
    exact (hJ10_1 _ h).fewer (rx_le_s (rx_le_n (rx_le_n rx_le_0)))
  · replace h := rx_if_t c9 h
    refine ev_aload_n (i := 0) 6 dX11_roomFor_5 rfl rfl rfl ?_
    refine ev_iconst (v := 2) 7 dX11_roomFor_6 (by decide) rfl ?_
    obtain ⟨x11, S10, g12, h⟩ := rx_bd_o h
    refine ev_cVv1 10 dX11_roomFor_7 (em_X11_fail g12) mm_X11_fail mv_X11_fail lk_11_218 dk_94 (by decide) rfl (Nat.le_of_ble_eq_true rfl) (Nat.le_of_ble_eq_true rfl) rfl ?_
    exact (hJ10_1 _ h).fewer (rx_le_s (rx_le_n (rx_le_n rx_le_0)))

def f_X11_named_L12 (N : Nat) : Nat → Int32 → Int32 → rx_S → Option (Int32 × rx_S)
  | 0, _, _, _ => none
  | n + 1, x6, x7, S8 => if (S8.1 94 20) ≤ x7 then (some (x6, S8)) else (if (S8.1 94 13) = 0 then (rx_gd x7 10 (rx_gd x6 403 (if (lg_cmp (S8.2 102 (Int32.toNatClampNeg x7)) (S8.2 100 (Int32.toNatClampNeg x6))) = 0 then (rx_bd (f_X11_wrong 3 x6 S8) (fun x16 S15 => rx_let (x7 + 1) (fun x18 => f_X11_named_L12 N n x6 x18 S15))) else (rx_let (x7 + 1) (fun x14 => f_X11_named_L12 N n x6 x14 S8))))) else (some (x6, S8)))
def f_X11_named (N : Nat) (S0 : rx_S) : Option (Int32 × rx_S) := rx_let (S0.1 94 11) (fun x2 => rx_bd (f_X11_must 1 S0) (fun x4 S3 => f_X11_named_L12 N N x2 0 S3))
set_option maxHeartbeats 4000000 in
set_option maxRecDepth 20000 in
theorem em_X11_named_L12 {d N : Nat} {zr : Int32} {zS : rx_S} : ∀ (n : Nat) (x6 : Int32) (x7 : Int32) (S8 : rx_S), f_X11_named_L12 N n x6 x7 S8 = some (zr, zS) → EV gM (d + 3) mX11_named 12 [some (.ref 94), some (.int x6), some (.int x7)] [] S8 (rx_pi zr zS) := by
  intro n
  induction n with
  | zero => intro x6 x7 S8 h; cases h
  | succ n ih =>
    intro x6 x7 S8 h
    rw [f_X11_named_L12] at h
    refine ev_iload_n (i := 2) 13 dX11_named_12 rfl rfl rfl ?_
    refine ev_aload_n (i := 0) 14 dX11_named_13 rfl rfl rfl ?_
    refine ev_get (v := .int (S8.1 94 20)) 17 dX11_named_14 dk_94 fl_11_239 (by decide) rfl rfl rfl ?_
    refine ev_icmp_ge 55 20 dX11_named_17 rfl rfl (fun c9 => ?_) (fun c9 => ?_)
    · replace h := rx_if_t c9 h
      refine ev_iload_n (i := 1) 56 dX11_named_55 rfl rfl rfl ?_
      exact ev_ireturn dX11_named_56 rfl (rx_ret_i h)
    · replace h := rx_if_f c9 h
      refine ev_aload_n (i := 0) 21 dX11_named_20 rfl rfl rfl ?_
      refine ev_get (v := .int (S8.1 94 13)) 24 dX11_named_21 dk_94 fl_11_203 (by decide) rfl rfl rfl ?_
      refine ev_if_ne 55 27 dX11_named_24 rfl rfl (fun c10 => ?_) (fun c10 => ?_)
      · replace h := rx_if_f c10 h
        refine ev_iload_n (i := 1) 56 dX11_named_55 rfl rfl rfl ?_
        exact ev_ireturn dX11_named_56 rfl (rx_ret_i h)
      · replace h := rx_if_t c10 h
        refine ev_aload_n (i := 0) 28 dX11_named_27 rfl rfl rfl ?_
        refine ev_get (v := .ref 102) 31 dX11_named_28 dk_94 fl_11_40 (by decide) rfl rfl rfl ?_
        refine ev_iload_n (i := 2) 32 dX11_named_31 rfl rfl rfl ?_
        obtain ⟨g11, h⟩ := rx_gd_o h
        refine ex_lald _ 33 dX11_named_32 dk_102 g11 rfl rfl ?_
        refine ev_aload_n (i := 0) 34 dX11_named_33 rfl rfl rfl ?_
        refine ev_get (v := .ref 100) 37 dX11_named_34 dk_94 fl_11_30 (by decide) rfl rfl rfl ?_
        refine ev_iload_n (i := 1) 38 dX11_named_37 rfl rfl rfl ?_
        obtain ⟨g12, h⟩ := rx_gd_o h
        refine ex_lald _ 39 dX11_named_38 dk_100 g12 rfl rfl ?_
        refine ev_lcmp 40 dX11_named_39 rfl ?_
        refine ev_if_ne 49 43 dX11_named_40 rfl rfl (fun c13 => ?_) (fun c13 => ?_)
        · replace h := rx_if_f c13 h
          obtain ⟨x14, ex14, h⟩ := rx_let_o h
          refine ev_iinc (v := x14) (ls' := [some (.ref 94), some (.int x6), some (.int x14)]) 52 dX11_named_49 rfl (by rw [ex14]; rfl) (Nat.le_of_ble_eq_true rfl) rfl rfl ?_
          refine ev_goto 12 dX11_named_52 rfl ?_
          exact (ih _ _ _ h).fewer (rx_le_s (rx_le_s (rx_le_s rx_le_0)))
        · replace h := rx_if_t c13 h
          refine ev_aload_n (i := 0) 44 dX11_named_43 rfl rfl rfl ?_
          refine ev_iconst (v := 3) 45 dX11_named_44 (by decide) rfl ?_
          refine ev_iload_n (i := 1) 46 dX11_named_45 rfl rfl rfl ?_
          obtain ⟨x16, S15, g17, h⟩ := rx_bd_o h
          refine ev_cVv2 49 dX11_named_46 (em_X11_wrong g17) mm_X11_wrong mv_X11_wrong lk_11_280 dk_94 (by decide) rfl (Nat.le_of_ble_eq_true rfl) (Nat.le_of_ble_eq_true rfl) rfl ?_
          obtain ⟨x18, ex18, h⟩ := rx_let_o h
          refine ev_iinc (v := x18) (ls' := [some (.ref 94), some (.int x6), some (.int x18)]) 52 dX11_named_49 rfl (by rw [ex18]; rfl) (Nat.le_of_ble_eq_true rfl) rfl rfl ?_
          refine ev_goto 12 dX11_named_52 rfl ?_
          exact (ih _ _ _ h).fewer (rx_le_s (rx_le_s (rx_le_s rx_le_0)))

set_option maxHeartbeats 4000000 in
set_option maxRecDepth 20000 in
theorem em_X11_named {d N : Nat} {S0 : rx_S} {zr : Int32} {zS : rx_S} (h : f_X11_named N S0 = some (zr, zS)) : EM gM (d + 3) mX11_named [.ref 94] S0 (rx_pi zr zS) := by
  unfold f_X11_named at h
  show EV gM (d + 3) mX11_named 0 [some (.ref 94), none, none] [] S0 (rx_pi zr zS)
  refine ev_aload_n (i := 0) 1 dX11_named_0 rfl rfl rfl ?_
  refine ev_get (v := .int (S0.1 94 11)) 4 dX11_named_1 dk_94 fl_11_206 (by decide) rfl rfl rfl ?_
  obtain ⟨x2, ex2, h⟩ := rx_let_o h
  refine ev_nm ex2 ?_
  refine ev_istore_n (ls' := [some (.ref 94), some (.int x2), none]) 5 dX11_named_4 rfl (Nat.le_of_ble_eq_true rfl) rfl rfl ?_
  refine ev_aload_n (i := 0) 6 dX11_named_5 rfl rfl rfl ?_
  refine ev_iconst (v := 1) 7 dX11_named_6 (by decide) rfl ?_
  obtain ⟨x4, S3, g5, h⟩ := rx_bd_o h
  refine ev_cVv1 10 dX11_named_7 (em_X11_must g5) mm_X11_must mv_X11_must lk_11_274 dk_94 (by decide) rfl (Nat.le_of_ble_eq_true rfl) (Nat.le_of_ble_eq_true rfl) rfl ?_
  refine ev_iconst (v := 0) 11 dX11_named_10 (by decide) rfl ?_
  refine ev_istore_n (ls' := [some (.ref 94), some (.int x2), some (.int 0)]) 12 dX11_named_11 rfl (Nat.le_of_ble_eq_true rfl) rfl rfl ?_
  exact (em_X11_named_L12 _ _ _ _ h).fewer (rx_le_s (rx_le_s (rx_le_s rx_le_0)))

def f_X11_ends (x1 : Int32) (x2 : Int32) (S0 : rx_S) : Option (Unit × rx_S) := rx_bd (f_X11_must 4 S0) (fun x5 S4 => if (S4.1 94 13) ≤ 0 then (rx_gd x1 403 (rx_gd (S4.1 94 20) 10 (rx_let (rx_uj S4 102 (Int32.toNatClampNeg (S4.1 94 20)) (S4.2 100 (Int32.toNatClampNeg x1))) (fun S10 => rx_gd (S10.1 94 20) 10 (rx_let (rx_ui S10 103 (Int32.toNatClampNeg (S10.1 94 20)) x2) (fun S12 => rx_let (rx_ui S12 94 20 ((S12.1 94 20) + 1)) (fun S13 => some ((), S13)))))))) else (some ((), S4)))
set_option maxHeartbeats 4000000 in
set_option maxRecDepth 20000 in
theorem em_X11_ends {d : Nat} {x1 : Int32} {x2 : Int32} {S0 : rx_S} {zr : Unit} {zS : rx_S} (h : f_X11_ends x1 x2 S0 = some (zr, zS)) : EM gM (d + 3) mX11_ends [.ref 94, .int x1, .int x2] S0 (rx_pv zS) := by
  unfold f_X11_ends at h
  show EV gM (d + 3) mX11_ends 0 [some (.ref 94), some (.int x1), some (.int x2)] [] S0 (rx_pv zS)
  refine ev_aload_n (i := 0) 1 dX11_ends_0 rfl rfl rfl ?_
  refine ev_iconst (v := 4) 2 dX11_ends_1 (by decide) rfl ?_
  obtain ⟨x5, S4, g6, h⟩ := rx_bd_o h
  refine ev_cVv1 5 dX11_ends_2 (em_X11_must g6) mm_X11_must mv_X11_must lk_11_274 dk_94 (by decide) rfl (Nat.le_of_ble_eq_true rfl) (Nat.le_of_ble_eq_true rfl) rfl ?_
  refine ev_aload_n (i := 0) 6 dX11_ends_5 rfl rfl rfl ?_
  refine ev_get (v := .int (S4.1 94 13)) 9 dX11_ends_6 dk_94 fl_11_203 (by decide) rfl rfl rfl ?_
  refine ev_if_le 13 12 dX11_ends_9 rfl rfl (fun c7 => ?_) (fun c7 => ?_)
  · replace h := rx_if_t c7 h
    refine ev_aload_n (i := 0) 14 dX11_ends_13 rfl rfl rfl ?_
    refine ev_get (v := .ref 102) 17 dX11_ends_14 dk_94 fl_11_40 (by decide) rfl rfl rfl ?_
    refine ev_aload_n (i := 0) 18 dX11_ends_17 rfl rfl rfl ?_
    refine ev_get (v := .int (S4.1 94 20)) 21 dX11_ends_18 dk_94 fl_11_239 (by decide) rfl rfl rfl ?_
    refine ev_aload_n (i := 0) 22 dX11_ends_21 rfl rfl rfl ?_
    refine ev_get (v := .ref 100) 25 dX11_ends_22 dk_94 fl_11_30 (by decide) rfl rfl rfl ?_
    refine ev_iload_n (i := 1) 26 dX11_ends_25 rfl rfl rfl ?_
    obtain ⟨g8, h⟩ := rx_gd_o h
    refine ex_lald _ 27 dX11_ends_26 dk_100 g8 rfl rfl ?_
    obtain ⟨g9, h⟩ := rx_gd_o h
    obtain ⟨S10, eS10, h⟩ := rx_let_o h
    refine ex_last _ 28 dX11_ends_27 dk_102 g9 rfl rfl eS10 ?_
    refine ev_aload_n (i := 0) 29 dX11_ends_28 rfl rfl rfl ?_
    refine ev_get (v := .ref 103) 32 dX11_ends_29 dk_94 fl_11_43 (by decide) rfl rfl rfl ?_
    refine ev_aload_n (i := 0) 33 dX11_ends_32 rfl rfl rfl ?_
    refine ev_get (v := .int (S10.1 94 20)) 36 dX11_ends_33 dk_94 fl_11_239 (by decide) rfl rfl rfl ?_
    refine ev_iload_n (i := 2) 37 dX11_ends_36 rfl rfl rfl ?_
    obtain ⟨g11, h⟩ := rx_gd_o h
    obtain ⟨S12, eS12, h⟩ := rx_let_o h
    refine ex_iast _ 38 dX11_ends_37 dk_103 g11 rfl rfl eS12 ?_
    refine ev_aload_n (i := 0) 39 dX11_ends_38 rfl rfl rfl ?_
    refine ev_dup 40 dX11_ends_39 rfl rfl ?_
    refine ev_get (v := .int (S12.1 94 20)) 43 dX11_ends_40 dk_94 fl_11_239 (by decide) rfl rfl rfl ?_
    refine ev_iconst (v := 1) 44 dX11_ends_43 (by decide) rfl ?_
    refine ev_iadd 45 dX11_ends_44 rfl ?_
    obtain ⟨S13, eS13, h⟩ := rx_let_o h
    refine ex_put 48 dX11_ends_45 dk_94 fl_11_239 pp_11_20 (by decide) rfl rfl rfl rfl eS13 ?_
    exact ev_return dX11_ends_48 rfl (rx_ret_v h)
  · replace h := rx_if_f c7 h
    exact ev_return dX11_ends_12 rfl (rx_ret_v h)

def f_X11_tellThird (N : Nat) (S0 : rx_S) : Option (Unit × rx_S) := rx_gd (S0.1 94 19) 2 (rx_let (((4 : Int32) * (S0.1 94 19)) + (S0.1 109 (Int32.toNatClampNeg (S0.1 94 19)))) (fun x3 => rx_bd (f_X11_named N S0) (fun x5 S4 => rx_bd (f_X11_bounded 0 9 S4) (fun x8 S7 => rx_gd x3 8 (rx_let (rx_ui S7 110 (Int32.toNatClampNeg x3) x8) (fun S11 => rx_bd (f_X11_bounded 0 99 S11) (fun x13 S12 => rx_gd x3 8 (rx_let (rx_ui S12 111 (Int32.toNatClampNeg x3) x13) (fun S16 => rx_bd (f_X11_ends x5 (-1) S16) (fun x18 S17 => if (S17.1 94 13) = 0 then (rx_gd (S17.1 94 19) 2 (rx_gd (S17.1 94 19) 2 (rx_let (rx_ui S17 109 (Int32.toNatClampNeg (S17.1 94 19)) ((S17.1 109 (Int32.toNatClampNeg (S17.1 94 19))) + 1)) (fun S23 => some ((), S23))))) else (some ((), S17))))))))))))
set_option maxHeartbeats 4000000 in
set_option maxRecDepth 20000 in
theorem em_X11_tellThird {d N : Nat} {S0 : rx_S} {zr : Unit} {zS : rx_S} (h : f_X11_tellThird N S0 = some (zr, zS)) : EM gM (d + 4) mX11_tellThird [.ref 94] S0 (rx_pv zS) := by
  unfold f_X11_tellThird at h
  show EV gM (d + 4) mX11_tellThird 0 [some (.ref 94), none, none] [] S0 (rx_pv zS)
  refine ev_iconst (v := 4) 1 dX11_tellThird_0 (by decide) rfl ?_
  refine ev_aload_n (i := 0) 2 dX11_tellThird_1 rfl rfl rfl ?_
  refine ev_get (v := .int (S0.1 94 19)) 5 dX11_tellThird_2 dk_94 fl_11_236 (by decide) rfl rfl rfl ?_
  refine ev_imul 6 dX11_tellThird_5 rfl ?_
  refine ev_aload_n (i := 0) 7 dX11_tellThird_6 rfl rfl rfl ?_
  refine ev_get (v := .ref 109) 10 dX11_tellThird_7 dk_94 fl_11_61 (by decide) rfl rfl rfl ?_
  refine ev_aload_n (i := 0) 11 dX11_tellThird_10 rfl rfl rfl ?_
  refine ev_get (v := .int (S0.1 94 19)) 14 dX11_tellThird_11 dk_94 fl_11_236 (by decide) rfl rfl rfl ?_
  obtain ⟨g2, h⟩ := rx_gd_o h
  refine ex_iald _ 15 dX11_tellThird_14 dk_109 g2 rfl rfl ?_
  refine ev_iadd 16 dX11_tellThird_15 rfl ?_
  obtain ⟨x3, ex3, h⟩ := rx_let_o h
  refine ev_nm ex3 ?_
  refine ev_istore_n (ls' := [some (.ref 94), some (.int x3), none]) 17 dX11_tellThird_16 rfl (Nat.le_of_ble_eq_true rfl) rfl rfl ?_
  refine ev_aload_n (i := 0) 18 dX11_tellThird_17 rfl rfl rfl ?_
  obtain ⟨x5, S4, g6, h⟩ := rx_bd_o h
  refine ev_cVi0 21 dX11_tellThird_18 (em_X11_named g6) mm_X11_named mv_X11_named lk_11_283 dk_94 (by decide) rfl (Nat.le_of_ble_eq_true rfl) (Nat.le_of_ble_eq_true rfl) rfl ?_
  refine ev_istore_n (ls' := [some (.ref 94), some (.int x3), some (.int x5)]) 22 dX11_tellThird_21 rfl (Nat.le_of_ble_eq_true rfl) rfl rfl ?_
  refine ev_aload_n (i := 0) 23 dX11_tellThird_22 rfl rfl rfl ?_
  refine ev_get (v := .ref 110) 26 dX11_tellThird_23 dk_94 fl_11_64 (by decide) rfl rfl rfl ?_
  refine ev_iload_n (i := 1) 27 dX11_tellThird_26 rfl rfl rfl ?_
  refine ev_aload_n (i := 0) 28 dX11_tellThird_27 rfl rfl rfl ?_
  refine ev_iconst (v := 0) 29 dX11_tellThird_28 (by decide) rfl ?_
  refine ev_bipush (v := 9) 31 dX11_tellThird_29 (by decide) rfl ?_
  obtain ⟨x8, S7, g9, h⟩ := rx_bd_o h
  refine ev_cVi2 34 dX11_tellThird_31 (em_X11_bounded g9) mm_X11_bounded mv_X11_bounded lk_11_270 dk_94 (by decide) rfl (Nat.le_of_ble_eq_true rfl) (Nat.le_of_ble_eq_true rfl) rfl ?_
  obtain ⟨g10, h⟩ := rx_gd_o h
  obtain ⟨S11, eS11, h⟩ := rx_let_o h
  refine ex_iast _ 35 dX11_tellThird_34 dk_110 g10 rfl rfl eS11 ?_
  refine ev_aload_n (i := 0) 36 dX11_tellThird_35 rfl rfl rfl ?_
  refine ev_get (v := .ref 111) 39 dX11_tellThird_36 dk_94 fl_11_67 (by decide) rfl rfl rfl ?_
  refine ev_iload_n (i := 1) 40 dX11_tellThird_39 rfl rfl rfl ?_
  refine ev_aload_n (i := 0) 41 dX11_tellThird_40 rfl rfl rfl ?_
  refine ev_iconst (v := 0) 42 dX11_tellThird_41 (by decide) rfl ?_
  refine ev_bipush (v := 99) 44 dX11_tellThird_42 (by decide) rfl ?_
  obtain ⟨x13, S12, g14, h⟩ := rx_bd_o h
  refine ev_cVi2 47 dX11_tellThird_44 (em_X11_bounded g14) mm_X11_bounded mv_X11_bounded lk_11_270 dk_94 (by decide) rfl (Nat.le_of_ble_eq_true rfl) (Nat.le_of_ble_eq_true rfl) rfl ?_
  obtain ⟨g15, h⟩ := rx_gd_o h
  obtain ⟨S16, eS16, h⟩ := rx_let_o h
  refine ex_iast _ 48 dX11_tellThird_47 dk_111 g15 rfl rfl eS16 ?_
  refine ev_aload_n (i := 0) 49 dX11_tellThird_48 rfl rfl rfl ?_
  refine ev_iload_n (i := 2) 50 dX11_tellThird_49 rfl rfl rfl ?_
  refine ev_iconst (v := (-1)) 51 dX11_tellThird_50 (by decide) rfl ?_
  obtain ⟨x18, S17, g19, h⟩ := rx_bd_o h
  refine ev_cVv2 54 dX11_tellThird_51 (em_X11_ends g19) mm_X11_ends mv_X11_ends lk_11_287 dk_94 (by decide) rfl (Nat.le_of_ble_eq_true rfl) (Nat.le_of_ble_eq_true rfl) rfl ?_
  refine ev_aload_n (i := 0) 55 dX11_tellThird_54 rfl rfl rfl ?_
  refine ev_get (v := .int (S17.1 94 13)) 58 dX11_tellThird_55 dk_94 fl_11_203 (by decide) rfl rfl rfl ?_
  refine ev_if_ne 74 61 dX11_tellThird_58 rfl rfl (fun c20 => ?_) (fun c20 => ?_)
  · replace h := rx_if_f c20 h
    exact ev_return dX11_tellThird_74 rfl (rx_ret_v h)
  · replace h := rx_if_t c20 h
    refine ev_aload_n (i := 0) 62 dX11_tellThird_61 rfl rfl rfl ?_
    refine ev_get (v := .ref 109) 65 dX11_tellThird_62 dk_94 fl_11_61 (by decide) rfl rfl rfl ?_
    refine ev_aload_n (i := 0) 66 dX11_tellThird_65 rfl rfl rfl ?_
    refine ev_get (v := .int (S17.1 94 19)) 69 dX11_tellThird_66 dk_94 fl_11_236 (by decide) rfl rfl rfl ?_
    refine ev_dup2 70 dX11_tellThird_69 rfl rfl rfl ?_
    obtain ⟨g21, h⟩ := rx_gd_o h
    refine ex_iald _ 71 dX11_tellThird_70 dk_109 g21 rfl rfl ?_
    refine ev_iconst (v := 1) 72 dX11_tellThird_71 (by decide) rfl ?_
    refine ev_iadd 73 dX11_tellThird_72 rfl ?_
    obtain ⟨g22, h⟩ := rx_gd_o h
    obtain ⟨S23, eS23, h⟩ := rx_let_o h
    refine ex_iast _ 74 dX11_tellThird_73 dk_109 g22 rfl rfl eS23 ?_
    exact ev_return dX11_tellThird_74 rfl (rx_ret_v h)

def f_X11_knownSpouse_L21 (N : Nat) (K54 : Int32 → rx_S → Option (Int32 × rx_S)) (K67 : Int32 → rx_S → Option (Int32 × rx_S)) : Nat → Int32 → Int32 → rx_S → Option (Int32 × rx_S)
  | 0, _, _, _ => none
  | n + 1, x15, x16, S17 => if (S17.1 94 20) ≤ x16 then (K67 x15 S17) else (rx_gd x16 10 (rx_gd x15 403 (if (lg_cmp (S17.2 102 (Int32.toNatClampNeg x16)) (S17.2 100 (Int32.toNatClampNeg x15))) = 0 then (rx_gd x16 10 (if (S17.1 103 (Int32.toNatClampNeg x16)) < 0 then (rx_let (x16 + 1) (fun x29 => f_X11_knownSpouse_L21 N K54 K67 n x15 x29 S17)) else (K54 x16 S17))) else (rx_let (x16 + 1) (fun x26 => f_X11_knownSpouse_L21 N K54 K67 n x15 x26 S17)))))
def f_X11_knownSpouse (N : Nat) (S0 : rx_S) : Option (Int32 × rx_S) := rx_let (S0.1 94 11) (fun x2 => rx_bd (f_X11_must 1 S0) (fun x4 S3 => if (S3.1 94 13) ≤ 0 then (rx_let (fun (x7 : Int32) (S8 : rx_S) => rx_bd (f_X11_wrong 4 x7 S8) (fun x10 S9 => some ((-1), S9))) (fun J67_1 => rx_let (fun (x12 : Int32) (S13 : rx_S) => rx_gd x12 10 (some ((S13.1 103 (Int32.toNatClampNeg x12)), S13))) (fun J54_2 => f_X11_knownSpouse_L21 N J54_2 J67_1 N x2 0 S3))) else (some ((-1), S3))))
set_option maxHeartbeats 4000000 in
set_option maxRecDepth 20000 in
theorem em_X11_knownSpouse_L21 {d N : Nat} {K54 : Int32 → rx_S → Option (Int32 × rx_S)} {K67 : Int32 → rx_S → Option (Int32 × rx_S)} {zr : Int32} {zS : rx_S} (hK54 : ∀ (x18 : Int32) (S19 : rx_S), K54 x18 S19 = some (zr, zS) → EV gM (d + 3) mX11_knownSpouse 54 [some (.ref 94), none, some (.int x18)] [] S19 (rx_pi zr zS)) (hK67 : ∀ (x20 : Int32) (S21 : rx_S), K67 x20 S21 = some (zr, zS) → EV gM (d + 3) mX11_knownSpouse 67 [some (.ref 94), some (.int x20), none] [] S21 (rx_pi zr zS)) : ∀ (n : Nat) (x15 : Int32) (x16 : Int32) (S17 : rx_S), f_X11_knownSpouse_L21 N K54 K67 n x15 x16 S17 = some (zr, zS) → EV gM (d + 3) mX11_knownSpouse 21 [some (.ref 94), some (.int x15), some (.int x16)] [] S17 (rx_pi zr zS) := by
  intro n
  induction n with
  | zero => intro x15 x16 S17 h; cases h
  | succ n ih =>
    intro x15 x16 S17 h
    rw [f_X11_knownSpouse_L21] at h
    refine ev_iload_n (i := 2) 22 dX11_knownSpouse_21 rfl rfl rfl ?_
    refine ev_aload_n (i := 0) 23 dX11_knownSpouse_22 rfl rfl rfl ?_
    refine ev_get (v := .int (S17.1 94 20)) 26 dX11_knownSpouse_23 dk_94 fl_11_239 (by decide) rfl rfl rfl ?_
    refine ev_icmp_ge 67 29 dX11_knownSpouse_26 rfl rfl (fun c22 => ?_) (fun c22 => ?_)
    · replace h := rx_if_t c22 h
      exact (hK67 _ _ h).fewer (rx_le_s (rx_le_s (rx_le_n rx_le_0)))
    · replace h := rx_if_f c22 h
      refine ev_aload_n (i := 0) 30 dX11_knownSpouse_29 rfl rfl rfl ?_
      refine ev_get (v := .ref 102) 33 dX11_knownSpouse_30 dk_94 fl_11_40 (by decide) rfl rfl rfl ?_
      refine ev_iload_n (i := 2) 34 dX11_knownSpouse_33 rfl rfl rfl ?_
      obtain ⟨g23, h⟩ := rx_gd_o h
      refine ex_lald _ 35 dX11_knownSpouse_34 dk_102 g23 rfl rfl ?_
      refine ev_aload_n (i := 0) 36 dX11_knownSpouse_35 rfl rfl rfl ?_
      refine ev_get (v := .ref 100) 39 dX11_knownSpouse_36 dk_94 fl_11_30 (by decide) rfl rfl rfl ?_
      refine ev_iload_n (i := 1) 40 dX11_knownSpouse_39 rfl rfl rfl ?_
      obtain ⟨g24, h⟩ := rx_gd_o h
      refine ex_lald _ 41 dX11_knownSpouse_40 dk_100 g24 rfl rfl ?_
      refine ev_lcmp 42 dX11_knownSpouse_41 rfl ?_
      refine ev_if_ne 61 45 dX11_knownSpouse_42 rfl rfl (fun c25 => ?_) (fun c25 => ?_)
      · replace h := rx_if_f c25 h
        obtain ⟨x26, ex26, h⟩ := rx_let_o h
        refine ev_iinc (v := x26) (ls' := [some (.ref 94), some (.int x15), some (.int x26)]) 64 dX11_knownSpouse_61 rfl (by rw [ex26]; rfl) (Nat.le_of_ble_eq_true rfl) rfl rfl ?_
        refine ev_goto 21 dX11_knownSpouse_64 rfl ?_
        exact (ih _ _ _ h).fewer (rx_le_s (rx_le_s (rx_le_s rx_le_0)))
      · replace h := rx_if_t c25 h
        refine ev_aload_n (i := 0) 46 dX11_knownSpouse_45 rfl rfl rfl ?_
        refine ev_get (v := .ref 103) 49 dX11_knownSpouse_46 dk_94 fl_11_43 (by decide) rfl rfl rfl ?_
        refine ev_iload_n (i := 2) 50 dX11_knownSpouse_49 rfl rfl rfl ?_
        obtain ⟨g27, h⟩ := rx_gd_o h
        refine ex_iald _ 51 dX11_knownSpouse_50 dk_103 g27 rfl rfl ?_
        refine ev_if_lt 61 54 dX11_knownSpouse_51 rfl rfl (fun c28 => ?_) (fun c28 => ?_)
        · replace h := rx_if_t c28 h
          obtain ⟨x29, ex29, h⟩ := rx_let_o h
          refine ev_iinc (v := x29) (ls' := [some (.ref 94), some (.int x15), some (.int x29)]) 64 dX11_knownSpouse_61 rfl (by rw [ex29]; rfl) (Nat.le_of_ble_eq_true rfl) rfl rfl ?_
          refine ev_goto 21 dX11_knownSpouse_64 rfl ?_
          exact (ih _ _ _ h).fewer (rx_le_s (rx_le_s (rx_le_s rx_le_0)))
        · replace h := rx_if_f c28 h
          exact (hK54 _ _ h).fewer (rx_le_s (rx_le_n (rx_le_s rx_le_0)))

set_option maxHeartbeats 4000000 in
set_option maxRecDepth 20000 in
theorem em_X11_knownSpouse {d N : Nat} {S0 : rx_S} {zr : Int32} {zS : rx_S} (h : f_X11_knownSpouse N S0 = some (zr, zS)) : EM gM (d + 3) mX11_knownSpouse [.ref 94] S0 (rx_pi zr zS) := by
  unfold f_X11_knownSpouse at h
  show EV gM (d + 3) mX11_knownSpouse 0 [some (.ref 94), none, none] [] S0 (rx_pi zr zS)
  refine ev_aload_n (i := 0) 1 dX11_knownSpouse_0 rfl rfl rfl ?_
  refine ev_get (v := .int (S0.1 94 11)) 4 dX11_knownSpouse_1 dk_94 fl_11_206 (by decide) rfl rfl rfl ?_
  obtain ⟨x2, ex2, h⟩ := rx_let_o h
  refine ev_nm ex2 ?_
  refine ev_istore_n (ls' := [some (.ref 94), some (.int x2), none]) 5 dX11_knownSpouse_4 rfl (Nat.le_of_ble_eq_true rfl) rfl rfl ?_
  refine ev_aload_n (i := 0) 6 dX11_knownSpouse_5 rfl rfl rfl ?_
  refine ev_iconst (v := 1) 7 dX11_knownSpouse_6 (by decide) rfl ?_
  obtain ⟨x4, S3, g5, h⟩ := rx_bd_o h
  refine ev_cVv1 10 dX11_knownSpouse_7 (em_X11_must g5) mm_X11_must mv_X11_must lk_11_274 dk_94 (by decide) rfl (Nat.le_of_ble_eq_true rfl) (Nat.le_of_ble_eq_true rfl) rfl ?_
  refine ev_aload_n (i := 0) 11 dX11_knownSpouse_10 rfl rfl rfl ?_
  refine ev_get (v := .int (S3.1 94 13)) 14 dX11_knownSpouse_11 dk_94 fl_11_203 (by decide) rfl rfl rfl ?_
  refine ev_if_le 19 17 dX11_knownSpouse_14 rfl rfl (fun c6 => ?_) (fun c6 => ?_)
  · replace h := rx_if_t c6 h
    refine ev_iconst (v := 0) 20 dX11_knownSpouse_19 (by decide) rfl ?_
    refine ev_istore_n (ls' := [some (.ref 94), some (.int x2), some (.int 0)]) 21 dX11_knownSpouse_20 rfl (Nat.le_of_ble_eq_true rfl) rfl rfl ?_
    obtain ⟨J67_1, eJ67_1, h⟩ := rx_let_o h
    have hJ67_1 : ∀ (x7 : Int32) (S8 : rx_S), J67_1 x7 S8 = some (zr, zS) → EV gM (d + 3) mX11_knownSpouse 67 [some (.ref 94), some (.int x7), none] [] S8 (rx_pi zr zS) := by
      intro x7 S8 h
      subst eJ67_1
      refine ev_aload_n (i := 0) 68 dX11_knownSpouse_67 rfl rfl rfl ?_
      refine ev_iconst (v := 4) 69 dX11_knownSpouse_68 (by decide) rfl ?_
      refine ev_iload_n (i := 1) 70 dX11_knownSpouse_69 rfl rfl rfl ?_
      obtain ⟨x10, S9, g11, h⟩ := rx_bd_o h
      refine ev_cVv2 73 dX11_knownSpouse_70 (em_X11_wrong g11) mm_X11_wrong mv_X11_wrong lk_11_280 dk_94 (by decide) rfl (Nat.le_of_ble_eq_true rfl) (Nat.le_of_ble_eq_true rfl) rfl ?_
      refine ev_iconst (v := (-1)) 74 dX11_knownSpouse_73 (by decide) rfl ?_
      exact ev_ireturn dX11_knownSpouse_74 rfl (rx_ret_i h)
    obtain ⟨J54_2, eJ54_2, h⟩ := rx_let_o h
    have hJ54_2 : ∀ (x12 : Int32) (S13 : rx_S), J54_2 x12 S13 = some (zr, zS) → EV gM (d + 3) mX11_knownSpouse 54 [some (.ref 94), none, some (.int x12)] [] S13 (rx_pi zr zS) := by
      intro x12 S13 h
      subst eJ54_2
      refine ev_aload_n (i := 0) 55 dX11_knownSpouse_54 rfl rfl rfl ?_
      refine ev_get (v := .ref 103) 58 dX11_knownSpouse_55 dk_94 fl_11_43 (by decide) rfl rfl rfl ?_
      refine ev_iload_n (i := 2) 59 dX11_knownSpouse_58 rfl rfl rfl ?_
      obtain ⟨g14, h⟩ := rx_gd_o h
      refine ex_iald _ 60 dX11_knownSpouse_59 dk_103 g14 rfl rfl ?_
      exact ev_ireturn dX11_knownSpouse_60 rfl (rx_ret_i h)
    exact (em_X11_knownSpouse_L21 hJ54_2 hJ67_1 _ _ _ _ h).fewer (rx_le_s (rx_le_s (rx_le_s rx_le_0)))
  · replace h := rx_if_f c6 h
    refine ev_iconst (v := (-1)) 18 dX11_knownSpouse_17 (by decide) rfl ?_
    exact ev_ireturn dX11_knownSpouse_18 rfl (rx_ret_i h)

def f_X11_tellCouple (N : Nat) (S0 : rx_S) : Option (Unit × rx_S) := rx_gd (S0.1 94 19) 2 (rx_let (((3 : Int32) * (S0.1 94 19)) + (S0.1 107 (Int32.toNatClampNeg (S0.1 94 19)))) (fun x3 => rx_let (S0.1 94 11) (fun x4 => rx_bd (f_X11_knownSpouse N S0) (fun x6 S5 => rx_let (fun (x8 : Int32) (x9 : Int32) (S10 : rx_S) => rx_let (S10.1 94 11) (fun x11 => rx_bd (f_X11_knownSpouse N S10) (fun x13 S12 => rx_let (fun (x15 : Int32) (x16 : Int32) (x17 : Int32) (S18 : rx_S) => rx_bd (f_X11_must 4 S18) (fun x20 S19 => if (S19.1 94 13) ≤ 0 then (rx_gd ((2 : Int32) * x15) 12 (rx_let (rx_ui S19 108 (Int32.toNatClampNeg ((2 : Int32) * x15)) x16) (fun S24 => rx_gd (((2 : Int32) * x15) + 1) 12 (rx_let (rx_ui S24 108 (Int32.toNatClampNeg (((2 : Int32) * x15) + 1)) x17) (fun S26 => rx_let (fun (x27 : Int32) (S28 : rx_S) => rx_let (fun (S29 : rx_S) => rx_gd (S29.1 94 19) 2 (rx_gd (S29.1 94 19) 2 (rx_let (rx_ui S29 107 (Int32.toNatClampNeg (S29.1 94 19)) ((S29.1 107 (Int32.toNatClampNeg (S29.1 94 19))) + 1)) (fun S32 => some ((), S32))))) (fun J204_4 => if x27 < 0 then (J204_4 S28) else (rx_gd (S28.1 94 19) 2 (rx_gd (((6 : Int32) * (S28.1 94 19)) + x27) 12 (rx_let (rx_ui S28 106 (Int32.toNatClampNeg (((6 : Int32) * (S28.1 94 19)) + x27)) (S28.1 107 (Int32.toNatClampNeg (S28.1 94 19)))) (fun S36 => J204_4 S36)))))) (fun J175_3 => if x16 < 0 then (J175_3 x17 S26) else (rx_gd (S26.1 94 19) 2 (rx_gd (((6 : Int32) * (S26.1 94 19)) + x16) 12 (rx_let (rx_ui S26 106 (Int32.toNatClampNeg (((6 : Int32) * (S26.1 94 19)) + x16)) (S26.1 107 (Int32.toNatClampNeg (S26.1 94 19)))) (fun S40 => J175_3 x17 S40)))))))))) else (some ((), S19)))) (fun J114_2 => if (S12.1 94 13) = 0 then (if x13 < 0 then (J114_2 x8 x9 x13 S12) else (rx_let (fun (x43 : Int32) (x44 : Int32) (x45 : Int32) (x46 : Int32) (S47 : rx_S) => rx_bd (f_X11_wrong 3 x44 S47) (fun x49 S48 => J114_2 x43 x45 x46 S48)) (fun J108_5 => if x9 = x13 then (J108_5 x8 x11 x9 x13 S12) else (rx_gd (((6 : Int32) * (S12.1 94 19)) + x13) 12 (if (S12.1 106 (Int32.toNatClampNeg (((6 : Int32) * (S12.1 94 19)) + x13))) < 0 then (J114_2 x8 x9 x13 S12) else (J108_5 x8 x11 x9 x13 S12)))))) else (J114_2 x8 x9 x13 S12))))) (fun J61_1 => if (S5.1 94 13) = 0 then (if x6 < 0 then (J61_1 x3 x6 S5) else (rx_gd (((6 : Int32) * (S5.1 94 19)) + x6) 12 (if (S5.1 106 (Int32.toNatClampNeg (((6 : Int32) * (S5.1 94 19)) + x6))) < 0 then (J61_1 x3 x6 S5) else (rx_bd (f_X11_wrong 3 x4 S5) (fun x59 S58 => J61_1 x3 x6 S58))))) else (J61_1 x3 x6 S5))))))
set_option maxHeartbeats 4000000 in
set_option maxRecDepth 20000 in
theorem em_X11_tellCouple {d N : Nat} {S0 : rx_S} {zr : Unit} {zS : rx_S} (h : f_X11_tellCouple N S0 = some (zr, zS)) : EM gM (d + 4) mX11_tellCouple [.ref 94] S0 (rx_pv zS) := by
  unfold f_X11_tellCouple at h
  show EV gM (d + 4) mX11_tellCouple 0 [some (.ref 94), none, none, none, none] [] S0 (rx_pv zS)
  refine ev_iconst (v := 3) 1 dX11_tellCouple_0 (by decide) rfl ?_
  refine ev_aload_n (i := 0) 2 dX11_tellCouple_1 rfl rfl rfl ?_
  refine ev_get (v := .int (S0.1 94 19)) 5 dX11_tellCouple_2 dk_94 fl_11_236 (by decide) rfl rfl rfl ?_
  refine ev_imul 6 dX11_tellCouple_5 rfl ?_
  refine ev_aload_n (i := 0) 7 dX11_tellCouple_6 rfl rfl rfl ?_
  refine ev_get (v := .ref 107) 10 dX11_tellCouple_7 dk_94 fl_11_55 (by decide) rfl rfl rfl ?_
  refine ev_aload_n (i := 0) 11 dX11_tellCouple_10 rfl rfl rfl ?_
  refine ev_get (v := .int (S0.1 94 19)) 14 dX11_tellCouple_11 dk_94 fl_11_236 (by decide) rfl rfl rfl ?_
  obtain ⟨g2, h⟩ := rx_gd_o h
  refine ex_iald _ 15 dX11_tellCouple_14 dk_107 g2 rfl rfl ?_
  refine ev_iadd 16 dX11_tellCouple_15 rfl ?_
  obtain ⟨x3, ex3, h⟩ := rx_let_o h
  refine ev_nm ex3 ?_
  refine ev_istore_n (ls' := [some (.ref 94), some (.int x3), none, none, none]) 17 dX11_tellCouple_16 rfl (Nat.le_of_ble_eq_true rfl) rfl rfl ?_
  refine ev_aload_n (i := 0) 18 dX11_tellCouple_17 rfl rfl rfl ?_
  refine ev_get (v := .int (S0.1 94 11)) 21 dX11_tellCouple_18 dk_94 fl_11_206 (by decide) rfl rfl rfl ?_
  obtain ⟨x4, ex4, h⟩ := rx_let_o h
  refine ev_nm ex4 ?_
  refine ev_istore_n (ls' := [some (.ref 94), some (.int x3), some (.int x4), none, none]) 22 dX11_tellCouple_21 rfl (Nat.le_of_ble_eq_true rfl) rfl rfl ?_
  refine ev_aload_n (i := 0) 23 dX11_tellCouple_22 rfl rfl rfl ?_
  obtain ⟨x6, S5, g7, h⟩ := rx_bd_o h
  refine ev_cVi0 26 dX11_tellCouple_23 (em_X11_knownSpouse g7) mm_X11_knownSpouse mv_X11_knownSpouse lk_11_290 dk_94 (by decide) rfl (Nat.le_of_ble_eq_true rfl) (Nat.le_of_ble_eq_true rfl) rfl ?_
  refine ev_istore_n (ls' := [some (.ref 94), some (.int x3), some (.int x4), some (.int x6), none]) 27 dX11_tellCouple_26 rfl (Nat.le_of_ble_eq_true rfl) rfl rfl ?_
  refine ev_aload_n (i := 0) 28 dX11_tellCouple_27 rfl rfl rfl ?_
  refine ev_get (v := .int (S5.1 94 13)) 31 dX11_tellCouple_28 dk_94 fl_11_203 (by decide) rfl rfl rfl ?_
  obtain ⟨J61_1, eJ61_1, h⟩ := rx_let_o h
  have hJ61_1 : ∀ (x8 : Int32) (x9 : Int32) (S10 : rx_S), J61_1 x8 x9 S10 = some (zr, zS) → EV gM (d + 4) mX11_tellCouple 61 [some (.ref 94), some (.int x8), none, some (.int x9), none] [] S10 (rx_pv zS) := by
    intro x8 x9 S10 h
    subst eJ61_1
    refine ev_aload_n (i := 0) 62 dX11_tellCouple_61 rfl rfl rfl ?_
    refine ev_get (v := .int (S10.1 94 11)) 65 dX11_tellCouple_62 dk_94 fl_11_206 (by decide) rfl rfl rfl ?_
    obtain ⟨x11, ex11, h⟩ := rx_let_o h
    refine ev_nm ex11 ?_
    refine ev_istore_n (ls' := [some (.ref 94), some (.int x8), some (.int x11), some (.int x9), none]) 66 dX11_tellCouple_65 rfl (Nat.le_of_ble_eq_true rfl) rfl rfl ?_
    refine ev_aload_n (i := 0) 67 dX11_tellCouple_66 rfl rfl rfl ?_
    obtain ⟨x13, S12, g14, h⟩ := rx_bd_o h
    refine ev_cVi0 70 dX11_tellCouple_67 (em_X11_knownSpouse g14) mm_X11_knownSpouse mv_X11_knownSpouse lk_11_290 dk_94 (by decide) rfl (Nat.le_of_ble_eq_true rfl) (Nat.le_of_ble_eq_true rfl) rfl ?_
    refine ev_istore (ls' := [some (.ref 94), some (.int x8), some (.int x11), some (.int x9), some (.int x13)]) 72 dX11_tellCouple_70 (Nat.le_of_ble_eq_true rfl) rfl rfl ?_
    refine ev_aload_n (i := 0) 73 dX11_tellCouple_72 rfl rfl rfl ?_
    refine ev_get (v := .int (S12.1 94 13)) 76 dX11_tellCouple_73 dk_94 fl_11_203 (by decide) rfl rfl rfl ?_
    obtain ⟨J114_2, eJ114_2, h⟩ := rx_let_o h
    have hJ114_2 : ∀ (x15 : Int32) (x16 : Int32) (x17 : Int32) (S18 : rx_S), J114_2 x15 x16 x17 S18 = some (zr, zS) → EV gM (d + 4) mX11_tellCouple 114 [some (.ref 94), some (.int x15), none, some (.int x16), some (.int x17)] [] S18 (rx_pv zS) := by
      intro x15 x16 x17 S18 h
      subst eJ114_2
      refine ev_aload_n (i := 0) 115 dX11_tellCouple_114 rfl rfl rfl ?_
      refine ev_iconst (v := 4) 116 dX11_tellCouple_115 (by decide) rfl ?_
      obtain ⟨x20, S19, g21, h⟩ := rx_bd_o h
      refine ev_cVv1 119 dX11_tellCouple_116 (em_X11_must g21) mm_X11_must mv_X11_must lk_11_274 dk_94 (by decide) rfl (Nat.le_of_ble_eq_true rfl) (Nat.le_of_ble_eq_true rfl) rfl ?_
      refine ev_aload_n (i := 0) 120 dX11_tellCouple_119 rfl rfl rfl ?_
      refine ev_get (v := .int (S19.1 94 13)) 123 dX11_tellCouple_120 dk_94 fl_11_203 (by decide) rfl rfl rfl ?_
      refine ev_if_le 127 126 dX11_tellCouple_123 rfl rfl (fun c22 => ?_) (fun c22 => ?_)
      · replace h := rx_if_t c22 h
        refine ev_aload_n (i := 0) 128 dX11_tellCouple_127 rfl rfl rfl ?_
        refine ev_get (v := .ref 108) 131 dX11_tellCouple_128 dk_94 fl_11_58 (by decide) rfl rfl rfl ?_
        refine ev_iconst (v := 2) 132 dX11_tellCouple_131 (by decide) rfl ?_
        refine ev_iload_n (i := 1) 133 dX11_tellCouple_132 rfl rfl rfl ?_
        refine ev_imul 134 dX11_tellCouple_133 rfl ?_
        refine ev_iload_n (i := 3) 135 dX11_tellCouple_134 rfl rfl rfl ?_
        obtain ⟨g23, h⟩ := rx_gd_o h
        obtain ⟨S24, eS24, h⟩ := rx_let_o h
        refine ex_iast _ 136 dX11_tellCouple_135 dk_108 g23 rfl rfl eS24 ?_
        refine ev_aload_n (i := 0) 137 dX11_tellCouple_136 rfl rfl rfl ?_
        refine ev_get (v := .ref 108) 140 dX11_tellCouple_137 dk_94 fl_11_58 (by decide) rfl rfl rfl ?_
        refine ev_iconst (v := 2) 141 dX11_tellCouple_140 (by decide) rfl ?_
        refine ev_iload_n (i := 1) 142 dX11_tellCouple_141 rfl rfl rfl ?_
        refine ev_imul 143 dX11_tellCouple_142 rfl ?_
        refine ev_iconst (v := 1) 144 dX11_tellCouple_143 (by decide) rfl ?_
        refine ev_iadd 145 dX11_tellCouple_144 rfl ?_
        refine ev_iload 147 dX11_tellCouple_145 rfl rfl ?_
        obtain ⟨g25, h⟩ := rx_gd_o h
        obtain ⟨S26, eS26, h⟩ := rx_let_o h
        refine ex_iast _ 148 dX11_tellCouple_147 dk_108 g25 rfl rfl eS26 ?_
        refine ev_iload_n (i := 3) 149 dX11_tellCouple_148 rfl rfl rfl ?_
        obtain ⟨J175_3, eJ175_3, h⟩ := rx_let_o h
        have hJ175_3 : ∀ (x27 : Int32) (S28 : rx_S), J175_3 x27 S28 = some (zr, zS) → EV gM (d + 4) mX11_tellCouple 175 [some (.ref 94), none, none, none, some (.int x27)] [] S28 (rx_pv zS) := by
          intro x27 S28 h
          subst eJ175_3
          refine ev_iload 177 dX11_tellCouple_175 rfl rfl ?_
          obtain ⟨J204_4, eJ204_4, h⟩ := rx_let_o h
          have hJ204_4 : ∀ (S29 : rx_S), J204_4 S29 = some (zr, zS) → EV gM (d + 4) mX11_tellCouple 204 [some (.ref 94), none, none, none, none] [] S29 (rx_pv zS) := by
            intro S29 h
            subst eJ204_4
            refine ev_aload_n (i := 0) 205 dX11_tellCouple_204 rfl rfl rfl ?_
            refine ev_get (v := .ref 107) 208 dX11_tellCouple_205 dk_94 fl_11_55 (by decide) rfl rfl rfl ?_
            refine ev_aload_n (i := 0) 209 dX11_tellCouple_208 rfl rfl rfl ?_
            refine ev_get (v := .int (S29.1 94 19)) 212 dX11_tellCouple_209 dk_94 fl_11_236 (by decide) rfl rfl rfl ?_
            refine ev_dup2 213 dX11_tellCouple_212 rfl rfl rfl ?_
            obtain ⟨g30, h⟩ := rx_gd_o h
            refine ex_iald _ 214 dX11_tellCouple_213 dk_107 g30 rfl rfl ?_
            refine ev_iconst (v := 1) 215 dX11_tellCouple_214 (by decide) rfl ?_
            refine ev_iadd 216 dX11_tellCouple_215 rfl ?_
            obtain ⟨g31, h⟩ := rx_gd_o h
            obtain ⟨S32, eS32, h⟩ := rx_let_o h
            refine ex_iast _ 217 dX11_tellCouple_216 dk_107 g31 rfl rfl eS32 ?_
            exact ev_return dX11_tellCouple_217 rfl (rx_ret_v h)
          refine ev_if_lt 204 180 dX11_tellCouple_177 rfl rfl (fun c33 => ?_) (fun c33 => ?_)
          · replace h := rx_if_t c33 h
            exact (hJ204_4 _ h).fewer (rx_le_s (rx_le_n (rx_le_n (rx_le_n (rx_le_n rx_le_0)))))
          · replace h := rx_if_f c33 h
            refine ev_aload_n (i := 0) 181 dX11_tellCouple_180 rfl rfl rfl ?_
            refine ev_get (v := .ref 106) 184 dX11_tellCouple_181 dk_94 fl_11_52 (by decide) rfl rfl rfl ?_
            refine ev_bipush (v := 6) 186 dX11_tellCouple_184 (by decide) rfl ?_
            refine ev_aload_n (i := 0) 187 dX11_tellCouple_186 rfl rfl rfl ?_
            refine ev_get (v := .int (S28.1 94 19)) 190 dX11_tellCouple_187 dk_94 fl_11_236 (by decide) rfl rfl rfl ?_
            refine ev_imul 191 dX11_tellCouple_190 rfl ?_
            refine ev_iload 193 dX11_tellCouple_191 rfl rfl ?_
            refine ev_iadd 194 dX11_tellCouple_193 rfl ?_
            refine ev_aload_n (i := 0) 195 dX11_tellCouple_194 rfl rfl rfl ?_
            refine ev_get (v := .ref 107) 198 dX11_tellCouple_195 dk_94 fl_11_55 (by decide) rfl rfl rfl ?_
            refine ev_aload_n (i := 0) 199 dX11_tellCouple_198 rfl rfl rfl ?_
            refine ev_get (v := .int (S28.1 94 19)) 202 dX11_tellCouple_199 dk_94 fl_11_236 (by decide) rfl rfl rfl ?_
            obtain ⟨g34, h⟩ := rx_gd_o h
            refine ex_iald _ 203 dX11_tellCouple_202 dk_107 g34 rfl rfl ?_
            obtain ⟨g35, h⟩ := rx_gd_o h
            obtain ⟨S36, eS36, h⟩ := rx_let_o h
            refine ex_iast _ 204 dX11_tellCouple_203 dk_106 g35 rfl rfl eS36 ?_
            exact (hJ204_4 _ h).fewer (rx_le_s (rx_le_n (rx_le_n (rx_le_n (rx_le_n rx_le_0)))))
        refine ev_if_lt 175 152 dX11_tellCouple_149 rfl rfl (fun c37 => ?_) (fun c37 => ?_)
        · replace h := rx_if_t c37 h
          exact (hJ175_3 _ _ h).fewer (rx_le_s (rx_le_n (rx_le_n (rx_le_n (rx_le_s rx_le_0)))))
        · replace h := rx_if_f c37 h
          refine ev_aload_n (i := 0) 153 dX11_tellCouple_152 rfl rfl rfl ?_
          refine ev_get (v := .ref 106) 156 dX11_tellCouple_153 dk_94 fl_11_52 (by decide) rfl rfl rfl ?_
          refine ev_bipush (v := 6) 158 dX11_tellCouple_156 (by decide) rfl ?_
          refine ev_aload_n (i := 0) 159 dX11_tellCouple_158 rfl rfl rfl ?_
          refine ev_get (v := .int (S26.1 94 19)) 162 dX11_tellCouple_159 dk_94 fl_11_236 (by decide) rfl rfl rfl ?_
          refine ev_imul 163 dX11_tellCouple_162 rfl ?_
          refine ev_iload_n (i := 3) 164 dX11_tellCouple_163 rfl rfl rfl ?_
          refine ev_iadd 165 dX11_tellCouple_164 rfl ?_
          refine ev_aload_n (i := 0) 166 dX11_tellCouple_165 rfl rfl rfl ?_
          refine ev_get (v := .ref 107) 169 dX11_tellCouple_166 dk_94 fl_11_55 (by decide) rfl rfl rfl ?_
          refine ev_aload_n (i := 0) 170 dX11_tellCouple_169 rfl rfl rfl ?_
          refine ev_get (v := .int (S26.1 94 19)) 173 dX11_tellCouple_170 dk_94 fl_11_236 (by decide) rfl rfl rfl ?_
          obtain ⟨g38, h⟩ := rx_gd_o h
          refine ex_iald _ 174 dX11_tellCouple_173 dk_107 g38 rfl rfl ?_
          obtain ⟨g39, h⟩ := rx_gd_o h
          obtain ⟨S40, eS40, h⟩ := rx_let_o h
          refine ex_iast _ 175 dX11_tellCouple_174 dk_106 g39 rfl rfl eS40 ?_
          exact (hJ175_3 _ _ h).fewer (rx_le_s (rx_le_n (rx_le_n (rx_le_n (rx_le_s rx_le_0)))))
      · replace h := rx_if_f c22 h
        exact ev_return dX11_tellCouple_126 rfl (rx_ret_v h)
    refine ev_if_ne 114 79 dX11_tellCouple_76 rfl rfl (fun c41 => ?_) (fun c41 => ?_)
    · replace h := rx_if_f c41 h
      exact (hJ114_2 _ _ _ _ h).fewer (rx_le_s (rx_le_s (rx_le_n (rx_le_s (rx_le_s rx_le_0)))))
    · replace h := rx_if_t c41 h
      refine ev_iload 81 dX11_tellCouple_79 rfl rfl ?_
      refine ev_if_lt 114 84 dX11_tellCouple_81 rfl rfl (fun c42 => ?_) (fun c42 => ?_)
      · replace h := rx_if_t c42 h
        exact (hJ114_2 _ _ _ _ h).fewer (rx_le_s (rx_le_s (rx_le_n (rx_le_s (rx_le_s rx_le_0)))))
      · replace h := rx_if_f c42 h
        refine ev_iload_n (i := 3) 85 dX11_tellCouple_84 rfl rfl rfl ?_
        refine ev_iload 87 dX11_tellCouple_85 rfl rfl ?_
        obtain ⟨J108_5, eJ108_5, h⟩ := rx_let_o h
        have hJ108_5 : ∀ (x43 : Int32) (x44 : Int32) (x45 : Int32) (x46 : Int32) (S47 : rx_S), J108_5 x43 x44 x45 x46 S47 = some (zr, zS) → EV gM (d + 4) mX11_tellCouple 108 [some (.ref 94), some (.int x43), some (.int x44), some (.int x45), some (.int x46)] [] S47 (rx_pv zS) := by
          intro x43 x44 x45 x46 S47 h
          subst eJ108_5
          refine ev_aload_n (i := 0) 109 dX11_tellCouple_108 rfl rfl rfl ?_
          refine ev_iconst (v := 3) 110 dX11_tellCouple_109 (by decide) rfl ?_
          refine ev_iload_n (i := 2) 111 dX11_tellCouple_110 rfl rfl rfl ?_
          obtain ⟨x49, S48, g50, h⟩ := rx_bd_o h
          refine ev_cVv2 114 dX11_tellCouple_111 (em_X11_wrong g50) mm_X11_wrong mv_X11_wrong lk_11_280 dk_94 (by decide) rfl (Nat.le_of_ble_eq_true rfl) (Nat.le_of_ble_eq_true rfl) rfl ?_
          exact (hJ114_2 _ _ _ _ h).fewer (rx_le_s (rx_le_s (rx_le_n (rx_le_s (rx_le_s rx_le_0)))))
        refine ev_icmp_eq 108 90 dX11_tellCouple_87 rfl rfl (fun c51 => ?_) (fun c51 => ?_)
        · replace h := rx_if_t c51 h
          exact (hJ108_5 _ _ _ _ _ h).fewer (rx_le_s (rx_le_s (rx_le_s (rx_le_s (rx_le_s rx_le_0)))))
        · replace h := rx_if_f c51 h
          refine ev_aload_n (i := 0) 91 dX11_tellCouple_90 rfl rfl rfl ?_
          refine ev_get (v := .ref 106) 94 dX11_tellCouple_91 dk_94 fl_11_52 (by decide) rfl rfl rfl ?_
          refine ev_bipush (v := 6) 96 dX11_tellCouple_94 (by decide) rfl ?_
          refine ev_aload_n (i := 0) 97 dX11_tellCouple_96 rfl rfl rfl ?_
          refine ev_get (v := .int (S12.1 94 19)) 100 dX11_tellCouple_97 dk_94 fl_11_236 (by decide) rfl rfl rfl ?_
          refine ev_imul 101 dX11_tellCouple_100 rfl ?_
          refine ev_iload 103 dX11_tellCouple_101 rfl rfl ?_
          refine ev_iadd 104 dX11_tellCouple_103 rfl ?_
          obtain ⟨g52, h⟩ := rx_gd_o h
          refine ex_iald _ 105 dX11_tellCouple_104 dk_106 g52 rfl rfl ?_
          refine ev_if_lt 114 108 dX11_tellCouple_105 rfl rfl (fun c53 => ?_) (fun c53 => ?_)
          · replace h := rx_if_t c53 h
            exact (hJ114_2 _ _ _ _ h).fewer (rx_le_s (rx_le_s (rx_le_n (rx_le_s (rx_le_s rx_le_0)))))
          · replace h := rx_if_f c53 h
            exact (hJ108_5 _ _ _ _ _ h).fewer (rx_le_s (rx_le_s (rx_le_s (rx_le_s (rx_le_s rx_le_0)))))
  refine ev_if_ne 61 34 dX11_tellCouple_31 rfl rfl (fun c54 => ?_) (fun c54 => ?_)
  · replace h := rx_if_f c54 h
    exact (hJ61_1 _ _ _ h).fewer (rx_le_s (rx_le_s (rx_le_n (rx_le_s (rx_le_n rx_le_0)))))
  · replace h := rx_if_t c54 h
    refine ev_iload_n (i := 3) 35 dX11_tellCouple_34 rfl rfl rfl ?_
    refine ev_if_lt 61 38 dX11_tellCouple_35 rfl rfl (fun c55 => ?_) (fun c55 => ?_)
    · replace h := rx_if_t c55 h
      exact (hJ61_1 _ _ _ h).fewer (rx_le_s (rx_le_s (rx_le_n (rx_le_s (rx_le_n rx_le_0)))))
    · replace h := rx_if_f c55 h
      refine ev_aload_n (i := 0) 39 dX11_tellCouple_38 rfl rfl rfl ?_
      refine ev_get (v := .ref 106) 42 dX11_tellCouple_39 dk_94 fl_11_52 (by decide) rfl rfl rfl ?_
      refine ev_bipush (v := 6) 44 dX11_tellCouple_42 (by decide) rfl ?_
      refine ev_aload_n (i := 0) 45 dX11_tellCouple_44 rfl rfl rfl ?_
      refine ev_get (v := .int (S5.1 94 19)) 48 dX11_tellCouple_45 dk_94 fl_11_236 (by decide) rfl rfl rfl ?_
      refine ev_imul 49 dX11_tellCouple_48 rfl ?_
      refine ev_iload_n (i := 3) 50 dX11_tellCouple_49 rfl rfl rfl ?_
      refine ev_iadd 51 dX11_tellCouple_50 rfl ?_
      obtain ⟨g56, h⟩ := rx_gd_o h
      refine ex_iald _ 52 dX11_tellCouple_51 dk_106 g56 rfl rfl ?_
      refine ev_if_lt 61 55 dX11_tellCouple_52 rfl rfl (fun c57 => ?_) (fun c57 => ?_)
      · replace h := rx_if_t c57 h
        exact (hJ61_1 _ _ _ h).fewer (rx_le_s (rx_le_s (rx_le_n (rx_le_s (rx_le_n rx_le_0)))))
      · replace h := rx_if_f c57 h
        refine ev_aload_n (i := 0) 56 dX11_tellCouple_55 rfl rfl rfl ?_
        refine ev_iconst (v := 3) 57 dX11_tellCouple_56 (by decide) rfl ?_
        refine ev_iload_n (i := 2) 58 dX11_tellCouple_57 rfl rfl rfl ?_
        obtain ⟨x59, S58, g60, h⟩ := rx_bd_o h
        refine ev_cVv2 61 dX11_tellCouple_58 (em_X11_wrong g60) mm_X11_wrong mv_X11_wrong lk_11_280 dk_94 (by decide) rfl (Nat.le_of_ble_eq_true rfl) (Nat.le_of_ble_eq_true rfl) rfl ?_
        exact (hJ61_1 _ _ _ h).fewer (rx_le_s (rx_le_s (rx_le_n (rx_le_s (rx_le_n rx_le_0)))))

def f_X11_tellSpouse (N : Nat) (S0 : rx_S) : Option (Unit × rx_S) := rx_gd (S0.1 94 19) 2 (rx_let (((6 : Int32) * (S0.1 94 19)) + (S0.1 104 (Int32.toNatClampNeg (S0.1 94 19)))) (fun x3 => rx_bd (f_X11_named N S0) (fun x5 S4 => rx_bd (f_X11_bounded 0 99 S4) (fun x8 S7 => rx_gd x3 12 (rx_let (rx_ui S7 105 (Int32.toNatClampNeg x3) x8) (fun S11 => rx_gd x3 12 (rx_let (rx_ui S11 106 (Int32.toNatClampNeg x3) (-2)) (fun S13 => rx_gd (S13.1 94 19) 2 (rx_bd (f_X11_ends x5 (S13.1 104 (Int32.toNatClampNeg (S13.1 94 19))) S13) (fun x16 S15 => if (S15.1 94 13) = 0 then (rx_gd (S15.1 94 19) 2 (rx_gd (S15.1 94 19) 2 (rx_let (rx_ui S15 104 (Int32.toNatClampNeg (S15.1 94 19)) ((S15.1 104 (Int32.toNatClampNeg (S15.1 94 19))) + 1)) (fun S21 => some ((), S21))))) else (some ((), S15))))))))))))
set_option maxHeartbeats 4000000 in
set_option maxRecDepth 20000 in
theorem em_X11_tellSpouse {d N : Nat} {S0 : rx_S} {zr : Unit} {zS : rx_S} (h : f_X11_tellSpouse N S0 = some (zr, zS)) : EM gM (d + 4) mX11_tellSpouse [.ref 94] S0 (rx_pv zS) := by
  unfold f_X11_tellSpouse at h
  show EV gM (d + 4) mX11_tellSpouse 0 [some (.ref 94), none, none] [] S0 (rx_pv zS)
  refine ev_bipush (v := 6) 2 dX11_tellSpouse_0 (by decide) rfl ?_
  refine ev_aload_n (i := 0) 3 dX11_tellSpouse_2 rfl rfl rfl ?_
  refine ev_get (v := .int (S0.1 94 19)) 6 dX11_tellSpouse_3 dk_94 fl_11_236 (by decide) rfl rfl rfl ?_
  refine ev_imul 7 dX11_tellSpouse_6 rfl ?_
  refine ev_aload_n (i := 0) 8 dX11_tellSpouse_7 rfl rfl rfl ?_
  refine ev_get (v := .ref 104) 11 dX11_tellSpouse_8 dk_94 fl_11_46 (by decide) rfl rfl rfl ?_
  refine ev_aload_n (i := 0) 12 dX11_tellSpouse_11 rfl rfl rfl ?_
  refine ev_get (v := .int (S0.1 94 19)) 15 dX11_tellSpouse_12 dk_94 fl_11_236 (by decide) rfl rfl rfl ?_
  obtain ⟨g2, h⟩ := rx_gd_o h
  refine ex_iald _ 16 dX11_tellSpouse_15 dk_104 g2 rfl rfl ?_
  refine ev_iadd 17 dX11_tellSpouse_16 rfl ?_
  obtain ⟨x3, ex3, h⟩ := rx_let_o h
  refine ev_nm ex3 ?_
  refine ev_istore_n (ls' := [some (.ref 94), some (.int x3), none]) 18 dX11_tellSpouse_17 rfl (Nat.le_of_ble_eq_true rfl) rfl rfl ?_
  refine ev_aload_n (i := 0) 19 dX11_tellSpouse_18 rfl rfl rfl ?_
  obtain ⟨x5, S4, g6, h⟩ := rx_bd_o h
  refine ev_cVi0 22 dX11_tellSpouse_19 (em_X11_named g6) mm_X11_named mv_X11_named lk_11_283 dk_94 (by decide) rfl (Nat.le_of_ble_eq_true rfl) (Nat.le_of_ble_eq_true rfl) rfl ?_
  refine ev_istore_n (ls' := [some (.ref 94), some (.int x3), some (.int x5)]) 23 dX11_tellSpouse_22 rfl (Nat.le_of_ble_eq_true rfl) rfl rfl ?_
  refine ev_aload_n (i := 0) 24 dX11_tellSpouse_23 rfl rfl rfl ?_
  refine ev_get (v := .ref 105) 27 dX11_tellSpouse_24 dk_94 fl_11_49 (by decide) rfl rfl rfl ?_
  refine ev_iload_n (i := 1) 28 dX11_tellSpouse_27 rfl rfl rfl ?_
  refine ev_aload_n (i := 0) 29 dX11_tellSpouse_28 rfl rfl rfl ?_
  refine ev_iconst (v := 0) 30 dX11_tellSpouse_29 (by decide) rfl ?_
  refine ev_bipush (v := 99) 32 dX11_tellSpouse_30 (by decide) rfl ?_
  obtain ⟨x8, S7, g9, h⟩ := rx_bd_o h
  refine ev_cVi2 35 dX11_tellSpouse_32 (em_X11_bounded g9) mm_X11_bounded mv_X11_bounded lk_11_270 dk_94 (by decide) rfl (Nat.le_of_ble_eq_true rfl) (Nat.le_of_ble_eq_true rfl) rfl ?_
  obtain ⟨g10, h⟩ := rx_gd_o h
  obtain ⟨S11, eS11, h⟩ := rx_let_o h
  refine ex_iast _ 36 dX11_tellSpouse_35 dk_105 g10 rfl rfl eS11 ?_
  refine ev_aload_n (i := 0) 37 dX11_tellSpouse_36 rfl rfl rfl ?_
  refine ev_get (v := .ref 106) 40 dX11_tellSpouse_37 dk_94 fl_11_52 (by decide) rfl rfl rfl ?_
  refine ev_iload_n (i := 1) 41 dX11_tellSpouse_40 rfl rfl rfl ?_
  refine ev_bipush (v := (-2)) 43 dX11_tellSpouse_41 (by decide) rfl ?_
  obtain ⟨g12, h⟩ := rx_gd_o h
  obtain ⟨S13, eS13, h⟩ := rx_let_o h
  refine ex_iast _ 44 dX11_tellSpouse_43 dk_106 g12 rfl rfl eS13 ?_
  refine ev_aload_n (i := 0) 45 dX11_tellSpouse_44 rfl rfl rfl ?_
  refine ev_iload_n (i := 2) 46 dX11_tellSpouse_45 rfl rfl rfl ?_
  refine ev_aload_n (i := 0) 47 dX11_tellSpouse_46 rfl rfl rfl ?_
  refine ev_get (v := .ref 104) 50 dX11_tellSpouse_47 dk_94 fl_11_46 (by decide) rfl rfl rfl ?_
  refine ev_aload_n (i := 0) 51 dX11_tellSpouse_50 rfl rfl rfl ?_
  refine ev_get (v := .int (S13.1 94 19)) 54 dX11_tellSpouse_51 dk_94 fl_11_236 (by decide) rfl rfl rfl ?_
  obtain ⟨g14, h⟩ := rx_gd_o h
  refine ex_iald _ 55 dX11_tellSpouse_54 dk_104 g14 rfl rfl ?_
  obtain ⟨x16, S15, g17, h⟩ := rx_bd_o h
  refine ev_cVv2 58 dX11_tellSpouse_55 (em_X11_ends g17) mm_X11_ends mv_X11_ends lk_11_287 dk_94 (by decide) rfl (Nat.le_of_ble_eq_true rfl) (Nat.le_of_ble_eq_true rfl) rfl ?_
  refine ev_aload_n (i := 0) 59 dX11_tellSpouse_58 rfl rfl rfl ?_
  refine ev_get (v := .int (S15.1 94 13)) 62 dX11_tellSpouse_59 dk_94 fl_11_203 (by decide) rfl rfl rfl ?_
  refine ev_if_ne 78 65 dX11_tellSpouse_62 rfl rfl (fun c18 => ?_) (fun c18 => ?_)
  · replace h := rx_if_f c18 h
    exact ev_return dX11_tellSpouse_78 rfl (rx_ret_v h)
  · replace h := rx_if_t c18 h
    refine ev_aload_n (i := 0) 66 dX11_tellSpouse_65 rfl rfl rfl ?_
    refine ev_get (v := .ref 104) 69 dX11_tellSpouse_66 dk_94 fl_11_46 (by decide) rfl rfl rfl ?_
    refine ev_aload_n (i := 0) 70 dX11_tellSpouse_69 rfl rfl rfl ?_
    refine ev_get (v := .int (S15.1 94 19)) 73 dX11_tellSpouse_70 dk_94 fl_11_236 (by decide) rfl rfl rfl ?_
    refine ev_dup2 74 dX11_tellSpouse_73 rfl rfl rfl ?_
    obtain ⟨g19, h⟩ := rx_gd_o h
    refine ex_iald _ 75 dX11_tellSpouse_74 dk_104 g19 rfl rfl ?_
    refine ev_iconst (v := 1) 76 dX11_tellSpouse_75 (by decide) rfl ?_
    refine ev_iadd 77 dX11_tellSpouse_76 rfl ?_
    obtain ⟨g20, h⟩ := rx_gd_o h
    obtain ⟨S21, eS21, h⟩ := rx_let_o h
    refine ex_iast _ 78 dX11_tellSpouse_77 dk_104 g20 rfl rfl eS21 ?_
    exact ev_return dX11_tellSpouse_78 rfl (rx_ret_v h)

