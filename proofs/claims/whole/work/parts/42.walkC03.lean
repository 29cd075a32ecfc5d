def f_X7_speak (k : Nat) (N : Nat) (x2 : Int32) (x3 : Int32) (x4 : Int32) (S0 : rx_S) : Option (Unit × rx_S) := rx_bd (f_X7_speakerOf k x2 S0) (fun x7 S6 => rx_bd (f_X7_hearerOf k x2 S6) (fun x10 S9 => rx_bd (f_X7_rowOf k N x7 S9) (fun x13 S12 => rx_let ((((256 : Int32) * (S12.1 k 0)) + ((64 : Int32) * x3)) + ((8 : Int32) * x2)) (fun x15 => rx_bd (f_X7_dropsOf k N x3 S12) (fun x17 S16 => rx_bd (f_X7_carriedRow k N x3 x13 x17 x4 x15 S16) (fun x20 S19 => rx_bd (f_X7_newLove k N x2 x7 x3 S19) (fun x23 S22 => rx_bd (f_X5_size N x13 S22) (fun x26 S25 => rx_bd (f_X5_size N x20 S25) (fun x29 S28 => rx_bd (f_X7_moodBehind k N x10 x20 S28) (fun x32 S31 => rx_gd ((4 : Int32) + x10) 48 (rx_let (rx_ui S31 k (Int32.toNatClampNeg ((4 : Int32) + x10)) x32) (fun S35 => rx_gd ((10 : Int32) + x10) 48 (rx_gd ((10 : Int32) + x10) 48 (rx_let (rx_ui S35 k (Int32.toNatClampNeg ((10 : Int32) + x10)) ((S35.1 k (Int32.toNatClampNeg ((10 : Int32) + x10))) + x29)) (fun S38 => rx_let (rx_ui S38 k 2 ((S38.1 k 2) + x29)) (fun S39 => rx_let (rx_ui S39 k 1 ((S39.1 k 1) + x26)) (fun S40 => rx_gd ((22 : Int32) + x2) 48 (rx_gd x3 4 (rx_gd ((22 : Int32) + x2) 48 (rx_let (rx_ui S40 k (Int32.toNatClampNeg ((22 : Int32) + x2)) ((S40.1 k (Int32.toNatClampNeg ((22 : Int32) + x2))) + (x26 * (S40.1 11 (Int32.toNatClampNeg x3))))) (fun S44 => rx_gd ((40 : Int32) + x3) 48 (rx_gd x3 4 (rx_gd ((40 : Int32) + x3) 48 (rx_let (rx_ui S44 k (Int32.toNatClampNeg ((40 : Int32) + x3)) ((S44.1 k (Int32.toNatClampNeg ((40 : Int32) + x3))) + (x26 * (S44.1 11 (Int32.toNatClampNeg x3))))) (fun S48 => rx_gd ((28 : Int32) + x3) 48 (rx_gd ((28 : Int32) + x3) 48 (rx_let (rx_ui S48 k (Int32.toNatClampNeg ((28 : Int32) + x3)) (if ((S48.1 k (Int32.toNatClampNeg ((28 : Int32) + x3))) + x26) < 99 then ((S48.1 k (Int32.toNatClampNeg ((28 : Int32) + x3))) + x26) else 99)) (fun S51 => rx_gd ((32 : Int32) + x3) 48 (rx_gd ((32 : Int32) + x3) 48 (rx_let (rx_ui S51 k (Int32.toNatClampNeg ((32 : Int32) + x3)) (if ((S51.1 k (Int32.toNatClampNeg ((32 : Int32) + x3))) + x23) < 99 then ((S51.1 k (Int32.toNatClampNeg ((32 : Int32) + x3))) + x23) else 99)) (fun S54 => rx_gd ((36 : Int32) + x3) 48 (if (S54.1 k (Int32.toNatClampNeg ((36 : Int32) + x3))) = 0 then (some ((), S54)) else (if x20 = x13 then (some ((), S54)) else (rx_gd ((40 : Int32) + x3) 48 (rx_gd ((40 : Int32) + x3) 48 (rx_let (rx_ui S54 k (Int32.toNatClampNeg ((40 : Int32) + x3)) ((S54.1 k (Int32.toNatClampNeg ((40 : Int32) + x3))) - (S54.1 2 9))) (fun S60 => rx_gd ((44 : Int32) + x3) 48 (rx_gd ((44 : Int32) + x3) 48 (rx_let (rx_ui S60 k (Int32.toNatClampNeg ((44 : Int32) + x3)) ((S60.1 k (Int32.toNatClampNeg ((44 : Int32) + x3))) + 1)) (fun S63 => rx_let (rx_ui S63 k 3 ((S63.1 k 3) + 1)) (fun S64 => some ((), S64))))))))))))))))))))))))))))))))))))))))))
set_option maxHeartbeats 4000000 in
set_option maxRecDepth 20000 in
theorem em_X7_speak_32 {d N : Nat} {x2 : Int32} {x3 : Int32} {x4 : Int32} {S0 : rx_S} {zr : Unit} {zS : rx_S} (h : f_X7_speak 32 N x2 x3 x4 S0 = some (zr, zS)) : EM gC (d + 4) mX7_speak [.ref 80, .ref 32, .int x2, .int x3, .int x4] S0 (rx_pv zS) := by
  unfold f_X7_speak at h
  show EV gC (d + 4) mX7_speak 0 [some (.ref 80), some (.ref 32), some (.int x2), some (.int x3), some (.int x4), none, none, none, none, none, none, none, none] [] S0 (rx_pv zS)
  refine ev_aload_n (i := 0) 1 dX7_speak_0 rfl rfl rfl ?_
  refine ev_aload_n (i := 1) 2 dX7_speak_1 rfl rfl rfl ?_
  refine ev_iload_n (i := 2) 3 dX7_speak_2 rfl rfl rfl ?_
  obtain ⟨x7, S6, g8, h⟩ := rx_bd_o h
  refine ev_cVi2 6 dX7_speak_3 (em_X7_speakerOf_32 g8) mm_X7_speakerOf mv_X7_speakerOf lk_7_109 dk_80 (by decide) rfl (Nat.le_of_ble_eq_true rfl) (Nat.le_of_ble_eq_true rfl) rfl ?_
  refine ev_istore (ls' := [some (.ref 80), some (.ref 32), some (.int x2), some (.int x3), some (.int x4), some (.int x7), none, none, none, none, none, none, none]) 8 dX7_speak_6 (Nat.le_of_ble_eq_true rfl) rfl rfl ?_
  refine ev_aload_n (i := 0) 9 dX7_speak_8 rfl rfl rfl ?_
  refine ev_aload_n (i := 1) 10 dX7_speak_9 rfl rfl rfl ?_
  refine ev_iload_n (i := 2) 11 dX7_speak_10 rfl rfl rfl ?_
  obtain ⟨x10, S9, g11, h⟩ := rx_bd_o h
  refine ev_cVi2 14 dX7_speak_11 (em_X7_hearerOf_32 g11) mm_X7_hearerOf mv_X7_hearerOf lk_7_113 dk_80 (by decide) rfl (Nat.le_of_ble_eq_true rfl) (Nat.le_of_ble_eq_true rfl) rfl ?_
  refine ev_istore (ls' := [some (.ref 80), some (.ref 32), some (.int x2), some (.int x3), some (.int x4), some (.int x7), some (.int x10), none, none, none, none, none, none]) 16 dX7_speak_14 (Nat.le_of_ble_eq_true rfl) rfl rfl ?_
  refine ev_aload_n (i := 0) 17 dX7_speak_16 rfl rfl rfl ?_
  refine ev_aload_n (i := 1) 18 dX7_speak_17 rfl rfl rfl ?_
  refine ev_iload 20 dX7_speak_18 rfl rfl ?_
  obtain ⟨x13, S12, g14, h⟩ := rx_bd_o h
  refine ev_cVi2 23 dX7_speak_20 (em_X7_rowOf_32 g14) mm_X7_rowOf mv_X7_rowOf lk_7_116 dk_80 (by decide) rfl (Nat.le_of_ble_eq_true rfl) (Nat.le_of_ble_eq_true rfl) rfl ?_
  refine ev_istore (ls' := [some (.ref 80), some (.ref 32), some (.int x2), some (.int x3), some (.int x4), some (.int x7), some (.int x10), some (.int x13), none, none, none, none, none]) 25 dX7_speak_23 (Nat.le_of_ble_eq_true rfl) rfl rfl ?_
  refine ev_sipush (v := 256) 28 dX7_speak_25 (by decide) rfl ?_
  refine ev_aload_n (i := 1) 29 dX7_speak_28 rfl rfl rfl ?_
  refine ev_iconst (v := 0) 30 dX7_speak_29 (by decide) rfl ?_
  refine ex_iald 0 31 dX7_speak_30 dk_32 (rx_vin (by decide)) (by decide) rfl ?_
  refine ev_imul 32 dX7_speak_31 rfl ?_
  refine ev_bipush (v := 64) 34 dX7_speak_32 (by decide) rfl ?_
  refine ev_iload_n (i := 3) 35 dX7_speak_34 rfl rfl rfl ?_
  refine ev_imul 36 dX7_speak_35 rfl ?_
  refine ev_iadd 37 dX7_speak_36 rfl ?_
  refine ev_bipush (v := 8) 39 dX7_speak_37 (by decide) rfl ?_
  refine ev_iload_n (i := 2) 40 dX7_speak_39 rfl rfl rfl ?_
  refine ev_imul 41 dX7_speak_40 rfl ?_
  refine ev_iadd 42 dX7_speak_41 rfl ?_
  obtain ⟨x15, ex15, h⟩ := rx_let_o h
  refine ev_nm ex15 ?_
  refine ev_istore (ls' := [some (.ref 80), some (.ref 32), some (.int x2), some (.int x3), some (.int x4), some (.int x7), some (.int x10), some (.int x13), some (.int x15), none, none, none, none]) 44 dX7_speak_42 (Nat.le_of_ble_eq_true rfl) rfl rfl ?_
  refine ev_aload_n (i := 0) 45 dX7_speak_44 rfl rfl rfl ?_
  refine ev_aload_n (i := 1) 46 dX7_speak_45 rfl rfl rfl ?_
  refine ev_iload_n (i := 3) 47 dX7_speak_46 rfl rfl rfl ?_
  refine ev_iload 49 dX7_speak_47 rfl rfl ?_
  refine ev_aload_n (i := 0) 50 dX7_speak_49 rfl rfl rfl ?_
  refine ev_aload_n (i := 1) 51 dX7_speak_50 rfl rfl rfl ?_
  refine ev_iload_n (i := 3) 52 dX7_speak_51 rfl rfl rfl ?_
  obtain ⟨x17, S16, g18, h⟩ := rx_bd_o h
  refine ev_cVi2 55 dX7_speak_52 (em_X7_dropsOf_32 g18) mm_X7_dropsOf mv_X7_dropsOf lk_7_119 dk_80 (by decide) rfl (Nat.le_of_ble_eq_true rfl) (Nat.le_of_ble_eq_true rfl) rfl ?_
  refine ev_iload 57 dX7_speak_55 rfl rfl ?_
  refine ev_iload 59 dX7_speak_57 rfl rfl ?_
  obtain ⟨x20, S19, g21, h⟩ := rx_bd_o h
  refine ev_cVi6 62 dX7_speak_59 (em_X7_carriedRow_32 g21) mm_X7_carriedRow mv_X7_carriedRow lk_7_67 dk_80 (by decide) rfl (Nat.le_of_ble_eq_true rfl) (Nat.le_of_ble_eq_true rfl) rfl ?_
  refine ev_istore (ls' := [some (.ref 80), some (.ref 32), some (.int x2), some (.int x3), some (.int x4), some (.int x7), some (.int x10), some (.int x13), some (.int x15), some (.int x20), none, none, none]) 64 dX7_speak_62 (Nat.le_of_ble_eq_true rfl) rfl rfl ?_
  refine ev_aload_n (i := 0) 65 dX7_speak_64 rfl rfl rfl ?_
  refine ev_aload_n (i := 1) 66 dX7_speak_65 rfl rfl rfl ?_
  refine ev_iload_n (i := 2) 67 dX7_speak_66 rfl rfl rfl ?_
  refine ev_iload 69 dX7_speak_67 rfl rfl ?_
  refine ev_iload_n (i := 3) 70 dX7_speak_69 rfl rfl rfl ?_
  obtain ⟨x23, S22, g24, h⟩ := rx_bd_o h
  refine ev_cVi4 73 dX7_speak_70 (em_X7_newLove_32 g24) mm_X7_newLove mv_X7_newLove lk_7_122 dk_80 (by decide) rfl (Nat.le_of_ble_eq_true rfl) (Nat.le_of_ble_eq_true rfl) rfl ?_
  refine ev_istore (ls' := [some (.ref 80), some (.ref 32), some (.int x2), some (.int x3), some (.int x4), some (.int x7), some (.int x10), some (.int x13), some (.int x15), some (.int x20), some (.int x23), none, none]) 75 dX7_speak_73 (Nat.le_of_ble_eq_true rfl) rfl rfl ?_
  refine ev_iload 77 dX7_speak_75 rfl rfl ?_
  obtain ⟨x26, S25, g27, h⟩ := rx_bd_o h
  refine ev_cSi1 80 dX7_speak_77 (em_X5_size g27) mm_X5_size ms_X5_size lk_7_71 (Nat.le_of_ble_eq_true rfl) (Nat.le_of_ble_eq_true rfl) rfl ?_
  refine ev_istore (ls' := [some (.ref 80), some (.ref 32), some (.int x2), some (.int x3), some (.int x4), some (.int x7), some (.int x10), some (.int x13), some (.int x15), some (.int x20), some (.int x23), some (.int x26), none]) 82 dX7_speak_80 (Nat.le_of_ble_eq_true rfl) rfl rfl ?_
  refine ev_iload 84 dX7_speak_82 rfl rfl ?_
  obtain ⟨x29, S28, g30, h⟩ := rx_bd_o h
  refine ev_cSi1 87 dX7_speak_84 (em_X5_size g30) mm_X5_size ms_X5_size lk_7_71 (Nat.le_of_ble_eq_true rfl) (Nat.le_of_ble_eq_true rfl) rfl ?_
  refine ev_istore (ls' := [some (.ref 80), some (.ref 32), some (.int x2), some (.int x3), some (.int x4), some (.int x7), some (.int x10), some (.int x13), some (.int x15), some (.int x20), some (.int x23), some (.int x26), some (.int x29)]) 89 dX7_speak_87 (Nat.le_of_ble_eq_true rfl) rfl rfl ?_
  refine ev_aload_n (i := 1) 90 dX7_speak_89 rfl rfl rfl ?_
  refine ev_iconst (v := 4) 91 dX7_speak_90 (by decide) rfl ?_
  refine ev_iload 93 dX7_speak_91 rfl rfl ?_
  refine ev_iadd 94 dX7_speak_93 rfl ?_
  refine ev_aload_n (i := 0) 95 dX7_speak_94 rfl rfl rfl ?_
  refine ev_aload_n (i := 1) 96 dX7_speak_95 rfl rfl rfl ?_
  refine ev_iload 98 dX7_speak_96 rfl rfl ?_
  refine ev_iload 100 dX7_speak_98 rfl rfl ?_
  obtain ⟨x32, S31, g33, h⟩ := rx_bd_o h
  refine ev_cVi3 103 dX7_speak_100 (em_X7_moodBehind_32 g33) mm_X7_moodBehind mv_X7_moodBehind lk_7_126 dk_80 (by decide) rfl (Nat.le_of_ble_eq_true rfl) (Nat.le_of_ble_eq_true rfl) rfl ?_
  obtain ⟨g34, h⟩ := rx_gd_o h
  obtain ⟨S35, eS35, h⟩ := rx_let_o h
  refine ex_iast _ 104 dX7_speak_103 dk_32 g34 rfl rfl eS35 ?_
  refine ev_aload_n (i := 1) 105 dX7_speak_104 rfl rfl rfl ?_
  refine ev_bipush (v := 10) 107 dX7_speak_105 (by decide) rfl ?_
  refine ev_iload 109 dX7_speak_107 rfl rfl ?_
  refine ev_iadd 110 dX7_speak_109 rfl ?_
  refine ev_dup2 111 dX7_speak_110 rfl rfl rfl ?_
  obtain ⟨g36, h⟩ := rx_gd_o h
  refine ex_iald _ 112 dX7_speak_111 dk_32 g36 rfl rfl ?_
  refine ev_iload 114 dX7_speak_112 rfl rfl ?_
  refine ev_iadd 115 dX7_speak_114 rfl ?_
  obtain ⟨g37, h⟩ := rx_gd_o h
  obtain ⟨S38, eS38, h⟩ := rx_let_o h
  refine ex_iast _ 116 dX7_speak_115 dk_32 g37 rfl rfl eS38 ?_
  refine ev_aload_n (i := 1) 117 dX7_speak_116 rfl rfl rfl ?_
  refine ev_iconst (v := 2) 118 dX7_speak_117 (by decide) rfl ?_
  refine ev_dup2 119 dX7_speak_118 rfl rfl rfl ?_
  refine ex_iald 2 120 dX7_speak_119 dk_32 (rx_vin (by decide)) (by decide) rfl ?_
  refine ev_iload 122 dX7_speak_120 rfl rfl ?_
  refine ev_iadd 123 dX7_speak_122 rfl ?_
  obtain ⟨S39, eS39, h⟩ := rx_let_o h
  refine ex_iast 2 124 dX7_speak_123 dk_32 (rx_vin (by decide)) (by decide) rfl eS39 ?_
  refine ev_aload_n (i := 1) 125 dX7_speak_124 rfl rfl rfl ?_
  refine ev_iconst (v := 1) 126 dX7_speak_125 (by decide) rfl ?_
  refine ev_dup2 127 dX7_speak_126 rfl rfl rfl ?_
  refine ex_iald 1 128 dX7_speak_127 dk_32 (rx_vin (by decide)) (by decide) rfl ?_
  refine ev_iload 130 dX7_speak_128 rfl rfl ?_
  refine ev_iadd 131 dX7_speak_130 rfl ?_
  obtain ⟨S40, eS40, h⟩ := rx_let_o h
  refine ex_iast 1 132 dX7_speak_131 dk_32 (rx_vin (by decide)) (by decide) rfl eS40 ?_
  refine ev_aload_n (i := 1) 133 dX7_speak_132 rfl rfl rfl ?_
  refine ev_bipush (v := 22) 135 dX7_speak_133 (by decide) rfl ?_
  refine ev_iload_n (i := 2) 136 dX7_speak_135 rfl rfl rfl ?_
  refine ev_iadd 137 dX7_speak_136 rfl ?_
  refine ev_dup2 138 dX7_speak_137 rfl rfl rfl ?_
  obtain ⟨g41, h⟩ := rx_gd_o h
  refine ex_iald _ 139 dX7_speak_138 dk_32 g41 rfl rfl ?_
  refine ev_iload 141 dX7_speak_139 rfl rfl ?_
  refine ev_aload_n (i := 0) 142 dX7_speak_141 rfl rfl rfl ?_
  refine ev_get (v := .ref 2) 145 dX7_speak_142 dk_80 fl_7_9 (by decide) rfl rfl rfl ?_
  refine ev_get (v := .ref 11) 148 dX7_speak_145 dk_2 fl_7_53 (by decide) rfl rfl rfl ?_
  refine ev_iload_n (i := 3) 149 dX7_speak_148 rfl rfl rfl ?_
  obtain ⟨g42, h⟩ := rx_gd_o h
  refine ex_iald _ 150 dX7_speak_149 dk_11 g42 rfl rfl ?_
  refine ev_imul 151 dX7_speak_150 rfl ?_
  refine ev_iadd 152 dX7_speak_151 rfl ?_
  obtain ⟨g43, h⟩ := rx_gd_o h
  obtain ⟨S44, eS44, h⟩ := rx_let_o h
  refine ex_iast _ 153 dX7_speak_152 dk_32 g43 rfl rfl eS44 ?_
  refine ev_aload_n (i := 1) 154 dX7_speak_153 rfl rfl rfl ?_
  refine ev_bipush (v := 40) 156 dX7_speak_154 (by decide) rfl ?_
  refine ev_iload_n (i := 3) 157 dX7_speak_156 rfl rfl rfl ?_
  refine ev_iadd 158 dX7_speak_157 rfl ?_
  refine ev_dup2 159 dX7_speak_158 rfl rfl rfl ?_
  obtain ⟨g45, h⟩ := rx_gd_o h
  refine ex_iald _ 160 dX7_speak_159 dk_32 g45 rfl rfl ?_
  refine ev_iload 162 dX7_speak_160 rfl rfl ?_
  refine ev_aload_n (i := 0) 163 dX7_speak_162 rfl rfl rfl ?_
  refine ev_get (v := .ref 2) 166 dX7_speak_163 dk_80 fl_7_9 (by decide) rfl rfl rfl ?_
  refine ev_get (v := .ref 11) 169 dX7_speak_166 dk_2 fl_7_53 (by decide) rfl rfl rfl ?_
  refine ev_iload_n (i := 3) 170 dX7_speak_169 rfl rfl rfl ?_
  obtain ⟨g46, h⟩ := rx_gd_o h
  refine ex_iald _ 171 dX7_speak_170 dk_11 g46 rfl rfl ?_
  refine ev_imul 172 dX7_speak_171 rfl ?_
  refine ev_iadd 173 dX7_speak_172 rfl ?_
  obtain ⟨g47, h⟩ := rx_gd_o h
  obtain ⟨S48, eS48, h⟩ := rx_let_o h
  refine ex_iast _ 174 dX7_speak_173 dk_32 g47 rfl rfl eS48 ?_
  refine ev_aload_n (i := 1) 175 dX7_speak_174 rfl rfl rfl ?_
  refine ev_bipush (v := 28) 177 dX7_speak_175 (by decide) rfl ?_
  refine ev_iload_n (i := 3) 178 dX7_speak_177 rfl rfl rfl ?_
  refine ev_iadd 179 dX7_speak_178 rfl ?_
  refine ev_bipush (v := 99) 181 dX7_speak_179 (by decide) rfl ?_
  refine ev_aload_n (i := 1) 182 dX7_speak_181 rfl rfl rfl ?_
  refine ev_bipush (v := 28) 184 dX7_speak_182 (by decide) rfl ?_
  refine ev_iload_n (i := 3) 185 dX7_speak_184 rfl rfl rfl ?_
  refine ev_iadd 186 dX7_speak_185 rfl ?_
  obtain ⟨g49, h⟩ := rx_gd_o h
  refine ex_iald _ 187 dX7_speak_186 dk_32 g49 rfl rfl ?_
  refine ev_iload 189 dX7_speak_187 rfl rfl ?_
  refine ev_iadd 190 dX7_speak_189 rfl ?_
  refine ev_min 193 dX7_speak_190 lk_7_130 w_min (Nat.le_of_ble_eq_true rfl) rfl ?_
  obtain ⟨g50, h⟩ := rx_gd_o h
  obtain ⟨S51, eS51, h⟩ := rx_let_o h
  refine ex_iast _ 194 dX7_speak_193 dk_32 g50 rfl rfl eS51 ?_
  refine ev_aload_n (i := 1) 195 dX7_speak_194 rfl rfl rfl ?_
  refine ev_bipush (v := 32) 197 dX7_speak_195 (by decide) rfl ?_
  refine ev_iload_n (i := 3) 198 dX7_speak_197 rfl rfl rfl ?_
  refine ev_iadd 199 dX7_speak_198 rfl ?_
  refine ev_bipush (v := 99) 201 dX7_speak_199 (by decide) rfl ?_
  refine ev_aload_n (i := 1) 202 dX7_speak_201 rfl rfl rfl ?_
  refine ev_bipush (v := 32) 204 dX7_speak_202 (by decide) rfl ?_
  refine ev_iload_n (i := 3) 205 dX7_speak_204 rfl rfl rfl ?_
  refine ev_iadd 206 dX7_speak_205 rfl ?_
  obtain ⟨g52, h⟩ := rx_gd_o h
  refine ex_iald _ 207 dX7_speak_206 dk_32 g52 rfl rfl ?_
  refine ev_iload 209 dX7_speak_207 rfl rfl ?_
  refine ev_iadd 210 dX7_speak_209 rfl ?_
  refine ev_min 213 dX7_speak_210 lk_7_130 w_min (Nat.le_of_ble_eq_true rfl) rfl ?_
  obtain ⟨g53, h⟩ := rx_gd_o h
  obtain ⟨S54, eS54, h⟩ := rx_let_o h
  refine ex_iast _ 214 dX7_speak_213 dk_32 g53 rfl rfl eS54 ?_
  refine ev_aload_n (i := 1) 215 dX7_speak_214 rfl rfl rfl ?_
  refine ev_bipush (v := 36) 217 dX7_speak_215 (by decide) rfl ?_
  refine ev_iload_n (i := 3) 218 dX7_speak_217 rfl rfl rfl ?_
  refine ev_iadd 219 dX7_speak_218 rfl ?_
  obtain ⟨g55, h⟩ := rx_gd_o h
  refine ex_iald _ 220 dX7_speak_219 dk_32 g55 rfl rfl ?_
  refine ev_if_eq 263 223 dX7_speak_220 rfl rfl (fun c56 => ?_) (fun c56 => ?_)
  · replace h := rx_if_t c56 h
    exact ev_return dX7_speak_263 rfl (rx_ret_v h)
  · replace h := rx_if_f c56 h
    refine ev_iload 225 dX7_speak_223 rfl rfl ?_
    refine ev_iload 227 dX7_speak_225 rfl rfl ?_
    refine ev_icmp_eq 263 230 dX7_speak_227 rfl rfl (fun c57 => ?_) (fun c57 => ?_)
    · replace h := rx_if_t c57 h
      exact ev_return dX7_speak_263 rfl (rx_ret_v h)
    · replace h := rx_if_f c57 h
      refine ev_aload_n (i := 1) 231 dX7_speak_230 rfl rfl rfl ?_
      refine ev_bipush (v := 40) 233 dX7_speak_231 (by decide) rfl ?_
      refine ev_iload_n (i := 3) 234 dX7_speak_233 rfl rfl rfl ?_
      refine ev_iadd 235 dX7_speak_234 rfl ?_
      refine ev_dup2 236 dX7_speak_235 rfl rfl rfl ?_
      obtain ⟨g58, h⟩ := rx_gd_o h
      refine ex_iald _ 237 dX7_speak_236 dk_32 g58 rfl rfl ?_
      refine ev_aload_n (i := 0) 238 dX7_speak_237 rfl rfl rfl ?_
      refine ev_get (v := .ref 2) 241 dX7_speak_238 dk_80 fl_7_9 (by decide) rfl rfl rfl ?_
      refine ev_get (v := .int (S54.1 2 9)) 244 dX7_speak_241 dk_2 fl_7_135 (by decide) rfl rfl rfl ?_
      refine ev_isub 245 dX7_speak_244 rfl ?_
      obtain ⟨g59, h⟩ := rx_gd_o h
      obtain ⟨S60, eS60, h⟩ := rx_let_o h
      refine ex_iast _ 246 dX7_speak_245 dk_32 g59 rfl rfl eS60 ?_
      refine ev_aload_n (i := 1) 247 dX7_speak_246 rfl rfl rfl ?_
      refine ev_bipush (v := 44) 249 dX7_speak_247 (by decide) rfl ?_
      refine ev_iload_n (i := 3) 250 dX7_speak_249 rfl rfl rfl ?_
      refine ev_iadd 251 dX7_speak_250 rfl ?_
      refine ev_dup2 252 dX7_speak_251 rfl rfl rfl ?_
      obtain ⟨g61, h⟩ := rx_gd_o h
      refine ex_iald _ 253 dX7_speak_252 dk_32 g61 rfl rfl ?_
      refine ev_iconst (v := 1) 254 dX7_speak_253 (by decide) rfl ?_
      refine ev_iadd 255 dX7_speak_254 rfl ?_
      obtain ⟨g62, h⟩ := rx_gd_o h
      obtain ⟨S63, eS63, h⟩ := rx_let_o h
      refine ex_iast _ 256 dX7_speak_255 dk_32 g62 rfl rfl eS63 ?_
      refine ev_aload_n (i := 1) 257 dX7_speak_256 rfl rfl rfl ?_
      refine ev_iconst (v := 3) 258 dX7_speak_257 (by decide) rfl ?_
      refine ev_dup2 259 dX7_speak_258 rfl rfl rfl ?_
      refine ex_iald 3 260 dX7_speak_259 dk_32 (rx_vin (by decide)) (by decide) rfl ?_
      refine ev_iconst (v := 1) 261 dX7_speak_260 (by decide) rfl ?_
      refine ev_iadd 262 dX7_speak_261 rfl ?_
      obtain ⟨S64, eS64, h⟩ := rx_let_o h
      refine ex_iast 3 263 dX7_speak_262 dk_32 (rx_vin (by decide)) (by decide) rfl eS64 ?_
      exact ev_return dX7_speak_263 rfl (rx_ret_v h)

set_option maxHeartbeats 4000000 in
set_option maxRecDepth 20000 in
theorem em_X7_speak_89 {d N : Nat} {x2 : Int32} {x3 : Int32} {x4 : Int32} {S0 : rx_S} {zr : Unit} {zS : rx_S} (h : f_X7_speak 89 N x2 x3 x4 S0 = some (zr, zS)) : EM gC (d + 4) mX7_speak [.ref 80, .ref 89, .int x2, .int x3, .int x4] S0 (rx_pv zS) := by
  unfold f_X7_speak at h
  show EV gC (d + 4) mX7_speak 0 [some (.ref 80), some (.ref 89), some (.int x2), some (.int x3), some (.int x4), none, none, none, none, none, none, none, none] [] S0 (rx_pv zS)
  refine ev_aload_n (i := 0) 1 dX7_speak_0 rfl rfl rfl ?_
  refine ev_aload_n (i := 1) 2 dX7_speak_1 rfl rfl rfl ?_
  refine ev_iload_n (i := 2) 3 dX7_speak_2 rfl rfl rfl ?_
  obtain ⟨x7, S6, g8, h⟩ := rx_bd_o h
  refine ev_cVi2 6 dX7_speak_3 (em_X7_speakerOf_89 g8) mm_X7_speakerOf mv_X7_speakerOf lk_7_109 dk_80 (by decide) rfl (Nat.le_of_ble_eq_true rfl) (Nat.le_of_ble_eq_true rfl) rfl ?_
  refine ev_istore (ls' := [some (.ref 80), some (.ref 89), some (.int x2), some (.int x3), some (.int x4), some (.int x7), none, none, none, none, none, none, none]) 8 dX7_speak_6 (Nat.le_of_ble_eq_true rfl) rfl rfl ?_
  refine ev_aload_n (i := 0) 9 dX7_speak_8 rfl rfl rfl ?_
  refine ev_aload_n (i := 1) 10 dX7_speak_9 rfl rfl rfl ?_
  refine ev_iload_n (i := 2) 11 dX7_speak_10 rfl rfl rfl ?_
  obtain ⟨x10, S9, g11, h⟩ := rx_bd_o h
  refine ev_cVi2 14 dX7_speak_11 (em_X7_hearerOf_89 g11) mm_X7_hearerOf mv_X7_hearerOf lk_7_113 dk_80 (by decide) rfl (Nat.le_of_ble_eq_true rfl) (Nat.le_of_ble_eq_true rfl) rfl ?_
  refine ev_istore (ls' := [some (.ref 80), some (.ref 89), some (.int x2), some (.int x3), some (.int x4), some (.int x7), some (.int x10), none, none, none, none, none, none]) 16 dX7_speak_14 (Nat.le_of_ble_eq_true rfl) rfl rfl ?_
  refine ev_aload_n (i := 0) 17 dX7_speak_16 rfl rfl rfl ?_
  refine ev_aload_n (i := 1) 18 dX7_speak_17 rfl rfl rfl ?_
  refine ev_iload 20 dX7_speak_18 rfl rfl ?_
  obtain ⟨x13, S12, g14, h⟩ := rx_bd_o h
  refine ev_cVi2 23 dX7_speak_20 (em_X7_rowOf_89 g14) mm_X7_rowOf mv_X7_rowOf lk_7_116 dk_80 (by decide) rfl (Nat.le_of_ble_eq_true rfl) (Nat.le_of_ble_eq_true rfl) rfl ?_
  refine ev_istore (ls' := [some (.ref 80), some (.ref 89), some (.int x2), some (.int x3), some (.int x4), some (.int x7), some (.int x10), some (.int x13), none, none, none, none, none]) 25 dX7_speak_23 (Nat.le_of_ble_eq_true rfl) rfl rfl ?_
  refine ev_sipush (v := 256) 28 dX7_speak_25 (by decide) rfl ?_
  refine ev_aload_n (i := 1) 29 dX7_speak_28 rfl rfl rfl ?_
  refine ev_iconst (v := 0) 30 dX7_speak_29 (by decide) rfl ?_
  refine ex_iald 0 31 dX7_speak_30 dk_89 (rx_vin (by decide)) (by decide) rfl ?_
  refine ev_imul 32 dX7_speak_31 rfl ?_
  refine ev_bipush (v := 64) 34 dX7_speak_32 (by decide) rfl ?_
  refine ev_iload_n (i := 3) 35 dX7_speak_34 rfl rfl rfl ?_
  refine ev_imul 36 dX7_speak_35 rfl ?_
  refine ev_iadd 37 dX7_speak_36 rfl ?_
  refine ev_bipush (v := 8) 39 dX7_speak_37 (by decide) rfl ?_
  refine ev_iload_n (i := 2) 40 dX7_speak_39 rfl rfl rfl ?_
  refine ev_imul 41 dX7_speak_40 rfl ?_
  refine ev_iadd 42 dX7_speak_41 rfl ?_
  obtain ⟨x15, ex15, h⟩ := rx_let_o h
  refine ev_nm ex15 ?_
  refine ev_istore (ls' := [some (.ref 80), some (.ref 89), some (.int x2), some (.int x3), some (.int x4), some (.int x7), some (.int x10), some (.int x13), some (.int x15), none, none, none, none]) 44 dX7_speak_42 (Nat.le_of_ble_eq_true rfl) rfl rfl ?_
  refine ev_aload_n (i := 0) 45 dX7_speak_44 rfl rfl rfl ?_
  refine ev_aload_n (i := 1) 46 dX7_speak_45 rfl rfl rfl ?_
  refine ev_iload_n (i := 3) 47 dX7_speak_46 rfl rfl rfl ?_
  refine ev_iload 49 dX7_speak_47 rfl rfl ?_
  refine ev_aload_n (i := 0) 50 dX7_speak_49 rfl rfl rfl ?_
  refine ev_aload_n (i := 1) 51 dX7_speak_50 rfl rfl rfl ?_
  refine ev_iload_n (i := 3) 52 dX7_speak_51 rfl rfl rfl ?_
  obtain ⟨x17, S16, g18, h⟩ := rx_bd_o h
  refine ev_cVi2 55 dX7_speak_52 (em_X7_dropsOf_89 g18) mm_X7_dropsOf mv_X7_dropsOf lk_7_119 dk_80 (by decide) rfl (Nat.le_of_ble_eq_true rfl) (Nat.le_of_ble_eq_true rfl) rfl ?_
  refine ev_iload 57 dX7_speak_55 rfl rfl ?_
  refine ev_iload 59 dX7_speak_57 rfl rfl ?_
  obtain ⟨x20, S19, g21, h⟩ := rx_bd_o h
  refine ev_cVi6 62 dX7_speak_59 (em_X7_carriedRow_89 g21) mm_X7_carriedRow mv_X7_carriedRow lk_7_67 dk_80 (by decide) rfl (Nat.le_of_ble_eq_true rfl) (Nat.le_of_ble_eq_true rfl) rfl ?_
  refine ev_istore (ls' := [some (.ref 80), some (.ref 89), some (.int x2), some (.int x3), some (.int x4), some (.int x7), some (.int x10), some (.int x13), some (.int x15), some (.int x20), none, none, none]) 64 dX7_speak_62 (Nat.le_of_ble_eq_true rfl) rfl rfl ?_
  refine ev_aload_n (i := 0) 65 dX7_speak_64 rfl rfl rfl ?_
  refine ev_aload_n (i := 1) 66 dX7_speak_65 rfl rfl rfl ?_
  refine ev_iload_n (i := 2) 67 dX7_speak_66 rfl rfl rfl ?_
  refine ev_iload 69 dX7_speak_67 rfl rfl ?_
  refine ev_iload_n (i := 3) 70 dX7_speak_69 rfl rfl rfl ?_
  obtain ⟨x23, S22, g24, h⟩ := rx_bd_o h
  refine ev_cVi4 73 dX7_speak_70 (em_X7_newLove_89 g24) mm_X7_newLove mv_X7_newLove lk_7_122 dk_80 (by decide) rfl (Nat.le_of_ble_eq_true rfl) (Nat.le_of_ble_eq_true rfl) rfl ?_
  refine ev_istore (ls' := [some (.ref 80), some (.ref 89), some (.int x2), some (.int x3), some (.int x4), some (.int x7), some (.int x10), some (.int x13), some (.int x15), some (.int x20), some (.int x23), none, none]) 75 dX7_speak_73 (Nat.le_of_ble_eq_true rfl) rfl rfl ?_
  refine ev_iload 77 dX7_speak_75 rfl rfl ?_
  obtain ⟨x26, S25, g27, h⟩ := rx_bd_o h
  refine ev_cSi1 80 dX7_speak_77 (em_X5_size g27) mm_X5_size ms_X5_size lk_7_71 (Nat.le_of_ble_eq_true rfl) (Nat.le_of_ble_eq_true rfl) rfl ?_
  refine ev_istore (ls' := [some (.ref 80), some (.ref 89), some (.int x2), some (.int x3), some (.int x4), some (.int x7), some (.int x10), some (.int x13), some (.int x15), some (.int x20), some (.int x23), some (.int x26), none]) 82 dX7_speak_80 (Nat.le_of_ble_eq_true rfl) rfl rfl ?_
  refine ev_iload 84 dX7_speak_82 rfl rfl ?_
  obtain ⟨x29, S28, g30, h⟩ := rx_bd_o h
  refine ev_cSi1 87 dX7_speak_84 (em_X5_size g30) mm_X5_size ms_X5_size lk_7_71 (Nat.le_of_ble_eq_true rfl) (Nat.le_of_ble_eq_true rfl) rfl ?_
  refine ev_istore (ls' := [some (.ref 80), some (.ref 89), some (.int x2), some (.int x3), some (.int x4), some (.int x7), some (.int x10), some (.int x13), some (.int x15), some (.int x20), some (.int x23), some (.int x26), some (.int x29)]) 89 dX7_speak_87 (Nat.le_of_ble_eq_true rfl) rfl rfl ?_
  refine ev_aload_n (i := 1) 90 dX7_speak_89 rfl rfl rfl ?_
  refine ev_iconst (v := 4) 91 dX7_speak_90 (by decide) rfl ?_
  refine ev_iload 93 dX7_speak_91 rfl rfl ?_
  refine ev_iadd 94 dX7_speak_93 rfl ?_
  refine ev_aload_n (i := 0) 95 dX7_speak_94 rfl rfl rfl ?_
  refine ev_aload_n (i := 1) 96 dX7_speak_95 rfl rfl rfl ?_
  refine ev_iload 98 dX7_speak_96 rfl rfl ?_
  refine ev_iload 100 dX7_speak_98 rfl rfl ?_
  obtain ⟨x32, S31, g33, h⟩ := rx_bd_o h
  refine ev_cVi3 103 dX7_speak_100 (em_X7_moodBehind_89 g33) mm_X7_moodBehind mv_X7_moodBehind lk_7_126 dk_80 (by decide) rfl (Nat.le_of_ble_eq_true rfl) (Nat.le_of_ble_eq_true rfl) rfl ?_
  obtain ⟨g34, h⟩ := rx_gd_o h
  obtain ⟨S35, eS35, h⟩ := rx_let_o h
  refine ex_iast _ 104 dX7_speak_103 dk_89 g34 rfl rfl eS35 ?_
  refine ev_aload_n (i := 1) 105 dX7_speak_104 rfl rfl rfl ?_
  refine ev_bipush (v := 10) 107 dX7_speak_105 (by decide) rfl ?_
  refine ev_iload 109 dX7_speak_107 rfl rfl ?_
  refine ev_iadd 110 dX7_speak_109 rfl ?_
  refine ev_dup2 111 dX7_speak_110 rfl rfl rfl ?_
  obtain ⟨g36, h⟩ := rx_gd_o h
  refine ex_iald _ 112 dX7_speak_111 dk_89 g36 rfl rfl ?_
  refine ev_iload 114 dX7_speak_112 rfl rfl ?_
  refine ev_iadd 115 dX7_speak_114 rfl ?_
  obtain ⟨g37, h⟩ := rx_gd_o h
  obtain ⟨S38, eS38, h⟩ := rx_let_o h
  refine ex_iast _ 116 dX7_speak_115 dk_89 g37 rfl rfl eS38 ?_
  refine ev_aload_n (i := 1) 117 dX7_speak_116 rfl rfl rfl ?_
  refine ev_iconst (v := 2) 118 dX7_speak_117 (by decide) rfl ?_
  refine ev_dup2 119 dX7_speak_118 rfl rfl rfl ?_
  refine ex_iald 2 120 dX7_speak_119 dk_89 (rx_vin (by decide)) (by decide) rfl ?_
  refine ev_iload 122 dX7_speak_120 rfl rfl ?_
  refine ev_iadd 123 dX7_speak_122 rfl ?_
  obtain ⟨S39, eS39, h⟩ := rx_let_o h
  refine ex_iast 2 124 dX7_speak_123 dk_89 (rx_vin (by decide)) (by decide) rfl eS39 ?_
  refine ev_aload_n (i := 1) 125 dX7_speak_124 rfl rfl rfl ?_
  refine ev_iconst (v := 1) 126 dX7_speak_125 (by decide) rfl ?_
  refine ev_dup2 127 dX7_speak_126 rfl rfl rfl ?_
  refine ex_iald 1 128 dX7_speak_127 dk_89 (rx_vin (by decide)) (by decide) rfl ?_
  refine ev_iload 130 dX7_speak_128 rfl rfl ?_
  refine ev_iadd 131 dX7_speak_130 rfl ?_
  obtain ⟨S40, eS40, h⟩ := rx_let_o h
  refine ex_iast 1 132 dX7_speak_131 dk_89 (rx_vin (by decide)) (by decide) rfl eS40 ?_
  refine ev_aload_n (i := 1) 133 dX7_speak_132 rfl rfl rfl ?_
  refine ev_bipush (v := 22) 135 dX7_speak_133 (by decide) rfl ?_
  refine ev_iload_n (i := 2) 136 dX7_speak_135 rfl rfl rfl ?_
  refine ev_iadd 137 dX7_speak_136 rfl ?_
  refine ev_dup2 138 dX7_speak_137 rfl rfl rfl ?_
  obtain ⟨g41, h⟩ := rx_gd_o h
  refine ex_iald _ 139 dX7_speak_138 dk_89 g41 rfl rfl ?_
  refine ev_iload 141 dX7_speak_139 rfl rfl ?_
  refine ev_aload_n (i := 0) 142 dX7_speak_141 rfl rfl rfl ?_
  refine ev_get (v := .ref 2) 145 dX7_speak_142 dk_80 fl_7_9 (by decide) rfl rfl rfl ?_
  refine ev_get (v := .ref 11) 148 dX7_speak_145 dk_2 fl_7_53 (by decide) rfl rfl rfl ?_
  refine ev_iload_n (i := 3) 149 dX7_speak_148 rfl rfl rfl ?_
  obtain ⟨g42, h⟩ := rx_gd_o h
  refine ex_iald _ 150 dX7_speak_149 dk_11 g42 rfl rfl ?_
  refine ev_imul 151 dX7_speak_150 rfl ?_
  refine ev_iadd 152 dX7_speak_151 rfl ?_
  obtain ⟨g43, h⟩ := rx_gd_o h
  obtain ⟨S44, eS44, h⟩ := rx_let_o h
  refine ex_iast _ 153 dX7_speak_152 dk_89 g43 rfl rfl eS44 ?_
  refine ev_aload_n (i := 1) 154 dX7_speak_153 rfl rfl rfl ?_
  refine ev_bipush (v := 40) 156 dX7_speak_154 (by decide) rfl ?_
  refine ev_iload_n (i := 3) 157 dX7_speak_156 rfl rfl rfl ?_
  refine ev_iadd 158 dX7_speak_157 rfl ?_
  refine ev_dup2 159 dX7_speak_158 rfl rfl rfl ?_
  obtain ⟨g45, h⟩ := rx_gd_o h
  refine ex_iald _ 160 dX7_speak_159 dk_89 g45 rfl rfl ?_
  refine ev_iload 162 dX7_speak_160 rfl rfl ?_
  refine ev_aload_n (i := 0) 163 dX7_speak_162 rfl rfl rfl ?_
  refine ev_get (v := .ref 2) 166 dX7_speak_163 dk_80 fl_7_9 (by decide) rfl rfl rfl ?_
  refine ev_get (v := .ref 11) 169 dX7_speak_166 dk_2 fl_7_53 (by decide) rfl rfl rfl ?_
  refine ev_iload_n (i := 3) 170 dX7_speak_169 rfl rfl rfl ?_
  obtain ⟨g46, h⟩ := rx_gd_o h
  refine ex_iald _ 171 dX7_speak_170 dk_11 g46 rfl rfl ?_
  refine ev_imul 172 dX7_speak_171 rfl ?_
  refine ev_iadd 173 dX7_speak_172 rfl ?_
  obtain ⟨g47, h⟩ := rx_gd_o h
  obtain ⟨S48, eS48, h⟩ := rx_let_o h
  refine ex_iast _ 174 dX7_speak_173 dk_89 g47 rfl rfl eS48 ?_
  refine ev_aload_n (i := 1) 175 dX7_speak_174 rfl rfl rfl ?_
  refine ev_bipush (v := 28) 177 dX7_speak_175 (by decide) rfl ?_
  refine ev_iload_n (i := 3) 178 dX7_speak_177 rfl rfl rfl ?_
  refine ev_iadd 179 dX7_speak_178 rfl ?_
  refine ev_bipush (v := 99) 181 dX7_speak_179 (by decide) rfl ?_
  refine ev_aload_n (i := 1) 182 dX7_speak_181 rfl rfl rfl ?_
  refine ev_bipush (v := 28) 184 dX7_speak_182 (by decide) rfl ?_
  refine ev_iload_n (i := 3) 185 dX7_speak_184 rfl rfl rfl ?_
  refine ev_iadd 186 dX7_speak_185 rfl ?_
  obtain ⟨g49, h⟩ := rx_gd_o h
  refine ex_iald _ 187 dX7_speak_186 dk_89 g49 rfl rfl ?_
  refine ev_iload 189 dX7_speak_187 rfl rfl ?_
  refine ev_iadd 190 dX7_speak_189 rfl ?_
  refine ev_min 193 dX7_speak_190 lk_7_130 w_min (Nat.le_of_ble_eq_true rfl) rfl ?_
  obtain ⟨g50, h⟩ := rx_gd_o h
  obtain ⟨S51, eS51, h⟩ := rx_let_o h
  refine ex_iast _ 194 dX7_speak_193 dk_89 g50 rfl rfl eS51 ?_
  refine ev_aload_n (i := 1) 195 dX7_speak_194 rfl rfl rfl ?_
  refine ev_bipush (v := 32) 197 dX7_speak_195 (by decide) rfl ?_
  refine ev_iload_n (i := 3) 198 dX7_speak_197 rfl rfl rfl ?_
  refine ev_iadd 199 dX7_speak_198 rfl ?_
  refine ev_bipush (v := 99) 201 dX7_speak_199 (by decide) rfl ?_
  refine ev_aload_n (i := 1) 202 dX7_speak_201 rfl rfl rfl ?_
  refine ev_bipush (v := 32) 204 dX7_speak_202 (by decide) rfl ?_
  refine ev_iload_n (i := 3) 205 dX7_speak_204 rfl rfl rfl ?_
  refine ev_iadd 206 dX7_speak_205 rfl ?_
  obtain ⟨g52, h⟩ := rx_gd_o h
  refine ex_iald _ 207 dX7_speak_206 dk_89 g52 rfl rfl ?_
  refine ev_iload 209 dX7_speak_207 rfl rfl ?_
  refine ev_iadd 210 dX7_speak_209 rfl ?_
  refine ev_min 213 dX7_speak_210 lk_7_130 w_min (Nat.le_of_ble_eq_true rfl) rfl ?_
  obtain ⟨g53, h⟩ := rx_gd_o h
  obtain ⟨S54, eS54, h⟩ := rx_let_o h
  refine ex_iast _ 214 dX7_speak_213 dk_89 g53 rfl rfl eS54 ?_
  refine ev_aload_n (i := 1) 215 dX7_speak_214 rfl rfl rfl ?_
  refine ev_bipush (v := 36) 217 dX7_speak_215 (by decide) rfl ?_
  refine ev_iload_n (i := 3) 218 dX7_speak_217 rfl rfl rfl ?_
  refine ev_iadd 219 dX7_speak_218 rfl ?_
  obtain ⟨g55, h⟩ := rx_gd_o h
  refine ex_iald _ 220 dX7_speak_219 dk_89 g55 rfl rfl ?_
  refine ev_if_eq 263 223 dX7_speak_220 rfl rfl (fun c56 => ?_) (fun c56 => ?_)
  · replace h := rx_if_t c56 h
    exact ev_return dX7_speak_263 rfl (rx_ret_v h)
  · replace h := rx_if_f c56 h
    refine ev_iload 225 dX7_speak_223 rfl rfl ?_
    refine ev_iload 227 dX7_speak_225 rfl rfl ?_
    refine ev_icmp_eq 263 230 dX7_speak_227 rfl rfl (fun c57 => ?_) (fun c57 => ?_)
    · replace h := rx_if_t c57 h
      exact ev_return dX7_speak_263 rfl (rx_ret_v h)
    · replace h := rx_if_f c57 h
      refine ev_aload_n (i := 1) 231 dX7_speak_230 rfl rfl rfl ?_
      refine ev_bipush (v := 40) 233 dX7_speak_231 (by decide) rfl ?_
      refine ev_iload_n (i := 3) 234 dX7_speak_233 rfl rfl rfl ?_
      refine ev_iadd 235 dX7_speak_234 rfl ?_
      refine ev_dup2 236 dX7_speak_235 rfl rfl rfl ?_
      obtain ⟨g58, h⟩ := rx_gd_o h
      refine ex_iald _ 237 dX7_speak_236 dk_89 g58 rfl rfl ?_
      refine ev_aload_n (i := 0) 238 dX7_speak_237 rfl rfl rfl ?_
      refine ev_get (v := .ref 2) 241 dX7_speak_238 dk_80 fl_7_9 (by decide) rfl rfl rfl ?_
      refine ev_get (v := .int (S54.1 2 9)) 244 dX7_speak_241 dk_2 fl_7_135 (by decide) rfl rfl rfl ?_
      refine ev_isub 245 dX7_speak_244 rfl ?_
      obtain ⟨g59, h⟩ := rx_gd_o h
      obtain ⟨S60, eS60, h⟩ := rx_let_o h
      refine ex_iast _ 246 dX7_speak_245 dk_89 g59 rfl rfl eS60 ?_
      refine ev_aload_n (i := 1) 247 dX7_speak_246 rfl rfl rfl ?_
      refine ev_bipush (v := 44) 249 dX7_speak_247 (by decide) rfl ?_
      refine ev_iload_n (i := 3) 250 dX7_speak_249 rfl rfl rfl ?_
      refine ev_iadd 251 dX7_speak_250 rfl ?_
      refine ev_dup2 252 dX7_speak_251 rfl rfl rfl ?_
      obtain ⟨g61, h⟩ := rx_gd_o h
      refine ex_iald _ 253 dX7_speak_252 dk_89 g61 rfl rfl ?_
      refine ev_iconst (v := 1) 254 dX7_speak_253 (by decide) rfl ?_
      refine ev_iadd 255 dX7_speak_254 rfl ?_
      obtain ⟨g62, h⟩ := rx_gd_o h
      obtain ⟨S63, eS63, h⟩ := rx_let_o h
      refine ex_iast _ 256 dX7_speak_255 dk_89 g62 rfl rfl eS63 ?_
      refine ev_aload_n (i := 1) 257 dX7_speak_256 rfl rfl rfl ?_
      refine ev_iconst (v := 3) 258 dX7_speak_257 (by decide) rfl ?_
      refine ev_dup2 259 dX7_speak_258 rfl rfl rfl ?_
      refine ex_iald 3 260 dX7_speak_259 dk_89 (rx_vin (by decide)) (by decide) rfl ?_
      refine ev_iconst (v := 1) 261 dX7_speak_260 (by decide) rfl ?_
      refine ev_iadd 262 dX7_speak_261 rfl ?_
      obtain ⟨S64, eS64, h⟩ := rx_let_o h
      refine ex_iast 3 263 dX7_speak_262 dk_89 (rx_vin (by decide)) (by decide) rfl eS64 ?_
      exact ev_return dX7_speak_263 rfl (rx_ret_v h)

def f_X7_keepSilent (k : Nat) (x2 : Int32) (S0 : rx_S) : Option (Unit × rx_S) := rx_bd (f_X7_speakerOf k x2 S0) (fun x5 S4 => rx_bd (f_X7_hearerOf k x2 S4) (fun x8 S7 => rx_gd ((4 : Int32) + x5) 48 (rx_gd ((4 : Int32) + x5) 48 (rx_let (rx_ui S7 k (Int32.toNatClampNeg ((4 : Int32) + x5)) (if (0 : Int32) < ((S7.1 k (Int32.toNatClampNeg ((4 : Int32) + x5))) - 1) then ((S7.1 k (Int32.toNatClampNeg ((4 : Int32) + x5))) - 1) else 0)) (fun S12 => rx_gd ((4 : Int32) + x8) 48 (rx_gd ((4 : Int32) + x8) 48 (rx_let (rx_ui S12 k (Int32.toNatClampNeg ((4 : Int32) + x8)) (if (0 : Int32) < ((S12.1 k (Int32.toNatClampNeg ((4 : Int32) + x8))) - 1) then ((S12.1 k (Int32.toNatClampNeg ((4 : Int32) + x8))) - 1) else 0)) (fun S15 => rx_gd ((25 : Int32) + x2) 48 (rx_gd ((25 : Int32) + x2) 48 (rx_let (rx_ui S15 k (Int32.toNatClampNeg ((25 : Int32) + x2)) ((S15.1 k (Int32.toNatClampNeg ((25 : Int32) + x2))) + 1)) (fun S18 => some ((), S18))))))))))))
set_option maxHeartbeats 4000000 in
set_option maxRecDepth 20000 in
theorem em_X7_keepSilent_32 {d : Nat} {x2 : Int32} {S0 : rx_S} {zr : Unit} {zS : rx_S} (h : f_X7_keepSilent 32 x2 S0 = some (zr, zS)) : EM gC (d + 1) mX7_keepSilent [.ref 80, .ref 32, .int x2] S0 (rx_pv zS) := by
  unfold f_X7_keepSilent at h
  show EV gC (d + 1) mX7_keepSilent 0 [some (.ref 80), some (.ref 32), some (.int x2), none, none] [] S0 (rx_pv zS)
  refine ev_aload_n (i := 0) 1 dX7_keepSilent_0 rfl rfl rfl ?_
  refine ev_aload_n (i := 1) 2 dX7_keepSilent_1 rfl rfl rfl ?_
  refine ev_iload_n (i := 2) 3 dX7_keepSilent_2 rfl rfl rfl ?_
  obtain ⟨x5, S4, g6, h⟩ := rx_bd_o h
  refine ev_cVi2 6 dX7_keepSilent_3 (em_X7_speakerOf_32 g6) mm_X7_speakerOf mv_X7_speakerOf lk_7_109 dk_80 (by decide) rfl (Nat.le_of_ble_eq_true rfl) (Nat.le_of_ble_eq_true rfl) rfl ?_
  refine ev_istore_n (ls' := [some (.ref 80), some (.ref 32), some (.int x2), some (.int x5), none]) 7 dX7_keepSilent_6 rfl (Nat.le_of_ble_eq_true rfl) rfl rfl ?_
  refine ev_aload_n (i := 0) 8 dX7_keepSilent_7 rfl rfl rfl ?_
  refine ev_aload_n (i := 1) 9 dX7_keepSilent_8 rfl rfl rfl ?_
  refine ev_iload_n (i := 2) 10 dX7_keepSilent_9 rfl rfl rfl ?_
  obtain ⟨x8, S7, g9, h⟩ := rx_bd_o h
  refine ev_cVi2 13 dX7_keepSilent_10 (em_X7_hearerOf_32 g9) mm_X7_hearerOf mv_X7_hearerOf lk_7_113 dk_80 (by decide) rfl (Nat.le_of_ble_eq_true rfl) (Nat.le_of_ble_eq_true rfl) rfl ?_
  refine ev_istore (ls' := [some (.ref 80), some (.ref 32), some (.int x2), some (.int x5), some (.int x8)]) 15 dX7_keepSilent_13 (Nat.le_of_ble_eq_true rfl) rfl rfl ?_
  refine ev_aload_n (i := 1) 16 dX7_keepSilent_15 rfl rfl rfl ?_
  refine ev_iconst (v := 4) 17 dX7_keepSilent_16 (by decide) rfl ?_
  refine ev_iload_n (i := 3) 18 dX7_keepSilent_17 rfl rfl rfl ?_
  refine ev_iadd 19 dX7_keepSilent_18 rfl ?_
  refine ev_iconst (v := 0) 20 dX7_keepSilent_19 (by decide) rfl ?_
  refine ev_aload_n (i := 1) 21 dX7_keepSilent_20 rfl rfl rfl ?_
  refine ev_iconst (v := 4) 22 dX7_keepSilent_21 (by decide) rfl ?_
  refine ev_iload_n (i := 3) 23 dX7_keepSilent_22 rfl rfl rfl ?_
  refine ev_iadd 24 dX7_keepSilent_23 rfl ?_
  obtain ⟨g10, h⟩ := rx_gd_o h
  refine ex_iald _ 25 dX7_keepSilent_24 dk_32 g10 rfl rfl ?_
  refine ev_iconst (v := 1) 26 dX7_keepSilent_25 (by decide) rfl ?_
  refine ev_isub 27 dX7_keepSilent_26 rfl ?_
  refine ev_max 30 dX7_keepSilent_27 lk_7_138 w_max (Nat.le_of_ble_eq_true rfl) rfl ?_
  obtain ⟨g11, h⟩ := rx_gd_o h
  obtain ⟨S12, eS12, h⟩ := rx_let_o h
  refine ex_iast _ 31 dX7_keepSilent_30 dk_32 g11 rfl rfl eS12 ?_
  refine ev_aload_n (i := 1) 32 dX7_keepSilent_31 rfl rfl rfl ?_
  refine ev_iconst (v := 4) 33 dX7_keepSilent_32 (by decide) rfl ?_
  refine ev_iload 35 dX7_keepSilent_33 rfl rfl ?_
  refine ev_iadd 36 dX7_keepSilent_35 rfl ?_
  refine ev_iconst (v := 0) 37 dX7_keepSilent_36 (by decide) rfl ?_
  refine ev_aload_n (i := 1) 38 dX7_keepSilent_37 rfl rfl rfl ?_
  refine ev_iconst (v := 4) 39 dX7_keepSilent_38 (by decide) rfl ?_
  refine ev_iload 41 dX7_keepSilent_39 rfl rfl ?_
  refine ev_iadd 42 dX7_keepSilent_41 rfl ?_
  obtain ⟨g13, h⟩ := rx_gd_o h
  refine ex_iald _ 43 dX7_keepSilent_42 dk_32 g13 rfl rfl ?_
  refine ev_iconst (v := 1) 44 dX7_keepSilent_43 (by decide) rfl ?_
  refine ev_isub 45 dX7_keepSilent_44 rfl ?_
  refine ev_max 48 dX7_keepSilent_45 lk_7_138 w_max (Nat.le_of_ble_eq_true rfl) rfl ?_
  obtain ⟨g14, h⟩ := rx_gd_o h
  obtain ⟨S15, eS15, h⟩ := rx_let_o h
  refine ex_iast _ 49 dX7_keepSilent_48 dk_32 g14 rfl rfl eS15 ?_
  refine ev_aload_n (i := 1) 50 dX7_keepSilent_49 rfl rfl rfl ?_
  refine ev_bipush (v := 25) 52 dX7_keepSilent_50 (by decide) rfl ?_
  refine ev_iload_n (i := 2) 53 dX7_keepSilent_52 rfl rfl rfl ?_
  refine ev_iadd 54 dX7_keepSilent_53 rfl ?_
  refine ev_dup2 55 dX7_keepSilent_54 rfl rfl rfl ?_
  obtain ⟨g16, h⟩ := rx_gd_o h
  refine ex_iald _ 56 dX7_keepSilent_55 dk_32 g16 rfl rfl ?_
  refine ev_iconst (v := 1) 57 dX7_keepSilent_56 (by decide) rfl ?_
  refine ev_iadd 58 dX7_keepSilent_57 rfl ?_
  obtain ⟨g17, h⟩ := rx_gd_o h
  obtain ⟨S18, eS18, h⟩ := rx_let_o h
  refine ex_iast _ 59 dX7_keepSilent_58 dk_32 g17 rfl rfl eS18 ?_
  exact ev_return dX7_keepSilent_59 rfl (rx_ret_v h)

set_option maxHeartbeats 4000000 in
set_option maxRecDepth 20000 in
theorem em_X7_keepSilent_89 {d : Nat} {x2 : Int32} {S0 : rx_S} {zr : Unit} {zS : rx_S} (h : f_X7_keepSilent 89 x2 S0 = some (zr, zS)) : EM gC (d + 1) mX7_keepSilent [.ref 80, .ref 89, .int x2] S0 (rx_pv zS) := by
  unfold f_X7_keepSilent at h
  show EV gC (d + 1) mX7_keepSilent 0 [some (.ref 80), some (.ref 89), some (.int x2), none, none] [] S0 (rx_pv zS)
  refine ev_aload_n (i := 0) 1 dX7_keepSilent_0 rfl rfl rfl ?_
  refine ev_aload_n (i := 1) 2 dX7_keepSilent_1 rfl rfl rfl ?_
  refine ev_iload_n (i := 2) 3 dX7_keepSilent_2 rfl rfl rfl ?_
  obtain ⟨x5, S4, g6, h⟩ := rx_bd_o h
  refine ev_cVi2 6 dX7_keepSilent_3 (em_X7_speakerOf_89 g6) mm_X7_speakerOf mv_X7_speakerOf lk_7_109 dk_80 (by decide) rfl (Nat.le_of_ble_eq_true rfl) (Nat.le_of_ble_eq_true rfl) rfl ?_
  refine ev_istore_n (ls' := [some (.ref 80), some (.ref 89), some (.int x2), some (.int x5), none]) 7 dX7_keepSilent_6 rfl (Nat.le_of_ble_eq_true rfl) rfl rfl ?_
  refine ev_aload_n (i := 0) 8 dX7_keepSilent_7 rfl rfl rfl ?_
  refine ev_aload_n (i := 1) 9 dX7_keepSilent_8 rfl rfl rfl ?_
  refine ev_iload_n (i := 2) 10 dX7_keepSilent_9 rfl rfl rfl ?_
  obtain ⟨x8, S7, g9, h⟩ := rx_bd_o h
  refine ev_cVi2 13 dX7_keepSilent_10 (em_X7_hearerOf_89 g9) mm_X7_hearerOf mv_X7_hearerOf lk_7_113 dk_80 (by decide) rfl (Nat.le_of_ble_eq_true rfl) (Nat.le_of_ble_eq_true rfl) rfl ?_
  refine ev_istore (ls' := [some (.ref 80), some (.ref 89), some (.int x2), some (.int x5), some (.int x8)]) 15 dX7_keepSilent_13 (Nat.le_of_ble_eq_true rfl) rfl rfl ?_
  refine ev_aload_n (i := 1) 16 dX7_keepSilent_15 rfl rfl rfl ?_
  refine ev_iconst (v := 4) 17 dX7_keepSilent_16 (by decide) rfl ?_
  refine ev_iload_n (i := 3) 18 dX7_keepSilent_17 rfl rfl rfl ?_
  refine ev_iadd 19 dX7_keepSilent_18 rfl ?_
  refine ev_iconst (v := 0) 20 dX7_keepSilent_19 (by decide) rfl ?_
  refine ev_aload_n (i := 1) 21 dX7_keepSilent_20 rfl rfl rfl ?_
  refine ev_iconst (v := 4) 22 dX7_keepSilent_21 (by decide) rfl ?_
  refine ev_iload_n (i := 3) 23 dX7_keepSilent_22 rfl rfl rfl ?_
  refine ev_iadd 24 dX7_keepSilent_23 rfl ?_
  obtain ⟨g10, h⟩ := rx_gd_o h
  refine ex_iald _ 25 dX7_keepSilent_24 dk_89 g10 rfl rfl ?_
  refine ev_iconst (v := 1) 26 dX7_keepSilent_25 (by decide) rfl ?_
  refine ev_isub 27 dX7_keepSilent_26 rfl ?_
  refine ev_max 30 dX7_keepSilent_27 lk_7_138 w_max (Nat.le_of_ble_eq_true rfl) rfl ?_
  obtain ⟨g11, h⟩ := rx_gd_o h
  obtain ⟨S12, eS12, h⟩ := rx_let_o h
  refine ex_iast _ 31 dX7_keepSilent_30 dk_89 g11 rfl rfl eS12 ?_
  refine ev_aload_n (i := 1) 32 dX7_keepSilent_31 rfl rfl rfl ?_
  refine ev_iconst (v := 4) 33 dX7_keepSilent_32 (by decide) rfl ?_
  refine ev_iload 35 dX7_keepSilent_33 rfl rfl ?_
  refine ev_iadd 36 dX7_keepSilent_35 rfl ?_
  refine ev_iconst (v := 0) 37 dX7_keepSilent_36 (by decide) rfl ?_
  refine ev_aload_n (i := 1) 38 dX7_keepSilent_37 rfl rfl rfl ?_
  refine ev_iconst (v := 4) 39 dX7_keepSilent_38 (by decide) rfl ?_
  refine ev_iload 41 dX7_keepSilent_39 rfl rfl ?_
  refine ev_iadd 42 dX7_keepSilent_41 rfl ?_
  obtain ⟨g13, h⟩ := rx_gd_o h
  refine ex_iald _ 43 dX7_keepSilent_42 dk_89 g13 rfl rfl ?_
  refine ev_iconst (v := 1) 44 dX7_keepSilent_43 (by decide) rfl ?_
  refine ev_isub 45 dX7_keepSilent_44 rfl ?_
  refine ev_max 48 dX7_keepSilent_45 lk_7_138 w_max (Nat.le_of_ble_eq_true rfl) rfl ?_
  obtain ⟨g14, h⟩ := rx_gd_o h
  obtain ⟨S15, eS15, h⟩ := rx_let_o h
  refine ex_iast _ 49 dX7_keepSilent_48 dk_89 g14 rfl rfl eS15 ?_
  refine ev_aload_n (i := 1) 50 dX7_keepSilent_49 rfl rfl rfl ?_
  refine ev_bipush (v := 25) 52 dX7_keepSilent_50 (by decide) rfl ?_
  refine ev_iload_n (i := 2) 53 dX7_keepSilent_52 rfl rfl rfl ?_
  refine ev_iadd 54 dX7_keepSilent_53 rfl ?_
  refine ev_dup2 55 dX7_keepSilent_54 rfl rfl rfl ?_
  obtain ⟨g16, h⟩ := rx_gd_o h
  refine ex_iald _ 56 dX7_keepSilent_55 dk_89 g16 rfl rfl ?_
  refine ev_iconst (v := 1) 57 dX7_keepSilent_56 (by decide) rfl ?_
  refine ev_iadd 58 dX7_keepSilent_57 rfl ?_
  obtain ⟨g17, h⟩ := rx_gd_o h
  obtain ⟨S18, eS18, h⟩ := rx_let_o h
  refine ex_iast _ 59 dX7_keepSilent_58 dk_89 g17 rfl rfl eS18 ?_
  exact ev_return dX7_keepSilent_59 rfl (rx_ret_v h)

def f_X7_partIfSad (k : Nat) (x2 : Int32) (S0 : rx_S) : Option (Unit × rx_S) := rx_bd (f_X7_speakerOf k x2 S0) (fun x5 S4 => rx_gd ((4 : Int32) + x5) 48 (rx_let (fun (x8 : Int32) (x9 : Int32) (S10 : rx_S) => rx_bd (f_X7_hearerOf k x8 S10) (fun x12 S11 => rx_gd ((4 : Int32) + x12) 48 (rx_let (fun (x15 : Int32) (x16 : Int32) (x17 : Int32) (S18 : rx_S) => rx_let (fun (x19 : Int32) (S20 : rx_S) => rx_gd ((19 : Int32) + x19) 48 (rx_let (rx_ui S20 k (Int32.toNatClampNeg ((19 : Int32) + x19)) 1) (fun S22 => rx_gd ((16 : Int32) + x19) 48 (rx_let (rx_ui S22 k (Int32.toNatClampNeg ((16 : Int32) + x19)) (-1)) (fun S24 => some ((), S24)))))) (fun J48_3 => if x16 = 0 then (if x17 = 0 then (some ((), S18)) else (J48_3 x15 S18)) else (J48_3 x15 S18))) (fun J37_2 => if (S11.1 k (Int32.toNatClampNeg ((4 : Int32) + x12))) = 0 then (J37_2 x8 x9 1 S11) else (J37_2 x8 x9 0 S11))))) (fun J18_1 => if (S4.1 k (Int32.toNatClampNeg ((4 : Int32) + x5))) = 0 then (J18_1 x2 1 S4) else (J18_1 x2 0 S4))))
set_option maxHeartbeats 4000000 in
set_option maxRecDepth 20000 in
theorem em_X7_partIfSad_32 {d : Nat} {x2 : Int32} {S0 : rx_S} {zr : Unit} {zS : rx_S} (h : f_X7_partIfSad 32 x2 S0 = some (zr, zS)) : EM gC (d + 1) mX7_partIfSad [.ref 80, .ref 32, .int x2] S0 (rx_pv zS) := by
  unfold f_X7_partIfSad at h
  show EV gC (d + 1) mX7_partIfSad 0 [some (.ref 80), some (.ref 32), some (.int x2), none, none] [] S0 (rx_pv zS)
  refine ev_aload_n (i := 1) 1 dX7_partIfSad_0 rfl rfl rfl ?_
  refine ev_iconst (v := 4) 2 dX7_partIfSad_1 (by decide) rfl ?_
  refine ev_aload_n (i := 0) 3 dX7_partIfSad_2 rfl rfl rfl ?_
  refine ev_aload_n (i := 1) 4 dX7_partIfSad_3 rfl rfl rfl ?_
  refine ev_iload_n (i := 2) 5 dX7_partIfSad_4 rfl rfl rfl ?_
  obtain ⟨x5, S4, g6, h⟩ := rx_bd_o h
  refine ev_cVi2 8 dX7_partIfSad_5 (em_X7_speakerOf_32 g6) mm_X7_speakerOf mv_X7_speakerOf lk_7_109 dk_80 (by decide) rfl (Nat.le_of_ble_eq_true rfl) (Nat.le_of_ble_eq_true rfl) rfl ?_
  refine ev_iadd 9 dX7_partIfSad_8 rfl ?_
  obtain ⟨g7, h⟩ := rx_gd_o h
  refine ex_iald _ 10 dX7_partIfSad_9 dk_32 g7 rfl rfl ?_
  obtain ⟨J18_1, eJ18_1, h⟩ := rx_let_o h
  have hJ18_1 : ∀ (x8 : Int32) (x9 : Int32) (S10 : rx_S), J18_1 x8 x9 S10 = some (zr, zS) → EV gC (d + 1) mX7_partIfSad 18 [some (.ref 80), some (.ref 32), some (.int x8), none, none] [.int x9] S10 (rx_pv zS) := by
    intro x8 x9 S10 h
    subst eJ18_1
    refine ev_istore_n (ls' := [some (.ref 80), some (.ref 32), some (.int x8), some (.int x9), none]) 19 dX7_partIfSad_18 rfl (Nat.le_of_ble_eq_true rfl) rfl rfl ?_
    refine ev_aload_n (i := 1) 20 dX7_partIfSad_19 rfl rfl rfl ?_
    refine ev_iconst (v := 4) 21 dX7_partIfSad_20 (by decide) rfl ?_
    refine ev_aload_n (i := 0) 22 dX7_partIfSad_21 rfl rfl rfl ?_
    refine ev_aload_n (i := 1) 23 dX7_partIfSad_22 rfl rfl rfl ?_
    refine ev_iload_n (i := 2) 24 dX7_partIfSad_23 rfl rfl rfl ?_
    obtain ⟨x12, S11, g13, h⟩ := rx_bd_o h
    refine ev_cVi2 27 dX7_partIfSad_24 (em_X7_hearerOf_32 g13) mm_X7_hearerOf mv_X7_hearerOf lk_7_113 dk_80 (by decide) rfl (Nat.le_of_ble_eq_true rfl) (Nat.le_of_ble_eq_true rfl) rfl ?_
    refine ev_iadd 28 dX7_partIfSad_27 rfl ?_
    obtain ⟨g14, h⟩ := rx_gd_o h
    refine ex_iald _ 29 dX7_partIfSad_28 dk_32 g14 rfl rfl ?_
    obtain ⟨J37_2, eJ37_2, h⟩ := rx_let_o h
    have hJ37_2 : ∀ (x15 : Int32) (x16 : Int32) (x17 : Int32) (S18 : rx_S), J37_2 x15 x16 x17 S18 = some (zr, zS) → EV gC (d + 1) mX7_partIfSad 37 [some (.ref 80), some (.ref 32), some (.int x15), some (.int x16), none] [.int x17] S18 (rx_pv zS) := by
      intro x15 x16 x17 S18 h
      subst eJ37_2
      refine ev_istore (ls' := [some (.ref 80), some (.ref 32), some (.int x15), some (.int x16), some (.int x17)]) 39 dX7_partIfSad_37 (Nat.le_of_ble_eq_true rfl) rfl rfl ?_
      refine ev_iload_n (i := 3) 40 dX7_partIfSad_39 rfl rfl rfl ?_
      obtain ⟨J48_3, eJ48_3, h⟩ := rx_let_o h
      have hJ48_3 : ∀ (x19 : Int32) (S20 : rx_S), J48_3 x19 S20 = some (zr, zS) → EV gC (d + 1) mX7_partIfSad 48 [some (.ref 80), some (.ref 32), some (.int x19), none, none] [] S20 (rx_pv zS) := by
        intro x19 S20 h
        subst eJ48_3
        refine ev_aload_n (i := 1) 49 dX7_partIfSad_48 rfl rfl rfl ?_
        refine ev_bipush (v := 19) 51 dX7_partIfSad_49 (by decide) rfl ?_
        refine ev_iload_n (i := 2) 52 dX7_partIfSad_51 rfl rfl rfl ?_
        refine ev_iadd 53 dX7_partIfSad_52 rfl ?_
        refine ev_iconst (v := 1) 54 dX7_partIfSad_53 (by decide) rfl ?_
        obtain ⟨g21, h⟩ := rx_gd_o h
        obtain ⟨S22, eS22, h⟩ := rx_let_o h
        refine ex_iast _ 55 dX7_partIfSad_54 dk_32 g21 rfl rfl eS22 ?_
        refine ev_aload_n (i := 1) 56 dX7_partIfSad_55 rfl rfl rfl ?_
        refine ev_bipush (v := 16) 58 dX7_partIfSad_56 (by decide) rfl ?_
        refine ev_iload_n (i := 2) 59 dX7_partIfSad_58 rfl rfl rfl ?_
        refine ev_iadd 60 dX7_partIfSad_59 rfl ?_
        refine ev_iconst (v := (-1)) 61 dX7_partIfSad_60 (by decide) rfl ?_
        obtain ⟨g23, h⟩ := rx_gd_o h
        obtain ⟨S24, eS24, h⟩ := rx_let_o h
        refine ex_iast _ 62 dX7_partIfSad_61 dk_32 g23 rfl rfl eS24 ?_
        exact ev_return dX7_partIfSad_62 rfl (rx_ret_v h)
      refine ev_if_ne 48 43 dX7_partIfSad_40 rfl rfl (fun c25 => ?_) (fun c25 => ?_)
      · replace h := rx_if_f c25 h
        exact (hJ48_3 _ _ h).fewer (rx_le_s (rx_le_s (rx_le_s (rx_le_n (rx_le_n rx_le_0)))))
      · replace h := rx_if_t c25 h
        refine ev_iload 45 dX7_partIfSad_43 rfl rfl ?_
        refine ev_if_eq 62 48 dX7_partIfSad_45 rfl rfl (fun c26 => ?_) (fun c26 => ?_)
        · replace h := rx_if_t c26 h
          exact ev_return dX7_partIfSad_62 rfl (rx_ret_v h)
        · replace h := rx_if_f c26 h
          exact (hJ48_3 _ _ h).fewer (rx_le_s (rx_le_s (rx_le_s (rx_le_n (rx_le_n rx_le_0)))))
    refine ev_if_ne 36 32 dX7_partIfSad_29 rfl rfl (fun c27 => ?_) (fun c27 => ?_)
    · replace h := rx_if_f c27 h
      refine ev_iconst (v := 0) 37 dX7_partIfSad_36 (by decide) rfl ?_
      exact (hJ37_2 _ _ _ _ h).fewer (rx_le_s (rx_le_s (rx_le_s (rx_le_s (rx_le_n rx_le_0)))))
    · replace h := rx_if_t c27 h
      refine ev_iconst (v := 1) 33 dX7_partIfSad_32 (by decide) rfl ?_
      refine ev_goto 37 dX7_partIfSad_33 rfl ?_
      exact (hJ37_2 _ _ _ _ h).fewer (rx_le_s (rx_le_s (rx_le_s (rx_le_s (rx_le_n rx_le_0)))))
  refine ev_if_ne 17 13 dX7_partIfSad_10 rfl rfl (fun c28 => ?_) (fun c28 => ?_)
  · replace h := rx_if_f c28 h
    refine ev_iconst (v := 0) 18 dX7_partIfSad_17 (by decide) rfl ?_
    exact (hJ18_1 _ _ _ h).fewer (rx_le_s (rx_le_s (rx_le_s (rx_le_n (rx_le_n rx_le_0)))))
  · replace h := rx_if_t c28 h
    refine ev_iconst (v := 1) 14 dX7_partIfSad_13 (by decide) rfl ?_
    refine ev_goto 18 dX7_partIfSad_14 rfl ?_
    exact (hJ18_1 _ _ _ h).fewer (rx_le_s (rx_le_s (rx_le_s (rx_le_n (rx_le_n rx_le_0)))))

set_option maxHeartbeats 4000000 in
set_option maxRecDepth 20000 in
theorem em_X7_partIfSad_89 {d : Nat} {x2 : Int32} {S0 : rx_S} {zr : Unit} {zS : rx_S} (h : f_X7_partIfSad 89 x2 S0 = some (zr, zS)) : EM gC (d + 1) mX7_partIfSad [.ref 80, .ref 89, .int x2] S0 (rx_pv zS) := by
  unfold f_X7_partIfSad at h
  show EV gC (d + 1) mX7_partIfSad 0 [some (.ref 80), some (.ref 89), some (.int x2), none, none] [] S0 (rx_pv zS)
  refine ev_aload_n (i := 1) 1 dX7_partIfSad_0 rfl rfl rfl ?_
  refine ev_iconst (v := 4) 2 dX7_partIfSad_1 (by decide) rfl ?_
  refine ev_aload_n (i := 0) 3 dX7_partIfSad_2 rfl rfl rfl ?_
  refine ev_aload_n (i := 1) 4 dX7_partIfSad_3 rfl rfl rfl ?_
  refine ev_iload_n (i := 2) 5 dX7_partIfSad_4 rfl rfl rfl ?_
  obtain ⟨x5, S4, g6, h⟩ := rx_bd_o h
  refine ev_cVi2 8 dX7_partIfSad_5 (em_X7_speakerOf_89 g6) mm_X7_speakerOf mv_X7_speakerOf lk_7_109 dk_80 (by decide) rfl (Nat.le_of_ble_eq_true rfl) (Nat.le_of_ble_eq_true rfl) rfl ?_
  refine ev_iadd 9 dX7_partIfSad_8 rfl ?_
  obtain ⟨g7, h⟩ := rx_gd_o h
  refine ex_iald _ 10 dX7_partIfSad_9 dk_89 g7 rfl rfl ?_
  obtain ⟨J18_1, eJ18_1, h⟩ := rx_let_o h
  have hJ18_1 : ∀ (x8 : Int32) (x9 : Int32) (S10 : rx_S), J18_1 x8 x9 S10 = some (zr, zS) → EV gC (d + 1) mX7_partIfSad 18 [some (.ref 80), some (.ref 89), some (.int x8), none, none] [.int x9] S10 (rx_pv zS) := by
    intro x8 x9 S10 h
    subst eJ18_1
    refine ev_istore_n (ls' := [some (.ref 80), some (.ref 89), some (.int x8), some (.int x9), none]) 19 dX7_partIfSad_18 rfl (Nat.le_of_ble_eq_true rfl) rfl rfl ?_
    refine ev_aload_n (i := 1) 20 dX7_partIfSad_19 rfl rfl rfl ?_
    refine ev_iconst (v := 4) 21 dX7_partIfSad_20 (by decide) rfl ?_
    refine ev_aload_n (i := 0) 22 dX7_partIfSad_21 rfl rfl rfl ?_
    refine ev_aload_n (i := 1) 23 dX7_partIfSad_22 rfl rfl rfl ?_
    refine ev_iload_n (i := 2) 24 dX7_partIfSad_23 rfl rfl rfl ?_
    obtain ⟨x12, S11, g13, h⟩ := rx_bd_o h
    refine ev_cVi2 27 dX7_partIfSad_24 (em_X7_hearerOf_89 g13) mm_X7_hearerOf mv_X7_hearerOf lk_7_113 dk_80 (by decide) rfl (Nat.le_of_ble_eq_true rfl) (Nat.le_of_ble_eq_true rfl) rfl ?_
    refine ev_iadd 28 dX7_partIfSad_27 rfl ?_
    obtain ⟨g14, h⟩ := rx_gd_o h
    refine ex_iald _ 29 dX7_partIfSad_28 dk_89 g14 rfl rfl ?_
    obtain ⟨J37_2, eJ37_2, h⟩ := rx_let_o h
    have hJ37_2 : ∀ (x15 : Int32) (x16 : Int32) (x17 : Int32) (S18 : rx_S), J37_2 x15 x16 x17 S18 = some (zr, zS) → EV gC (d + 1) mX7_partIfSad 37 [some (.ref 80), some (.ref 89), some (.int x15), some (.int x16), none] [.int x17] S18 (rx_pv zS) := by
      intro x15 x16 x17 S18 h
      subst eJ37_2
      refine ev_istore (ls' := [some (.ref 80), some (.ref 89), some (.int x15), some (.int x16), some (.int x17)]) 39 dX7_partIfSad_37 (Nat.le_of_ble_eq_true rfl) rfl rfl ?_
      refine ev_iload_n (i := 3) 40 dX7_partIfSad_39 rfl rfl rfl ?_
      obtain ⟨J48_3, eJ48_3, h⟩ := rx_let_o h
      have hJ48_3 : ∀ (x19 : Int32) (S20 : rx_S), J48_3 x19 S20 = some (zr, zS) → EV gC (d + 1) mX7_partIfSad 48 [some (.ref 80), some (.ref 89), some (.int x19), none, none] [] S20 (rx_pv zS) := by
        intro x19 S20 h
        subst eJ48_3
        refine ev_aload_n (i := 1) 49 dX7_partIfSad_48 rfl rfl rfl ?_
        refine ev_bipush (v := 19) 51 dX7_partIfSad_49 (by decide) rfl ?_
        refine ev_iload_n (i := 2) 52 dX7_partIfSad_51 rfl rfl rfl ?_
        refine ev_iadd 53 dX7_partIfSad_52 rfl ?_
        refine ev_iconst (v := 1) 54 dX7_partIfSad_53 (by decide) rfl ?_
        obtain ⟨g21, h⟩ := rx_gd_o h
        obtain ⟨S22, eS22, h⟩ := rx_let_o h
        refine ex_iast _ 55 dX7_partIfSad_54 dk_89 g21 rfl rfl eS22 ?_
        refine ev_aload_n (i := 1) 56 dX7_partIfSad_55 rfl rfl rfl ?_
        refine ev_bipush (v := 16) 58 dX7_partIfSad_56 (by decide) rfl ?_
        refine ev_iload_n (i := 2) 59 dX7_partIfSad_58 rfl rfl rfl ?_
        refine ev_iadd 60 dX7_partIfSad_59 rfl ?_
        refine ev_iconst (v := (-1)) 61 dX7_partIfSad_60 (by decide) rfl ?_
        obtain ⟨g23, h⟩ := rx_gd_o h
        obtain ⟨S24, eS24, h⟩ := rx_let_o h
        refine ex_iast _ 62 dX7_partIfSad_61 dk_89 g23 rfl rfl eS24 ?_
        exact ev_return dX7_partIfSad_62 rfl (rx_ret_v h)
      refine ev_if_ne 48 43 dX7_partIfSad_40 rfl rfl (fun c25 => ?_) (fun c25 => ?_)
      · replace h := rx_if_f c25 h
        exact (hJ48_3 _ _ h).fewer (rx_le_s (rx_le_s (rx_le_s (rx_le_n (rx_le_n rx_le_0)))))
      · replace h := rx_if_t c25 h
        refine ev_iload 45 dX7_partIfSad_43 rfl rfl ?_
        refine ev_if_eq 62 48 dX7_partIfSad_45 rfl rfl (fun c26 => ?_) (fun c26 => ?_)
        · replace h := rx_if_t c26 h
          exact ev_return dX7_partIfSad_62 rfl (rx_ret_v h)
        · replace h := rx_if_f c26 h
          exact (hJ48_3 _ _ h).fewer (rx_le_s (rx_le_s (rx_le_s (rx_le_n (rx_le_n rx_le_0)))))
    refine ev_if_ne 36 32 dX7_partIfSad_29 rfl rfl (fun c27 => ?_) (fun c27 => ?_)
    · replace h := rx_if_f c27 h
      refine ev_iconst (v := 0) 37 dX7_partIfSad_36 (by decide) rfl ?_
      exact (hJ37_2 _ _ _ _ h).fewer (rx_le_s (rx_le_s (rx_le_s (rx_le_s (rx_le_n rx_le_0)))))
    · replace h := rx_if_t c27 h
      refine ev_iconst (v := 1) 33 dX7_partIfSad_32 (by decide) rfl ?_
      refine ev_goto 37 dX7_partIfSad_33 rfl ?_
      exact (hJ37_2 _ _ _ _ h).fewer (rx_le_s (rx_le_s (rx_le_s (rx_le_s (rx_le_n rx_le_0)))))
  refine ev_if_ne 17 13 dX7_partIfSad_10 rfl rfl (fun c28 => ?_) (fun c28 => ?_)
  · replace h := rx_if_f c28 h
    refine ev_iconst (v := 0) 18 dX7_partIfSad_17 (by decide) rfl ?_
    exact (hJ18_1 _ _ _ h).fewer (rx_le_s (rx_le_s (rx_le_s (rx_le_n (rx_le_n rx_le_0)))))
  · replace h := rx_if_t c28 h
    refine ev_iconst (v := 1) 14 dX7_partIfSad_13 (by decide) rfl ?_
    refine ev_goto 18 dX7_partIfSad_14 rfl ?_
    exact (hJ18_1 _ _ _ h).fewer (rx_le_s (rx_le_s (rx_le_s (rx_le_n (rx_le_n rx_le_0)))))

def f_X7_restThirds_L18 (k : Nat) (N : Nat) (K55 : Int32 → Int32 → rx_S → Option (Unit × rx_S)) : Nat → Int32 → Int32 → Int32 → rx_S → Option (Unit × rx_S)
  | 0, _, _, _, _ => none
  | n + 1, x15, x16, x17, S18 => if (S18.1 2 7) ≤ x17 then (K55 x15 x16 S18) else (rx_gd ((16 : Int32) + x17) 48 (if (S18.1 k (Int32.toNatClampNeg ((16 : Int32) + x17))) = x15 then (rx_let (x16 ||| 1) (fun x27 => rx_let (x17 + 1) (fun x28 => f_X7_restThirds_L18 k N K55 n x15 x27 x28 S18))) else (rx_let (x16 ||| 0) (fun x25 => rx_let (x17 + 1) (fun x26 => f_X7_restThirds_L18 k N K55 n x15 x25 x26 S18)))))
def f_X7_restThirds_L2 (k : Nat) (N : Nat) : Nat → Int32 → rx_S → Option (Unit × rx_S)
  | 0, _, _ => none
  | n + 1, x3, S4 => if (S4.1 2 8) ≤ x3 then (some ((), S4)) else (rx_let (fun (x6 : Int32) (x7 : Int32) (S8 : rx_S) => if x7 = 0 then (rx_gd ((28 : Int32) + x6) 48 (rx_gd ((28 : Int32) + x6) 48 (rx_let (rx_ui S8 k (Int32.toNatClampNeg ((28 : Int32) + x6)) (if (0 : Int32) < ((S8.1 k (Int32.toNatClampNeg ((28 : Int32) + x6))) - 5) then ((S8.1 k (Int32.toNatClampNeg ((28 : Int32) + x6))) - 5) else 0)) (fun S13 => rx_let (x6 + 1) (fun x14 => f_X7_restThirds_L2 k N n x14 S13))))) else (rx_let (x6 + 1) (fun x10 => f_X7_restThirds_L2 k N n x10 S8))) (fun J55_1 => f_X7_restThirds_L18 k N J55_1 N x3 0 0 S4))
def f_X7_restThirds (k : Nat) (N : Nat) (S0 : rx_S) : Option (Unit × rx_S) := f_X7_restThirds_L2 k N N 0 S0
set_option maxHeartbeats 4000000 in
set_option maxRecDepth 20000 in
theorem em_X7_restThirds_L18_32 {d N : Nat} {K55 : Int32 → Int32 → rx_S → Option (Unit × rx_S)} {zr : Unit} {zS : rx_S} (hK55 : ∀ (x19 : Int32) (x20 : Int32) (S21 : rx_S), K55 x19 x20 S21 = some (zr, zS) → EV gC (d + 1) mX7_restThirds 55 [some (.ref 80), some (.ref 32), some (.int x19), some (.int x20), none] [] S21 (rx_pv zS)) : ∀ (n : Nat) (x15 : Int32) (x16 : Int32) (x17 : Int32) (S18 : rx_S), f_X7_restThirds_L18 32 N K55 n x15 x16 x17 S18 = some (zr, zS) → EV gC (d + 1) mX7_restThirds 18 [some (.ref 80), some (.ref 32), some (.int x15), some (.int x16), some (.int x17)] [] S18 (rx_pv zS) := by
  intro n
  induction n with
  | zero => intro x15 x16 x17 S18 h; cases h
  | succ n ih =>
    intro x15 x16 x17 S18 h
    rw [f_X7_restThirds_L18] at h
    refine ev_iload 20 dX7_restThirds_18 rfl rfl ?_
    refine ev_aload_n (i := 0) 21 dX7_restThirds_20 rfl rfl rfl ?_
    refine ev_get (v := .ref 2) 24 dX7_restThirds_21 dk_80 fl_7_9 (by decide) rfl rfl rfl ?_
    refine ev_get (v := .int (S18.1 2 7)) 27 dX7_restThirds_24 dk_2 fl_7_87 (by decide) rfl rfl rfl ?_
    refine ev_icmp_ge 55 30 dX7_restThirds_27 rfl rfl (fun c22 => ?_) (fun c22 => ?_)
    · replace h := rx_if_t c22 h
      exact (hK55 _ _ _ h).fewer (rx_le_s (rx_le_s (rx_le_s (rx_le_s (rx_le_n rx_le_0)))))
    · replace h := rx_if_f c22 h
      refine ev_iload_n (i := 3) 31 dX7_restThirds_30 rfl rfl rfl ?_
      refine ev_aload_n (i := 1) 32 dX7_restThirds_31 rfl rfl rfl ?_
      refine ev_bipush (v := 16) 34 dX7_restThirds_32 (by decide) rfl ?_
      refine ev_iload 36 dX7_restThirds_34 rfl rfl ?_
      refine ev_iadd 37 dX7_restThirds_36 rfl ?_
      obtain ⟨g23, h⟩ := rx_gd_o h
      refine ex_iald _ 38 dX7_restThirds_37 dk_32 g23 rfl rfl ?_
      refine ev_iload_n (i := 2) 39 dX7_restThirds_38 rfl rfl rfl ?_
      refine ev_icmp_ne 46 42 dX7_restThirds_39 rfl rfl (fun c24 => ?_) (fun c24 => ?_)
      · replace h := rx_if_f c24 h
        refine ev_iconst (v := 0) 47 dX7_restThirds_46 (by decide) rfl ?_
        refine ev_ior 48 dX7_restThirds_47 rfl ?_
        obtain ⟨x25, ex25, h⟩ := rx_let_o h
        refine ev_nm ex25 ?_
        refine ev_istore_n (ls' := [some (.ref 80), some (.ref 32), some (.int x15), some (.int x25), some (.int x17)]) 49 dX7_restThirds_48 rfl (Nat.le_of_ble_eq_true rfl) rfl rfl ?_
        obtain ⟨x26, ex26, h⟩ := rx_let_o h
        refine ev_iinc (v := x26) (ls' := [some (.ref 80), some (.ref 32), some (.int x15), some (.int x25), some (.int x26)]) 52 dX7_restThirds_49 rfl (by rw [ex26]; rfl) (Nat.le_of_ble_eq_true rfl) rfl rfl ?_
        refine ev_goto 18 dX7_restThirds_52 rfl ?_
        exact (ih _ _ _ _ h).fewer (rx_le_s (rx_le_s (rx_le_s (rx_le_s (rx_le_s rx_le_0)))))
      · replace h := rx_if_t c24 h
        refine ev_iconst (v := 1) 43 dX7_restThirds_42 (by decide) rfl ?_
        refine ev_goto 47 dX7_restThirds_43 rfl ?_
        refine ev_ior 48 dX7_restThirds_47 rfl ?_
        obtain ⟨x27, ex27, h⟩ := rx_let_o h
        refine ev_nm ex27 ?_
        refine ev_istore_n (ls' := [some (.ref 80), some (.ref 32), some (.int x15), some (.int x27), some (.int x17)]) 49 dX7_restThirds_48 rfl (Nat.le_of_ble_eq_true rfl) rfl rfl ?_
        obtain ⟨x28, ex28, h⟩ := rx_let_o h
        refine ev_iinc (v := x28) (ls' := [some (.ref 80), some (.ref 32), some (.int x15), some (.int x27), some (.int x28)]) 52 dX7_restThirds_49 rfl (by rw [ex28]; rfl) (Nat.le_of_ble_eq_true rfl) rfl rfl ?_
        refine ev_goto 18 dX7_restThirds_52 rfl ?_
        exact (ih _ _ _ _ h).fewer (rx_le_s (rx_le_s (rx_le_s (rx_le_s (rx_le_s rx_le_0)))))

set_option maxHeartbeats 4000000 in
set_option maxRecDepth 20000 in
theorem em_X7_restThirds_L2_32 {d N : Nat} {zr : Unit} {zS : rx_S} : ∀ (n : Nat) (x3 : Int32) (S4 : rx_S), f_X7_restThirds_L2 32 N n x3 S4 = some (zr, zS) → EV gC (d + 1) mX7_restThirds 2 [some (.ref 80), some (.ref 32), some (.int x3), none, none] [] S4 (rx_pv zS) := by
  intro n
  induction n with
  | zero => intro x3 S4 h; cases h
  | succ n ih =>
    intro x3 S4 h
    rw [f_X7_restThirds_L2] at h
    refine ev_iload_n (i := 2) 3 dX7_restThirds_2 rfl rfl rfl ?_
    refine ev_aload_n (i := 0) 4 dX7_restThirds_3 rfl rfl rfl ?_
    refine ev_get (v := .ref 2) 7 dX7_restThirds_4 dk_80 fl_7_9 (by decide) rfl rfl rfl ?_
    refine ev_get (v := .int (S4.1 2 8)) 10 dX7_restThirds_7 dk_2 fl_7_141 (by decide) rfl rfl rfl ?_
    refine ev_icmp_ge 83 13 dX7_restThirds_10 rfl rfl (fun c5 => ?_) (fun c5 => ?_)
    · replace h := rx_if_t c5 h
      exact ev_return dX7_restThirds_83 rfl (rx_ret_v h)
    · replace h := rx_if_f c5 h
      refine ev_iconst (v := 0) 14 dX7_restThirds_13 (by decide) rfl ?_
      refine ev_istore_n (ls' := [some (.ref 80), some (.ref 32), some (.int x3), some (.int 0), none]) 15 dX7_restThirds_14 rfl (Nat.le_of_ble_eq_true rfl) rfl rfl ?_
      refine ev_iconst (v := 0) 16 dX7_restThirds_15 (by decide) rfl ?_
      refine ev_istore (ls' := [some (.ref 80), some (.ref 32), some (.int x3), some (.int 0), some (.int 0)]) 18 dX7_restThirds_16 (Nat.le_of_ble_eq_true rfl) rfl rfl ?_
      obtain ⟨J55_1, eJ55_1, h⟩ := rx_let_o h
      have hJ55_1 : ∀ (x6 : Int32) (x7 : Int32) (S8 : rx_S), J55_1 x6 x7 S8 = some (zr, zS) → EV gC (d + 1) mX7_restThirds 55 [some (.ref 80), some (.ref 32), some (.int x6), some (.int x7), none] [] S8 (rx_pv zS) := by
        intro x6 x7 S8 h
        subst eJ55_1
        refine ev_iload_n (i := 3) 56 dX7_restThirds_55 rfl rfl rfl ?_
        refine ev_if_ne 77 59 dX7_restThirds_56 rfl rfl (fun c9 => ?_) (fun c9 => ?_)
        · replace h := rx_if_f c9 h
          obtain ⟨x10, ex10, h⟩ := rx_let_o h
          refine ev_iinc (v := x10) (ls' := [some (.ref 80), some (.ref 32), some (.int x10), some (.int x7), none]) 80 dX7_restThirds_77 rfl (by rw [ex10]; rfl) (Nat.le_of_ble_eq_true rfl) rfl rfl ?_
          refine ev_goto 2 dX7_restThirds_80 rfl ?_
          exact (ih _ _ h).fewer (rx_le_s (rx_le_s (rx_le_s (rx_le_n (rx_le_n rx_le_0)))))
        · replace h := rx_if_t c9 h
          refine ev_aload_n (i := 1) 60 dX7_restThirds_59 rfl rfl rfl ?_
          refine ev_bipush (v := 28) 62 dX7_restThirds_60 (by decide) rfl ?_
          refine ev_iload_n (i := 2) 63 dX7_restThirds_62 rfl rfl rfl ?_
          refine ev_iadd 64 dX7_restThirds_63 rfl ?_
          refine ev_iconst (v := 0) 65 dX7_restThirds_64 (by decide) rfl ?_
          refine ev_aload_n (i := 1) 66 dX7_restThirds_65 rfl rfl rfl ?_
          refine ev_bipush (v := 28) 68 dX7_restThirds_66 (by decide) rfl ?_
          refine ev_iload_n (i := 2) 69 dX7_restThirds_68 rfl rfl rfl ?_
          refine ev_iadd 70 dX7_restThirds_69 rfl ?_
          obtain ⟨g11, h⟩ := rx_gd_o h
          refine ex_iald _ 71 dX7_restThirds_70 dk_32 g11 rfl rfl ?_
          refine ev_iconst (v := 5) 72 dX7_restThirds_71 (by decide) rfl ?_
          refine ev_isub 73 dX7_restThirds_72 rfl ?_
          refine ev_max 76 dX7_restThirds_73 lk_7_138 w_max (Nat.le_of_ble_eq_true rfl) rfl ?_
          obtain ⟨g12, h⟩ := rx_gd_o h
          obtain ⟨S13, eS13, h⟩ := rx_let_o h
          refine ex_iast _ 77 dX7_restThirds_76 dk_32 g12 rfl rfl eS13 ?_
          obtain ⟨x14, ex14, h⟩ := rx_let_o h
          refine ev_iinc (v := x14) (ls' := [some (.ref 80), some (.ref 32), some (.int x14), some (.int x7), none]) 80 dX7_restThirds_77 rfl (by rw [ex14]; rfl) (Nat.le_of_ble_eq_true rfl) rfl rfl ?_
          refine ev_goto 2 dX7_restThirds_80 rfl ?_
          exact (ih _ _ h).fewer (rx_le_s (rx_le_s (rx_le_s (rx_le_n (rx_le_n rx_le_0)))))
      exact (em_X7_restThirds_L18_32 hJ55_1 _ _ _ _ _ h).fewer (rx_le_s (rx_le_s (rx_le_s (rx_le_s (rx_le_s rx_le_0)))))

set_option maxHeartbeats 4000000 in
set_option maxRecDepth 20000 in
theorem em_X7_restThirds_32 {d N : Nat} {S0 : rx_S} {zr : Unit} {zS : rx_S} (h : f_X7_restThirds 32 N S0 = some (zr, zS)) : EM gC (d + 1) mX7_restThirds [.ref 80, .ref 32] S0 (rx_pv zS) := by
  unfold f_X7_restThirds at h
  show EV gC (d + 1) mX7_restThirds 0 [some (.ref 80), some (.ref 32), none, none, none] [] S0 (rx_pv zS)
  refine ev_iconst (v := 0) 1 dX7_restThirds_0 (by decide) rfl ?_
  refine ev_istore_n (ls' := [some (.ref 80), some (.ref 32), some (.int 0), none, none]) 2 dX7_restThirds_1 rfl (Nat.le_of_ble_eq_true rfl) rfl rfl ?_
  exact (em_X7_restThirds_L2_32 _ _ _ h).fewer (rx_le_s (rx_le_s (rx_le_s (rx_le_n (rx_le_n rx_le_0)))))

set_option maxHeartbeats 4000000 in
set_option maxRecDepth 20000 in
theorem em_X7_restThirds_L18_89 {d N : Nat} {K55 : Int32 → Int32 → rx_S → Option (Unit × rx_S)} {zr : Unit} {zS : rx_S} (hK55 : ∀ (x19 : Int32) (x20 : Int32) (S21 : rx_S), K55 x19 x20 S21 = some (zr, zS) → EV gC (d + 1) mX7_restThirds 55 [some (.ref 80), some (.ref 89), some (.int x19), some (.int x20), none] [] S21 (rx_pv zS)) : ∀ (n : Nat) (x15 : Int32) (x16 : Int32) (x17 : Int32) (S18 : rx_S), f_X7_restThirds_L18 89 N K55 n x15 x16 x17 S18 = some (zr, zS) → EV gC (d + 1) mX7_restThirds 18 [some (.ref 80), some (.ref 89), some (.int x15), some (.int x16), some (.int x17)] [] S18 (rx_pv zS) := by
  intro n
  induction n with
  | zero => intro x15 x16 x17 S18 h; cases h
  | succ n ih =>
    intro x15 x16 x17 S18 h
    rw [f_X7_restThirds_L18] at h
    refine ev_iload 20 dX7_restThirds_18 rfl rfl ?_
    refine ev_aload_n (i := 0) 21 dX7_restThirds_20 rfl rfl rfl ?_
    refine ev_get (v := .ref 2) 24 dX7_restThirds_21 dk_80 fl_7_9 (by decide) rfl rfl rfl ?_
    refine ev_get (v := .int (S18.1 2 7)) 27 dX7_restThirds_24 dk_2 fl_7_87 (by decide) rfl rfl rfl ?_
    refine ev_icmp_ge 55 30 dX7_restThirds_27 rfl rfl (fun c22 => ?_) (fun c22 => ?_)
    · replace h := rx_if_t c22 h
      exact (hK55 _ _ _ h).fewer (rx_le_s (rx_le_s (rx_le_s (rx_le_s (rx_le_n rx_le_0)))))
    · replace h := rx_if_f c22 h
      refine ev_iload_n (i := 3) 31 dX7_restThirds_30 rfl rfl rfl ?_
      refine ev_aload_n (i := 1) 32 dX7_restThirds_31 rfl rfl rfl ?_
      refine ev_bipush (v := 16) 34 dX7_restThirds_32 (by decide) rfl ?_
      refine ev_iload 36 dX7_restThirds_34 rfl rfl ?_
      refine ev_iadd 37 dX7_restThirds_36 rfl ?_
      obtain ⟨g23, h⟩ := rx_gd_o h
      refine ex_iald _ 38 dX7_restThirds_37 dk_89 g23 rfl rfl ?_
      refine ev_iload_n (i := 2) 39 dX7_restThirds_38 rfl rfl rfl ?_
      refine ev_icmp_ne 46 42 dX7_restThirds_39 rfl rfl (fun c24 => ?_) (fun c24 => ?_)
      · replace h := rx_if_f c24 h
        refine ev_iconst (v := 0) 47 dX7_restThirds_46 (by decide) rfl ?_
        refine ev_ior 48 dX7_restThirds_47 rfl ?_
        obtain ⟨x25, ex25, h⟩ := rx_let_o h
        refine ev_nm ex25 ?_
        refine ev_istore_n (ls' := [some (.ref 80), some (.ref 89), some (.int x15), some (.int x25), some (.int x17)]) 49 dX7_restThirds_48 rfl (Nat.le_of_ble_eq_true rfl) rfl rfl ?_
        obtain ⟨x26, ex26, h⟩ := rx_let_o h
        refine ev_iinc (v := x26) (ls' := [some (.ref 80), some (.ref 89), some (.int x15), some (.int x25), some (.int x26)]) 52 dX7_restThirds_49 rfl (by rw [ex26]; rfl) (Nat.le_of_ble_eq_true rfl) rfl rfl ?_
        refine ev_goto 18 dX7_restThirds_52 rfl ?_
        exact (ih _ _ _ _ h).fewer (rx_le_s (rx_le_s (rx_le_s (rx_le_s (rx_le_s rx_le_0)))))
      · replace h := rx_if_t c24 h
        refine ev_iconst (v := 1) 43 dX7_restThirds_42 (by decide) rfl ?_
        refine ev_goto 47 dX7_restThirds_43 rfl ?_
        refine ev_ior 48 dX7_restThirds_47 rfl ?_
        obtain ⟨x27, ex27, h⟩ := rx_let_o h
        refine ev_nm ex27 ?_
        refine ev_istore_n (ls' := [some (.ref 80), some (.ref 89), some (.int x15), some (.int x27), some (.int x17)]) 49 dX7_restThirds_48 rfl (Nat.le_of_ble_eq_true rfl) rfl rfl ?_
        obtain ⟨x28, ex28, h⟩ := rx_let_o h
        refine ev_iinc (v := x28) (ls' := [some (.ref 80), some (.ref 89), some (.int x15), some (.int x27), some (.int x28)]) 52 dX7_restThirds_49 rfl (by rw [ex28]; rfl) (Nat.le_of_ble_eq_true rfl) rfl rfl ?_
        refine ev_goto 18 dX7_restThirds_52 rfl ?_
        exact (ih _ _ _ _ h).fewer (rx_le_s (rx_le_s (rx_le_s (rx_le_s (rx_le_s rx_le_0)))))

set_option maxHeartbeats 4000000 in
set_option maxRecDepth 20000 in
theorem em_X7_restThirds_L2_89 {d N : Nat} {zr : Unit} {zS : rx_S} : ∀ (n : Nat) (x3 : Int32) (S4 : rx_S), f_X7_restThirds_L2 89 N n x3 S4 = some (zr, zS) → EV gC (d + 1) mX7_restThirds 2 [some (.ref 80), some (.ref 89), some (.int x3), none, none] [] S4 (rx_pv zS) := by
  intro n
  induction n with
  | zero => intro x3 S4 h; cases h
  | succ n ih =>
    intro x3 S4 h
    rw [f_X7_restThirds_L2] at h
    refine ev_iload_n (i := 2) 3 dX7_restThirds_2 rfl rfl rfl ?_
    refine ev_aload_n (i := 0) 4 dX7_restThirds_3 rfl rfl rfl ?_
    refine ev_get (v := .ref 2) 7 dX7_restThirds_4 dk_80 fl_7_9 (by decide) rfl rfl rfl ?_
    refine ev_get (v := .int (S4.1 2 8)) 10 dX7_restThirds_7 dk_2 fl_7_141 (by decide) rfl rfl rfl ?_
    refine ev_icmp_ge 83 13 dX7_restThirds_10 rfl rfl (fun c5 => ?_) (fun c5 => ?_)
    · replace h := rx_if_t c5 h
      exact ev_return dX7_restThirds_83 rfl (rx_ret_v h)
    · replace h := rx_if_f c5 h
      refine ev_iconst (v := 0) 14 dX7_restThirds_13 (by decide) rfl ?_
      refine ev_istore_n (ls' := [some (.ref 80), some (.ref 89), some (.int x3), some (.int 0), none]) 15 dX7_restThirds_14 rfl (Nat.le_of_ble_eq_true rfl) rfl rfl ?_
      refine ev_iconst (v := 0) 16 dX7_restThirds_15 (by decide) rfl ?_
      refine ev_istore (ls' := [some (.ref 80), some (.ref 89), some (.int x3), some (.int 0), some (.int 0)]) 18 dX7_restThirds_16 (Nat.le_of_ble_eq_true rfl) rfl rfl ?_
      obtain ⟨J55_1, eJ55_1, h⟩ := rx_let_o h
      have hJ55_1 : ∀ (x6 : Int32) (x7 : Int32) (S8 : rx_S), J55_1 x6 x7 S8 = some (zr, zS) → EV gC (d + 1) mX7_restThirds 55 [some (.ref 80), some (.ref 89), some (.int x6), some (.int x7), none] [] S8 (rx_pv zS) := by
        intro x6 x7 S8 h
        subst eJ55_1
        refine ev_iload_n (i := 3) 56 dX7_restThirds_55 rfl rfl rfl ?_
        refine ev_if_ne 77 59 dX7_restThirds_56 rfl rfl (fun c9 => ?_) (fun c9 => ?_)
        · replace h := rx_if_f c9 h
          obtain ⟨x10, ex10, h⟩ := rx_let_o h
          refine ev_iinc (v := x10) (ls' := [some (.ref 80), some (.ref 89), some (.int x10), some (.int x7), none]) 80 dX7_restThirds_77 rfl (by rw [ex10]; rfl) (Nat.le_of_ble_eq_true rfl) rfl rfl ?_
          refine ev_goto 2 dX7_restThirds_80 rfl ?_
          exact (ih _ _ h).fewer (rx_le_s (rx_le_s (rx_le_s (rx_le_n (rx_le_n rx_le_0)))))
        · replace h := rx_if_t c9 h
          refine ev_aload_n (i := 1) 60 dX7_restThirds_59 rfl rfl rfl ?_
          refine ev_bipush (v := 28) 62 dX7_restThirds_60 (by decide) rfl ?_
          refine ev_iload_n (i := 2) 63 dX7_restThirds_62 rfl rfl rfl ?_
          refine ev_iadd 64 dX7_restThirds_63 rfl ?_
          refine ev_iconst (v := 0) 65 dX7_restThirds_64 (by decide) rfl ?_
          refine ev_aload_n (i := 1) 66 dX7_restThirds_65 rfl rfl rfl ?_
          refine ev_bipush (v := 28) 68 dX7_restThirds_66 (by decide) rfl ?_
          refine ev_iload_n (i := 2) 69 dX7_restThirds_68 rfl rfl rfl ?_
          refine ev_iadd 70 dX7_restThirds_69 rfl ?_
          obtain ⟨g11, h⟩ := rx_gd_o h
          refine ex_iald _ 71 dX7_restThirds_70 dk_89 g11 rfl rfl ?_
          refine ev_iconst (v := 5) 72 dX7_restThirds_71 (by decide) rfl ?_
          refine ev_isub 73 dX7_restThirds_72 rfl ?_
          refine ev_max 76 dX7_restThirds_73 lk_7_138 w_max (Nat.le_of_ble_eq_true rfl) rfl ?_
          obtain ⟨g12, h⟩ := rx_gd_o h
          obtain ⟨S13, eS13, h⟩ := rx_let_o h
          refine ex_iast _ 77 dX7_restThirds_76 dk_89 g12 rfl rfl eS13 ?_
          obtain ⟨x14, ex14, h⟩ := rx_let_o h
          refine ev_iinc (v := x14) (ls' := [some (.ref 80), some (.ref 89), some (.int x14), some (.int x7), none]) 80 dX7_restThirds_77 rfl (by rw [ex14]; rfl) (Nat.le_of_ble_eq_true rfl) rfl rfl ?_
          refine ev_goto 2 dX7_restThirds_80 rfl ?_
          exact (ih _ _ h).fewer (rx_le_s (rx_le_s (rx_le_s (rx_le_n (rx_le_n rx_le_0)))))
      exact (em_X7_restThirds_L18_89 hJ55_1 _ _ _ _ _ h).fewer (rx_le_s (rx_le_s (rx_le_s (rx_le_s (rx_le_s rx_le_0)))))

set_option maxHeartbeats 4000000 in
set_option maxRecDepth 20000 in
theorem em_X7_restThirds_89 {d N : Nat} {S0 : rx_S} {zr : Unit} {zS : rx_S} (h : f_X7_restThirds 89 N S0 = some (zr, zS)) : EM gC (d + 1) mX7_restThirds [.ref 80, .ref 89] S0 (rx_pv zS) := by
  unfold f_X7_restThirds at h
  show EV gC (d + 1) mX7_restThirds 0 [some (.ref 80), some (.ref 89), none, none, none] [] S0 (rx_pv zS)
  refine ev_iconst (v := 0) 1 dX7_restThirds_0 (by decide) rfl ?_
  refine ev_istore_n (ls' := [some (.ref 80), some (.ref 89), some (.int 0), none, none]) 2 dX7_restThirds_1 rfl (Nat.le_of_ble_eq_true rfl) rfl rfl ?_
  exact (em_X7_restThirds_L2_89 _ _ _ h).fewer (rx_le_s (rx_le_s (rx_le_s (rx_le_n (rx_le_n rx_le_0)))))

