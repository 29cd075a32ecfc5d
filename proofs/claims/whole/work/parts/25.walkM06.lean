def f_X11_alteredOf_L23 (N : Nat) (K204 : Int32 → Int32 → Int32 → Int32 → Int32 → rx_S → Option (Int32 × rx_S)) : Nat → Int32 → Int32 → Int32 → Int32 → Int32 → Int32 → rx_S → Option (Int32 × rx_S)
  | 0, _, _, _, _, _, _, _ => none
  | n + 1, x31, x32, x33, x34, x35, x36, S37 => if x34 < x36 then (K204 x31 x32 x33 x34 x35 S37) else (rx_let (fun (x45 : Int32) (x46 : Int32) (x47 : Int32) (x48 : Int32) (x49 : Int32) (x50 : Int32) (x51 : Int32) (S52 : rx_S) => rx_let (fun (x53 : Int32) (x54 : Int32) (x55 : Int32) (x56 : Int32) (x57 : Int32) (x58 : Int32) (x59 : Int32) (S60 : rx_S) => rx_gd (((6 : Int32) * x57) + x58) 36 (rx_let (rx_ui S60 130 (Int32.toNatClampNeg (((6 : Int32) * x57) + x58)) x59) (fun S62 => rx_let (x58 + 1) (fun x63 => f_X11_alteredOf_L23 N K204 n x53 x54 x55 x56 x57 x63 S62)))) (fun J183_4 => if x49 ≤ 0 then (J183_4 x45 x46 x47 x48 x49 x50 x51 S52) else (if x50 ≤ 0 then (J183_4 x45 x46 x47 x48 x49 x50 x51 S52) else (rx_gd ((((6 : Int32) * (x49 - 1)) + x50) - 1) 36 (rx_bd (f_X11_wordIn N x45 x47 (x49 - 1) S52) (fun x68 S67 => rx_bd (f_X11_wordIn N x46 x48 (x50 - 1) S67) (fun x71 S70 => rx_let (fun (x73 : Int32) (x74 : Int32) (x75 : Int32) (x76 : Int32) (x77 : Int32) (x78 : Int32) (x79 : Int32) (x80 : Int32) (S81 : rx_S) => rx_let (x79 + x80) (fun x82 => rx_gd (((6 : Int32) * (x77 - 1)) + x78) 36 (rx_let (fun (x84 : Int32) (x85 : Int32) (x86 : Int32) (x87 : Int32) (x88 : Int32) (x89 : Int32) (x90 : Int32) (S91 : rx_S) => rx_gd ((((6 : Int32) * x88) + x89) - 1) 36 (if x90 ≤ ((S91.1 130 (Int32.toNatClampNeg ((((6 : Int32) * x88) + x89) - 1))) + 1) then (J183_4 x84 x85 x86 x87 x88 x89 x90 S91) else (rx_gd ((((6 : Int32) * x88) + x89) - 1) 36 (rx_let ((S91.1 130 (Int32.toNatClampNeg ((((6 : Int32) * x88) + x89) - 1))) + 1) (fun x95 => J183_4 x84 x85 x86 x87 x88 x89 x95 S91))))) (fun J142_6 => if x82 ≤ ((S81.1 130 (Int32.toNatClampNeg (((6 : Int32) * (x77 - 1)) + x78))) + 1) then (J142_6 x73 x74 x75 x76 x77 x78 x82 S81) else (rx_gd (((6 : Int32) * (x77 - 1)) + x78) 36 (rx_let ((S81.1 130 (Int32.toNatClampNeg (((6 : Int32) * (x77 - 1)) + x78))) + 1) (fun x98 => J142_6 x73 x74 x75 x76 x77 x78 x98 S81))))))) (fun J98_5 => if x68 = x71 then (J98_5 x45 x46 x47 x48 x49 x50 (S52.1 130 (Int32.toNatClampNeg ((((6 : Int32) * (x49 - 1)) + x50) - 1))) 0 S70) else (J98_5 x45 x46 x47 x48 x49 x50 (S52.1 130 (Int32.toNatClampNeg ((((6 : Int32) * (x49 - 1)) + x50) - 1))) 1 S70))))))))) (fun J42_3 => if x35 = 0 then (J42_3 x31 x32 x33 x34 x35 x36 x36 S37) else (J42_3 x31 x32 x33 x34 x35 x36 x35 S37)))
def f_X11_alteredOf_L14 (N : Nat) (K210 : Int32 → Int32 → rx_S → Option (Int32 × rx_S)) : Nat → Int32 → Int32 → Int32 → Int32 → Int32 → rx_S → Option (Int32 × rx_S)
  | 0, _, _, _, _, _, _ => none
  | n + 1, x14, x15, x16, x17, x18, S19 => if x16 < x18 then (K210 x16 x17 S19) else (rx_let (fun (x24 : Int32) (x25 : Int32) (x26 : Int32) (x27 : Int32) (x28 : Int32) (S29 : rx_S) => rx_let (x28 + 1) (fun x30 => f_X11_alteredOf_L14 N K210 n x24 x25 x26 x27 x30 S29)) (fun J204_2 => f_X11_alteredOf_L23 N J204_2 N x14 x15 x16 x17 x18 0 S19))
def f_X11_alteredOf (N : Nat) (x1 : Int32) (x2 : Int32) (S0 : rx_S) : Option (Int32 × rx_S) := rx_bd (f_X11_wordsIn N x1 S0) (fun x5 S4 => rx_bd (f_X11_wordsIn N x2 S4) (fun x8 S7 => rx_let (fun (x10 : Int32) (x11 : Int32) (S12 : rx_S) => rx_gd (((6 : Int32) * x10) + x11) 36 (some ((S12.1 130 (Int32.toNatClampNeg (((6 : Int32) * x10) + x11))), S12))) (fun J210_1 => f_X11_alteredOf_L14 N J210_1 N x1 x2 x5 x8 0 S7)))
set_option maxHeartbeats 4000000 in
set_option maxRecDepth 20000 in
theorem em_X11_alteredOf_L23 {d N : Nat} {K204 : Int32 → Int32 → Int32 → Int32 → Int32 → rx_S → Option (Int32 × rx_S)} {zr : Int32} {zS : rx_S} (hK204 : ∀ (x38 : Int32) (x39 : Int32) (x40 : Int32) (x41 : Int32) (x42 : Int32) (S43 : rx_S), K204 x38 x39 x40 x41 x42 S43 = some (zr, zS) → EV gM (d + 2) mX11_alteredOf 204 [some (.ref 94), some (.int x38), some (.int x39), some (.int x40), some (.int x41), some (.int x42), none, none] [] S43 (rx_pi zr zS)) : ∀ (n : Nat) (x31 : Int32) (x32 : Int32) (x33 : Int32) (x34 : Int32) (x35 : Int32) (x36 : Int32) (S37 : rx_S), f_X11_alteredOf_L23 N K204 n x31 x32 x33 x34 x35 x36 S37 = some (zr, zS) → EV gM (d + 2) mX11_alteredOf 23 [some (.ref 94), some (.int x31), some (.int x32), some (.int x33), some (.int x34), some (.int x35), some (.int x36), none] [] S37 (rx_pi zr zS) := by
  intro n
  induction n with
  | zero => intro x31 x32 x33 x34 x35 x36 S37 h; cases h
  | succ n ih =>
    intro x31 x32 x33 x34 x35 x36 S37 h
    rw [f_X11_alteredOf_L23] at h
    refine ev_iload 25 dX11_alteredOf_23 rfl rfl ?_
    refine ev_iload 27 dX11_alteredOf_25 rfl rfl ?_
    refine ev_icmp_gt 204 30 dX11_alteredOf_27 rfl rfl (fun c44 => ?_) (fun c44 => ?_)
    · replace h := rx_if_t c44 h
      exact (hK204 _ _ _ _ _ _ h).fewer (rx_le_s (rx_le_s (rx_le_s (rx_le_s (rx_le_s (rx_le_s (rx_le_n (rx_le_n rx_le_0))))))))
    · replace h := rx_if_f c44 h
      refine ev_iload 32 dX11_alteredOf_30 rfl rfl ?_
      obtain ⟨J42_3, eJ42_3, h⟩ := rx_let_o h
      have hJ42_3 : ∀ (x45 : Int32) (x46 : Int32) (x47 : Int32) (x48 : Int32) (x49 : Int32) (x50 : Int32) (x51 : Int32) (S52 : rx_S), J42_3 x45 x46 x47 x48 x49 x50 x51 S52 = some (zr, zS) → EV gM (d + 2) mX11_alteredOf 42 [some (.ref 94), some (.int x45), some (.int x46), some (.int x47), some (.int x48), some (.int x49), some (.int x50), none] [.int x51] S52 (rx_pi zr zS) := by
        intro x45 x46 x47 x48 x49 x50 x51 S52 h
        subst eJ42_3
        refine ev_istore (ls' := [some (.ref 94), some (.int x45), some (.int x46), some (.int x47), some (.int x48), some (.int x49), some (.int x50), some (.int x51)]) 44 dX11_alteredOf_42 (Nat.le_of_ble_eq_true rfl) rfl rfl ?_
        refine ev_iload 46 dX11_alteredOf_44 rfl rfl ?_
        obtain ⟨J183_4, eJ183_4, h⟩ := rx_let_o h
        have hJ183_4 : ∀ (x53 : Int32) (x54 : Int32) (x55 : Int32) (x56 : Int32) (x57 : Int32) (x58 : Int32) (x59 : Int32) (S60 : rx_S), J183_4 x53 x54 x55 x56 x57 x58 x59 S60 = some (zr, zS) → EV gM (d + 2) mX11_alteredOf 183 [some (.ref 94), some (.int x53), some (.int x54), some (.int x55), some (.int x56), some (.int x57), some (.int x58), some (.int x59)] [] S60 (rx_pi zr zS) := by
          intro x53 x54 x55 x56 x57 x58 x59 S60 h
          subst eJ183_4
          refine ev_aload_n (i := 0) 184 dX11_alteredOf_183 rfl rfl rfl ?_
          refine ev_get (v := .ref 130) 187 dX11_alteredOf_184 dk_94 fl_11_125 (by decide) rfl rfl rfl ?_
          refine ev_bipush (v := 6) 189 dX11_alteredOf_187 (by decide) rfl ?_
          refine ev_iload 191 dX11_alteredOf_189 rfl rfl ?_
          refine ev_imul 192 dX11_alteredOf_191 rfl ?_
          refine ev_iload 194 dX11_alteredOf_192 rfl rfl ?_
          refine ev_iadd 195 dX11_alteredOf_194 rfl ?_
          refine ev_iload 197 dX11_alteredOf_195 rfl rfl ?_
          obtain ⟨g61, h⟩ := rx_gd_o h
          obtain ⟨S62, eS62, h⟩ := rx_let_o h
          refine ex_iast _ 198 dX11_alteredOf_197 dk_130 g61 rfl rfl eS62 ?_
          obtain ⟨x63, ex63, h⟩ := rx_let_o h
          refine ev_iinc (v := x63) (ls' := [some (.ref 94), some (.int x53), some (.int x54), some (.int x55), some (.int x56), some (.int x57), some (.int x63), some (.int x59)]) 201 dX11_alteredOf_198 rfl (by rw [ex63]; rfl) (Nat.le_of_ble_eq_true rfl) rfl rfl ?_
          refine ev_goto 23 dX11_alteredOf_201 rfl ?_
          exact (ih _ _ _ _ _ _ _ h).fewer (rx_le_s (rx_le_s (rx_le_s (rx_le_s (rx_le_s (rx_le_s (rx_le_s (rx_le_n rx_le_0))))))))
        refine ev_if_le 183 49 dX11_alteredOf_46 rfl rfl (fun c64 => ?_) (fun c64 => ?_)
        · replace h := rx_if_t c64 h
          exact (hJ183_4 _ _ _ _ _ _ _ _ h).fewer (rx_le_s (rx_le_s (rx_le_s (rx_le_s (rx_le_s (rx_le_s (rx_le_s (rx_le_s rx_le_0))))))))
        · replace h := rx_if_f c64 h
          refine ev_iload 51 dX11_alteredOf_49 rfl rfl ?_
          refine ev_if_le 183 54 dX11_alteredOf_51 rfl rfl (fun c65 => ?_) (fun c65 => ?_)
          · replace h := rx_if_t c65 h
            exact (hJ183_4 _ _ _ _ _ _ _ _ h).fewer (rx_le_s (rx_le_s (rx_le_s (rx_le_s (rx_le_s (rx_le_s (rx_le_s (rx_le_s rx_le_0))))))))
          · replace h := rx_if_f c65 h
            refine ev_aload_n (i := 0) 55 dX11_alteredOf_54 rfl rfl rfl ?_
            refine ev_get (v := .ref 130) 58 dX11_alteredOf_55 dk_94 fl_11_125 (by decide) rfl rfl rfl ?_
            refine ev_bipush (v := 6) 60 dX11_alteredOf_58 (by decide) rfl ?_
            refine ev_iload 62 dX11_alteredOf_60 rfl rfl ?_
            refine ev_iconst (v := 1) 63 dX11_alteredOf_62 (by decide) rfl ?_
            refine ev_isub 64 dX11_alteredOf_63 rfl ?_
            refine ev_imul 65 dX11_alteredOf_64 rfl ?_
            refine ev_iload 67 dX11_alteredOf_65 rfl rfl ?_
            refine ev_iadd 68 dX11_alteredOf_67 rfl ?_
            refine ev_iconst (v := 1) 69 dX11_alteredOf_68 (by decide) rfl ?_
            refine ev_isub 70 dX11_alteredOf_69 rfl ?_
            obtain ⟨g66, h⟩ := rx_gd_o h
            refine ex_iald _ 71 dX11_alteredOf_70 dk_130 g66 rfl rfl ?_
            refine ev_iload_n (i := 1) 72 dX11_alteredOf_71 rfl rfl rfl ?_
            refine ev_iload_n (i := 3) 73 dX11_alteredOf_72 rfl rfl rfl ?_
            refine ev_iload 75 dX11_alteredOf_73 rfl rfl ?_
            refine ev_iconst (v := 1) 76 dX11_alteredOf_75 (by decide) rfl ?_
            refine ev_isub 77 dX11_alteredOf_76 rfl ?_
            obtain ⟨x68, S67, g69, h⟩ := rx_bd_o h
            refine ev_cSi3 80 dX11_alteredOf_77 (em_X11_wordIn g69) mm_X11_wordIn ms_X11_wordIn lk_11_354 (Nat.le_of_ble_eq_true rfl) (Nat.le_of_ble_eq_true rfl) rfl ?_
            refine ev_iload_n (i := 2) 81 dX11_alteredOf_80 rfl rfl rfl ?_
            refine ev_iload 83 dX11_alteredOf_81 rfl rfl ?_
            refine ev_iload 85 dX11_alteredOf_83 rfl rfl ?_
            refine ev_iconst (v := 1) 86 dX11_alteredOf_85 (by decide) rfl ?_
            refine ev_isub 87 dX11_alteredOf_86 rfl ?_
            obtain ⟨x71, S70, g72, h⟩ := rx_bd_o h
            refine ev_cSi3 90 dX11_alteredOf_87 (em_X11_wordIn g72) mm_X11_wordIn ms_X11_wordIn lk_11_354 (Nat.le_of_ble_eq_true rfl) (Nat.le_of_ble_eq_true rfl) rfl ?_
            obtain ⟨J98_5, eJ98_5, h⟩ := rx_let_o h
            have hJ98_5 : ∀ (x73 : Int32) (x74 : Int32) (x75 : Int32) (x76 : Int32) (x77 : Int32) (x78 : Int32) (x79 : Int32) (x80 : Int32) (S81 : rx_S), J98_5 x73 x74 x75 x76 x77 x78 x79 x80 S81 = some (zr, zS) → EV gM (d + 2) mX11_alteredOf 98 [some (.ref 94), some (.int x73), some (.int x74), some (.int x75), some (.int x76), some (.int x77), some (.int x78), none] [.int x80, .int x79] S81 (rx_pi zr zS) := by
              intro x73 x74 x75 x76 x77 x78 x79 x80 S81 h
              subst eJ98_5
              refine ev_iadd 99 dX11_alteredOf_98 rfl ?_
              obtain ⟨x82, ex82, h⟩ := rx_let_o h
              refine ev_nm ex82 ?_
              refine ev_istore (ls' := [some (.ref 94), some (.int x73), some (.int x74), some (.int x75), some (.int x76), some (.int x77), some (.int x78), some (.int x82)]) 101 dX11_alteredOf_99 (Nat.le_of_ble_eq_true rfl) rfl rfl ?_
              refine ev_aload_n (i := 0) 102 dX11_alteredOf_101 rfl rfl rfl ?_
              refine ev_get (v := .ref 130) 105 dX11_alteredOf_102 dk_94 fl_11_125 (by decide) rfl rfl rfl ?_
              refine ev_bipush (v := 6) 107 dX11_alteredOf_105 (by decide) rfl ?_
              refine ev_iload 109 dX11_alteredOf_107 rfl rfl ?_
              refine ev_iconst (v := 1) 110 dX11_alteredOf_109 (by decide) rfl ?_
              refine ev_isub 111 dX11_alteredOf_110 rfl ?_
              refine ev_imul 112 dX11_alteredOf_111 rfl ?_
              refine ev_iload 114 dX11_alteredOf_112 rfl rfl ?_
              refine ev_iadd 115 dX11_alteredOf_114 rfl ?_
              obtain ⟨g83, h⟩ := rx_gd_o h
              refine ex_iald _ 116 dX11_alteredOf_115 dk_130 g83 rfl rfl ?_
              refine ev_iconst (v := 1) 117 dX11_alteredOf_116 (by decide) rfl ?_
              refine ev_iadd 118 dX11_alteredOf_117 rfl ?_
              refine ev_iload 120 dX11_alteredOf_118 rfl rfl ?_
              obtain ⟨J142_6, eJ142_6, h⟩ := rx_let_o h
              have hJ142_6 : ∀ (x84 : Int32) (x85 : Int32) (x86 : Int32) (x87 : Int32) (x88 : Int32) (x89 : Int32) (x90 : Int32) (S91 : rx_S), J142_6 x84 x85 x86 x87 x88 x89 x90 S91 = some (zr, zS) → EV gM (d + 2) mX11_alteredOf 142 [some (.ref 94), some (.int x84), some (.int x85), some (.int x86), some (.int x87), some (.int x88), some (.int x89), some (.int x90)] [] S91 (rx_pi zr zS) := by
                intro x84 x85 x86 x87 x88 x89 x90 S91 h
                subst eJ142_6
                refine ev_aload_n (i := 0) 143 dX11_alteredOf_142 rfl rfl rfl ?_
                refine ev_get (v := .ref 130) 146 dX11_alteredOf_143 dk_94 fl_11_125 (by decide) rfl rfl rfl ?_
                refine ev_bipush (v := 6) 148 dX11_alteredOf_146 (by decide) rfl ?_
                refine ev_iload 150 dX11_alteredOf_148 rfl rfl ?_
                refine ev_imul 151 dX11_alteredOf_150 rfl ?_
                refine ev_iload 153 dX11_alteredOf_151 rfl rfl ?_
                refine ev_iadd 154 dX11_alteredOf_153 rfl ?_
                refine ev_iconst (v := 1) 155 dX11_alteredOf_154 (by decide) rfl ?_
                refine ev_isub 156 dX11_alteredOf_155 rfl ?_
                obtain ⟨g92, h⟩ := rx_gd_o h
                refine ex_iald _ 157 dX11_alteredOf_156 dk_130 g92 rfl rfl ?_
                refine ev_iconst (v := 1) 158 dX11_alteredOf_157 (by decide) rfl ?_
                refine ev_iadd 159 dX11_alteredOf_158 rfl ?_
                refine ev_iload 161 dX11_alteredOf_159 rfl rfl ?_
                refine ev_icmp_ge 183 164 dX11_alteredOf_161 rfl rfl (fun c93 => ?_) (fun c93 => ?_)
                · replace h := rx_if_t c93 h
                  exact (hJ183_4 _ _ _ _ _ _ _ _ h).fewer (rx_le_s (rx_le_s (rx_le_s (rx_le_s (rx_le_s (rx_le_s (rx_le_s (rx_le_s rx_le_0))))))))
                · replace h := rx_if_f c93 h
                  refine ev_aload_n (i := 0) 165 dX11_alteredOf_164 rfl rfl rfl ?_
                  refine ev_get (v := .ref 130) 168 dX11_alteredOf_165 dk_94 fl_11_125 (by decide) rfl rfl rfl ?_
                  refine ev_bipush (v := 6) 170 dX11_alteredOf_168 (by decide) rfl ?_
                  refine ev_iload 172 dX11_alteredOf_170 rfl rfl ?_
                  refine ev_imul 173 dX11_alteredOf_172 rfl ?_
                  refine ev_iload 175 dX11_alteredOf_173 rfl rfl ?_
                  refine ev_iadd 176 dX11_alteredOf_175 rfl ?_
                  refine ev_iconst (v := 1) 177 dX11_alteredOf_176 (by decide) rfl ?_
                  refine ev_isub 178 dX11_alteredOf_177 rfl ?_
                  obtain ⟨g94, h⟩ := rx_gd_o h
                  refine ex_iald _ 179 dX11_alteredOf_178 dk_130 g94 rfl rfl ?_
                  refine ev_iconst (v := 1) 180 dX11_alteredOf_179 (by decide) rfl ?_
                  refine ev_iadd 181 dX11_alteredOf_180 rfl ?_
                  obtain ⟨x95, ex95, h⟩ := rx_let_o h
                  refine ev_nm ex95 ?_
                  refine ev_istore (ls' := [some (.ref 94), some (.int x84), some (.int x85), some (.int x86), some (.int x87), some (.int x88), some (.int x89), some (.int x95)]) 183 dX11_alteredOf_181 (Nat.le_of_ble_eq_true rfl) rfl rfl ?_
                  exact (hJ183_4 _ _ _ _ _ _ _ _ h).fewer (rx_le_s (rx_le_s (rx_le_s (rx_le_s (rx_le_s (rx_le_s (rx_le_s (rx_le_s rx_le_0))))))))
              refine ev_icmp_ge 142 123 dX11_alteredOf_120 rfl rfl (fun c96 => ?_) (fun c96 => ?_)
              · replace h := rx_if_t c96 h
                exact (hJ142_6 _ _ _ _ _ _ _ _ h).fewer (rx_le_s (rx_le_s (rx_le_s (rx_le_s (rx_le_s (rx_le_s (rx_le_s (rx_le_s rx_le_0))))))))
              · replace h := rx_if_f c96 h
                refine ev_aload_n (i := 0) 124 dX11_alteredOf_123 rfl rfl rfl ?_
                refine ev_get (v := .ref 130) 127 dX11_alteredOf_124 dk_94 fl_11_125 (by decide) rfl rfl rfl ?_
                refine ev_bipush (v := 6) 129 dX11_alteredOf_127 (by decide) rfl ?_
                refine ev_iload 131 dX11_alteredOf_129 rfl rfl ?_
                refine ev_iconst (v := 1) 132 dX11_alteredOf_131 (by decide) rfl ?_
                refine ev_isub 133 dX11_alteredOf_132 rfl ?_
                refine ev_imul 134 dX11_alteredOf_133 rfl ?_
                refine ev_iload 136 dX11_alteredOf_134 rfl rfl ?_
                refine ev_iadd 137 dX11_alteredOf_136 rfl ?_
                obtain ⟨g97, h⟩ := rx_gd_o h
                refine ex_iald _ 138 dX11_alteredOf_137 dk_130 g97 rfl rfl ?_
                refine ev_iconst (v := 1) 139 dX11_alteredOf_138 (by decide) rfl ?_
                refine ev_iadd 140 dX11_alteredOf_139 rfl ?_
                obtain ⟨x98, ex98, h⟩ := rx_let_o h
                refine ev_nm ex98 ?_
                refine ev_istore (ls' := [some (.ref 94), some (.int x73), some (.int x74), some (.int x75), some (.int x76), some (.int x77), some (.int x78), some (.int x98)]) 142 dX11_alteredOf_140 (Nat.le_of_ble_eq_true rfl) rfl rfl ?_
                exact (hJ142_6 _ _ _ _ _ _ _ _ h).fewer (rx_le_s (rx_le_s (rx_le_s (rx_le_s (rx_le_s (rx_le_s (rx_le_s (rx_le_s rx_le_0))))))))
            refine ev_icmp_ne 97 93 dX11_alteredOf_90 rfl rfl (fun c99 => ?_) (fun c99 => ?_)
            · replace h := rx_if_f c99 h
              refine ev_iconst (v := 1) 98 dX11_alteredOf_97 (by decide) rfl ?_
              exact (hJ98_5 _ _ _ _ _ _ _ _ _ h).fewer (rx_le_s (rx_le_s (rx_le_s (rx_le_s (rx_le_s (rx_le_s (rx_le_s (rx_le_n rx_le_0))))))))
            · replace h := rx_if_t c99 h
              refine ev_iconst (v := 0) 94 dX11_alteredOf_93 (by decide) rfl ?_
              refine ev_goto 98 dX11_alteredOf_94 rfl ?_
              exact (hJ98_5 _ _ _ _ _ _ _ _ _ h).fewer (rx_le_s (rx_le_s (rx_le_s (rx_le_s (rx_le_s (rx_le_s (rx_le_s (rx_le_n rx_le_0))))))))
      refine ev_if_ne 40 35 dX11_alteredOf_32 rfl rfl (fun c100 => ?_) (fun c100 => ?_)
      · replace h := rx_if_f c100 h
        refine ev_iload 42 dX11_alteredOf_40 rfl rfl ?_
        exact (hJ42_3 _ _ _ _ _ _ _ _ h).fewer (rx_le_s (rx_le_s (rx_le_s (rx_le_s (rx_le_s (rx_le_s (rx_le_s (rx_le_n rx_le_0))))))))
      · replace h := rx_if_t c100 h
        refine ev_iload 37 dX11_alteredOf_35 rfl rfl ?_
        refine ev_goto 42 dX11_alteredOf_37 rfl ?_
        exact (hJ42_3 _ _ _ _ _ _ _ _ h).fewer (rx_le_s (rx_le_s (rx_le_s (rx_le_s (rx_le_s (rx_le_s (rx_le_s (rx_le_n rx_le_0))))))))

set_option maxHeartbeats 4000000 in
set_option maxRecDepth 20000 in
theorem em_X11_alteredOf_L14 {d N : Nat} {K210 : Int32 → Int32 → rx_S → Option (Int32 × rx_S)} {zr : Int32} {zS : rx_S} (hK210 : ∀ (x20 : Int32) (x21 : Int32) (S22 : rx_S), K210 x20 x21 S22 = some (zr, zS) → EV gM (d + 2) mX11_alteredOf 210 [some (.ref 94), none, none, some (.int x20), some (.int x21), none, none, none] [] S22 (rx_pi zr zS)) : ∀ (n : Nat) (x14 : Int32) (x15 : Int32) (x16 : Int32) (x17 : Int32) (x18 : Int32) (S19 : rx_S), f_X11_alteredOf_L14 N K210 n x14 x15 x16 x17 x18 S19 = some (zr, zS) → EV gM (d + 2) mX11_alteredOf 14 [some (.ref 94), some (.int x14), some (.int x15), some (.int x16), some (.int x17), some (.int x18), none, none] [] S19 (rx_pi zr zS) := by
  intro n
  induction n with
  | zero => intro x14 x15 x16 x17 x18 S19 h; cases h
  | succ n ih =>
    intro x14 x15 x16 x17 x18 S19 h
    rw [f_X11_alteredOf_L14] at h
    refine ev_iload 16 dX11_alteredOf_14 rfl rfl ?_
    refine ev_iload_n (i := 3) 17 dX11_alteredOf_16 rfl rfl rfl ?_
    refine ev_icmp_gt 210 20 dX11_alteredOf_17 rfl rfl (fun c23 => ?_) (fun c23 => ?_)
    · replace h := rx_if_t c23 h
      exact (hK210 _ _ _ h).fewer (rx_le_s (rx_le_n (rx_le_n (rx_le_s (rx_le_s (rx_le_n (rx_le_n (rx_le_n rx_le_0))))))))
    · replace h := rx_if_f c23 h
      refine ev_iconst (v := 0) 21 dX11_alteredOf_20 (by decide) rfl ?_
      refine ev_istore (ls' := [some (.ref 94), some (.int x14), some (.int x15), some (.int x16), some (.int x17), some (.int x18), some (.int 0), none]) 23 dX11_alteredOf_21 (Nat.le_of_ble_eq_true rfl) rfl rfl ?_
      obtain ⟨J204_2, eJ204_2, h⟩ := rx_let_o h
      have hJ204_2 : ∀ (x24 : Int32) (x25 : Int32) (x26 : Int32) (x27 : Int32) (x28 : Int32) (S29 : rx_S), J204_2 x24 x25 x26 x27 x28 S29 = some (zr, zS) → EV gM (d + 2) mX11_alteredOf 204 [some (.ref 94), some (.int x24), some (.int x25), some (.int x26), some (.int x27), some (.int x28), none, none] [] S29 (rx_pi zr zS) := by
        intro x24 x25 x26 x27 x28 S29 h
        subst eJ204_2
        obtain ⟨x30, ex30, h⟩ := rx_let_o h
        refine ev_iinc (v := x30) (ls' := [some (.ref 94), some (.int x24), some (.int x25), some (.int x26), some (.int x27), some (.int x30), none, none]) 207 dX11_alteredOf_204 rfl (by rw [ex30]; rfl) (Nat.le_of_ble_eq_true rfl) rfl rfl ?_
        refine ev_goto 14 dX11_alteredOf_207 rfl ?_
        exact (ih _ _ _ _ _ _ h).fewer (rx_le_s (rx_le_s (rx_le_s (rx_le_s (rx_le_s (rx_le_s (rx_le_n (rx_le_n rx_le_0))))))))
      exact (em_X11_alteredOf_L23 hJ204_2 _ _ _ _ _ _ _ _ h).fewer (rx_le_s (rx_le_s (rx_le_s (rx_le_s (rx_le_s (rx_le_s (rx_le_s (rx_le_n rx_le_0))))))))

set_option maxHeartbeats 4000000 in
set_option maxRecDepth 20000 in
theorem em_X11_alteredOf {d N : Nat} {x1 : Int32} {x2 : Int32} {S0 : rx_S} {zr : Int32} {zS : rx_S} (h : f_X11_alteredOf N x1 x2 S0 = some (zr, zS)) : EM gM (d + 2) mX11_alteredOf [.ref 94, .int x1, .int x2] S0 (rx_pi zr zS) := by
  unfold f_X11_alteredOf at h
  show EV gM (d + 2) mX11_alteredOf 0 [some (.ref 94), some (.int x1), some (.int x2), none, none, none, none, none] [] S0 (rx_pi zr zS)
  refine ev_iload_n (i := 1) 1 dX11_alteredOf_0 rfl rfl rfl ?_
  obtain ⟨x5, S4, g6, h⟩ := rx_bd_o h
  refine ev_cSi1 4 dX11_alteredOf_1 (em_X11_wordsIn g6) mm_X11_wordsIn ms_X11_wordsIn lk_11_351 (Nat.le_of_ble_eq_true rfl) (Nat.le_of_ble_eq_true rfl) rfl ?_
  refine ev_istore_n (ls' := [some (.ref 94), some (.int x1), some (.int x2), some (.int x5), none, none, none, none]) 5 dX11_alteredOf_4 rfl (Nat.le_of_ble_eq_true rfl) rfl rfl ?_
  refine ev_iload_n (i := 2) 6 dX11_alteredOf_5 rfl rfl rfl ?_
  obtain ⟨x8, S7, g9, h⟩ := rx_bd_o h
  refine ev_cSi1 9 dX11_alteredOf_6 (em_X11_wordsIn g9) mm_X11_wordsIn ms_X11_wordsIn lk_11_351 (Nat.le_of_ble_eq_true rfl) (Nat.le_of_ble_eq_true rfl) rfl ?_
  refine ev_istore (ls' := [some (.ref 94), some (.int x1), some (.int x2), some (.int x5), some (.int x8), none, none, none]) 11 dX11_alteredOf_9 (Nat.le_of_ble_eq_true rfl) rfl rfl ?_
  refine ev_iconst (v := 0) 12 dX11_alteredOf_11 (by decide) rfl ?_
  refine ev_istore (ls' := [some (.ref 94), some (.int x1), some (.int x2), some (.int x5), some (.int x8), some (.int 0), none, none]) 14 dX11_alteredOf_12 (Nat.le_of_ble_eq_true rfl) rfl rfl ?_
  obtain ⟨J210_1, eJ210_1, h⟩ := rx_let_o h
  have hJ210_1 : ∀ (x10 : Int32) (x11 : Int32) (S12 : rx_S), J210_1 x10 x11 S12 = some (zr, zS) → EV gM (d + 2) mX11_alteredOf 210 [some (.ref 94), none, none, some (.int x10), some (.int x11), none, none, none] [] S12 (rx_pi zr zS) := by
    intro x10 x11 S12 h
    subst eJ210_1
    refine ev_aload_n (i := 0) 211 dX11_alteredOf_210 rfl rfl rfl ?_
    refine ev_get (v := .ref 130) 214 dX11_alteredOf_211 dk_94 fl_11_125 (by decide) rfl rfl rfl ?_
    refine ev_bipush (v := 6) 216 dX11_alteredOf_214 (by decide) rfl ?_
    refine ev_iload_n (i := 3) 217 dX11_alteredOf_216 rfl rfl rfl ?_
    refine ev_imul 218 dX11_alteredOf_217 rfl ?_
    refine ev_iload 220 dX11_alteredOf_218 rfl rfl ?_
    refine ev_iadd 221 dX11_alteredOf_220 rfl ?_
    obtain ⟨g13, h⟩ := rx_gd_o h
    refine ex_iald _ 222 dX11_alteredOf_221 dk_130 g13 rfl rfl ?_
    exact ev_ireturn dX11_alteredOf_222 rfl (rx_ret_i h)
  exact (em_X11_alteredOf_L14 hJ210_1 _ _ _ _ _ _ _ h).fewer (rx_le_s (rx_le_s (rx_le_s (rx_le_s (rx_le_s (rx_le_s (rx_le_n (rx_le_n rx_le_0))))))))

def f_X11_losesBy (N : Nat) (x1 : Int32) (x2 : Int32) (x3 : Int32) (S0 : rx_S) : Option (Int32 × rx_S) := rx_bd (f_X11_putBy N x1 x3 (-1) S0) (fun x6 S5 => rx_bd (f_X11_putBy N x2 x6 (-1) S5) (fun x9 S8 => rx_bd (f_X11_alteredOf N x3 x9 S8) (fun x12 S11 => some (x12, S11))))
set_option maxHeartbeats 4000000 in
set_option maxRecDepth 20000 in
theorem em_X11_losesBy {d N : Nat} {x1 : Int32} {x2 : Int32} {x3 : Int32} {S0 : rx_S} {zr : Int32} {zS : rx_S} (h : f_X11_losesBy N x1 x2 x3 S0 = some (zr, zS)) : EM gM (d + 5) mX11_losesBy [.ref 94, .int x1, .int x2, .int x3] S0 (rx_pi zr zS) := by
  unfold f_X11_losesBy at h
  show EV gM (d + 5) mX11_losesBy 0 [some (.ref 94), some (.int x1), some (.int x2), some (.int x3)] [] S0 (rx_pi zr zS)
  refine ev_aload_n (i := 0) 1 dX11_losesBy_0 rfl rfl rfl ?_
  refine ev_iload_n (i := 3) 2 dX11_losesBy_1 rfl rfl rfl ?_
  refine ev_aload_n (i := 0) 3 dX11_losesBy_2 rfl rfl rfl ?_
  refine ev_iload_n (i := 2) 4 dX11_losesBy_3 rfl rfl rfl ?_
  refine ev_aload_n (i := 0) 5 dX11_losesBy_4 rfl rfl rfl ?_
  refine ev_iload_n (i := 1) 6 dX11_losesBy_5 rfl rfl rfl ?_
  refine ev_iload_n (i := 3) 7 dX11_losesBy_6 rfl rfl rfl ?_
  refine ev_iconst (v := (-1)) 8 dX11_losesBy_7 (by decide) rfl ?_
  obtain ⟨x6, S5, g7, h⟩ := rx_bd_o h
  refine ev_cVi3 11 dX11_losesBy_8 (em_X11_putBy g7) mm_X11_putBy mv_X11_putBy lk_11_375 dk_94 (by decide) rfl (Nat.le_of_ble_eq_true rfl) (Nat.le_of_ble_eq_true rfl) rfl ?_
  refine ev_iconst (v := (-1)) 12 dX11_losesBy_11 (by decide) rfl ?_
  obtain ⟨x9, S8, g10, h⟩ := rx_bd_o h
  refine ev_cVi3 15 dX11_losesBy_12 (em_X11_putBy g10) mm_X11_putBy mv_X11_putBy lk_11_375 dk_94 (by decide) rfl (Nat.le_of_ble_eq_true rfl) (Nat.le_of_ble_eq_true rfl) rfl ?_
  obtain ⟨x12, S11, g13, h⟩ := rx_bd_o h
  refine ev_cVi2 18 dX11_losesBy_15 (em_X11_alteredOf g13) mm_X11_alteredOf mv_X11_alteredOf lk_11_421 dk_94 (by decide) rfl (Nat.le_of_ble_eq_true rfl) (Nat.le_of_ble_eq_true rfl) rfl ?_
  exact ev_ireturn dX11_losesBy_18 rfl (rx_ret_i h)

def f_X11_loses (N : Nat) (x1 : Int32) (x2 : Int32) (x3 : Int32) (S0 : rx_S) : Option (Int32 × rx_S) := rx_bd (f_X11_isThird x1 S0) (fun x6 S5 => if x6 = 0 then (some ((-1), S5)) else (rx_bd (f_X11_isThird x2 S5) (fun x10 S9 => if x10 = 0 then (some ((-1), S9)) else (rx_bd (f_X11_isRow N x3 S9) (fun x14 S13 => if x14 = 0 then (some ((-1), S13)) else (rx_bd (f_X11_copies N S13) (fun x18 S17 => rx_bd (f_X11_losesBy N x1 x2 x3 S17) (fun x21 S20 => some (x21, S20)))))))))
set_option maxHeartbeats 4000000 in
set_option maxRecDepth 20000 in
theorem em_X11_loses {d N : Nat} {x1 : Int32} {x2 : Int32} {x3 : Int32} {S0 : rx_S} {zr : Int32} {zS : rx_S} (h : f_X11_loses N x1 x2 x3 S0 = some (zr, zS)) : EM gM (d + 6) mX11_loses [.ref 94, .int x1, .int x2, .int x3] S0 (rx_pi zr zS) := by
  unfold f_X11_loses at h
  show EV gM (d + 6) mX11_loses 0 [some (.ref 94), some (.int x1), some (.int x2), some (.int x3)] [] S0 (rx_pi zr zS)
  refine ev_aload_n (i := 0) 1 dX11_loses_0 rfl rfl rfl ?_
  refine ev_iload_n (i := 1) 2 dX11_loses_1 rfl rfl rfl ?_
  obtain ⟨x6, S5, g7, h⟩ := rx_bd_o h
  refine ev_cVi1 5 dX11_loses_2 (em_X11_isThird g7) mm_X11_isThird mv_X11_isThird lk_11_402 dk_94 (by decide) rfl (Nat.le_of_ble_eq_true rfl) (Nat.le_of_ble_eq_true rfl) rfl ?_
  refine ev_if_eq 23 8 dX11_loses_5 rfl rfl (fun c8 => ?_) (fun c8 => ?_)
  · replace h := rx_if_t c8 h
    refine ev_iconst (v := (-1)) 24 dX11_loses_23 (by decide) rfl ?_
    exact ev_ireturn dX11_loses_24 rfl (rx_ret_i h)
  · replace h := rx_if_f c8 h
    refine ev_aload_n (i := 0) 9 dX11_loses_8 rfl rfl rfl ?_
    refine ev_iload_n (i := 2) 10 dX11_loses_9 rfl rfl rfl ?_
    obtain ⟨x10, S9, g11, h⟩ := rx_bd_o h
    refine ev_cVi1 13 dX11_loses_10 (em_X11_isThird g11) mm_X11_isThird mv_X11_isThird lk_11_402 dk_94 (by decide) rfl (Nat.le_of_ble_eq_true rfl) (Nat.le_of_ble_eq_true rfl) rfl ?_
    refine ev_if_eq 23 16 dX11_loses_13 rfl rfl (fun c12 => ?_) (fun c12 => ?_)
    · replace h := rx_if_t c12 h
      refine ev_iconst (v := (-1)) 24 dX11_loses_23 (by decide) rfl ?_
      exact ev_ireturn dX11_loses_24 rfl (rx_ret_i h)
    · replace h := rx_if_f c12 h
      refine ev_iload_n (i := 3) 17 dX11_loses_16 rfl rfl rfl ?_
      obtain ⟨x14, S13, g15, h⟩ := rx_bd_o h
      refine ev_cSi1 20 dX11_loses_17 (em_X11_isRow g15) mm_X11_isRow ms_X11_isRow lk_11_412 (Nat.le_of_ble_eq_true rfl) (Nat.le_of_ble_eq_true rfl) rfl ?_
      refine ev_if_ne 25 23 dX11_loses_20 rfl rfl (fun c16 => ?_) (fun c16 => ?_)
      · replace h := rx_if_f c16 h
        refine ev_aload_n (i := 0) 26 dX11_loses_25 rfl rfl rfl ?_
        obtain ⟨x18, S17, g19, h⟩ := rx_bd_o h
        refine ev_cVv0 29 dX11_loses_26 (em_X11_copies g19) mm_X11_copies mv_X11_copies lk_11_396 dk_94 (by decide) rfl (Nat.le_of_ble_eq_true rfl) (Nat.le_of_ble_eq_true rfl) rfl ?_
        refine ev_aload_n (i := 0) 30 dX11_loses_29 rfl rfl rfl ?_
        refine ev_iload_n (i := 1) 31 dX11_loses_30 rfl rfl rfl ?_
        refine ev_iload_n (i := 2) 32 dX11_loses_31 rfl rfl rfl ?_
        refine ev_iload_n (i := 3) 33 dX11_loses_32 rfl rfl rfl ?_
        obtain ⟨x21, S20, g22, h⟩ := rx_bd_o h
        refine ev_cVi3 36 dX11_loses_33 (em_X11_losesBy g22) mm_X11_losesBy mv_X11_losesBy lk_11_424 dk_94 (by decide) rfl (Nat.le_of_ble_eq_true rfl) (Nat.le_of_ble_eq_true rfl) rfl ?_
        exact ev_ireturn dX11_loses_36 rfl (rx_ret_i h)
      · replace h := rx_if_t c16 h
        refine ev_iconst (v := (-1)) 24 dX11_loses_23 (by decide) rfl ?_
        exact ev_ireturn dX11_loses_24 rfl (rx_ret_i h)

def f_X11_least_L38 (N : Nat) (K94 : Int32 → Int32 → Int32 → Int32 → rx_S → Option (Int32 × rx_S)) : Nat → Int32 → Int32 → Int32 → Int32 → Int32 → rx_S → Option (Int32 × rx_S)
  | 0, _, _, _, _, _, _ => none
  | n + 1, x23, x24, x25, x26, x27, S28 => rx_gd (S28.1 94 18) 2 (if (S28.1 109 (Int32.toNatClampNeg (S28.1 94 18))) ≤ x27 then (K94 x23 x24 x25 x26 S28) else (rx_bd (f_X11_losesBy N x26 x27 x23 S28) (fun x37 S36 => rx_let (fun (x39 : Int32) (x40 : Int32) (x41 : Int32) (x42 : Int32) (S43 : rx_S) => rx_let (((10 : Int32) * x40) + x41) (fun x44 => rx_let (x41 + 1) (fun x45 => f_X11_least_L38 N K94 n x39 x44 x42 x40 x45 S43))) (fun J76_2 => if x24 < 0 then (J76_2 x23 x26 x27 x37 S36) else (if x37 < x25 then (J76_2 x23 x26 x27 x37 S36) else (rx_let (x27 + 1) (fun x48 => f_X11_least_L38 N K94 n x23 x24 x25 x26 x48 S36)))))))
def f_X11_least_L21 (N : Nat) : Nat → Int32 → Int32 → Int32 → Int32 → rx_S → Option (Int32 × rx_S)
  | 0, _, _, _, _, _ => none
  | n + 1, x10, x11, x12, x13, S14 => rx_gd (S14.1 94 18) 2 (if (S14.1 109 (Int32.toNatClampNeg (S14.1 94 18))) ≤ x13 then (some (x11, S14)) else (rx_let (fun (x17 : Int32) (x18 : Int32) (x19 : Int32) (x20 : Int32) (S21 : rx_S) => rx_let (x20 + 1) (fun x22 => f_X11_least_L21 N n x17 x18 x19 x22 S21)) (fun J94_1 => f_X11_least_L38 N J94_1 N x10 x11 x12 x13 0 S14)))
def f_X11_least (N : Nat) (x1 : Int32) (S0 : rx_S) : Option (Int32 × rx_S) := rx_bd (f_X11_isRow N x1 S0) (fun x4 S3 => if x4 = 0 then (some ((-1), S3)) else (rx_bd (f_X11_copies N S3) (fun x8 S7 => f_X11_least_L21 N N x1 (-2) 0 0 S7)))
set_option maxHeartbeats 4000000 in
set_option maxRecDepth 20000 in
theorem em_X11_least_L38 {d N : Nat} {K94 : Int32 → Int32 → Int32 → Int32 → rx_S → Option (Int32 × rx_S)} {zr : Int32} {zS : rx_S} (hK94 : ∀ (x29 : Int32) (x30 : Int32) (x31 : Int32) (x32 : Int32) (S33 : rx_S), K94 x29 x30 x31 x32 S33 = some (zr, zS) → EV gM (d + 6) mX11_least 94 [some (.ref 94), some (.int x29), some (.int x30), some (.int x31), some (.int x32), none, none] [] S33 (rx_pi zr zS)) : ∀ (n : Nat) (x23 : Int32) (x24 : Int32) (x25 : Int32) (x26 : Int32) (x27 : Int32) (S28 : rx_S), f_X11_least_L38 N K94 n x23 x24 x25 x26 x27 S28 = some (zr, zS) → EV gM (d + 6) mX11_least 38 [some (.ref 94), some (.int x23), some (.int x24), some (.int x25), some (.int x26), some (.int x27), none] [] S28 (rx_pi zr zS) := by
  intro n
  induction n with
  | zero => intro x23 x24 x25 x26 x27 S28 h; cases h
  | succ n ih =>
    intro x23 x24 x25 x26 x27 S28 h
    rw [f_X11_least_L38] at h
    refine ev_iload 40 dX11_least_38 rfl rfl ?_
    refine ev_aload_n (i := 0) 41 dX11_least_40 rfl rfl rfl ?_
    refine ev_get (v := .ref 109) 44 dX11_least_41 dk_94 fl_11_61 (by decide) rfl rfl rfl ?_
    refine ev_aload_n (i := 0) 45 dX11_least_44 rfl rfl rfl ?_
    refine ev_get (v := .int (S28.1 94 18)) 48 dX11_least_45 dk_94 fl_11_233 (by decide) rfl rfl rfl ?_
    obtain ⟨g34, h⟩ := rx_gd_o h
    refine ex_iald _ 49 dX11_least_48 dk_109 g34 rfl rfl ?_
    refine ev_icmp_ge 94 52 dX11_least_49 rfl rfl (fun c35 => ?_) (fun c35 => ?_)
    · replace h := rx_if_t c35 h
      exact (hK94 _ _ _ _ _ h).fewer (rx_le_s (rx_le_s (rx_le_s (rx_le_s (rx_le_s (rx_le_n (rx_le_n rx_le_0)))))))
    · replace h := rx_if_f c35 h
      refine ev_aload_n (i := 0) 53 dX11_least_52 rfl rfl rfl ?_
      refine ev_iload 55 dX11_least_53 rfl rfl ?_
      refine ev_iload 57 dX11_least_55 rfl rfl ?_
      refine ev_iload_n (i := 1) 58 dX11_least_57 rfl rfl rfl ?_
      obtain ⟨x37, S36, g38, h⟩ := rx_bd_o h
      refine ev_cVi3 61 dX11_least_58 (em_X11_losesBy g38) mm_X11_losesBy mv_X11_losesBy lk_11_424 dk_94 (by decide) rfl (Nat.le_of_ble_eq_true rfl) (Nat.le_of_ble_eq_true rfl) rfl ?_
      refine ev_istore (ls' := [some (.ref 94), some (.int x23), some (.int x24), some (.int x25), some (.int x26), some (.int x27), some (.int x37)]) 63 dX11_least_61 (Nat.le_of_ble_eq_true rfl) rfl rfl ?_
      refine ev_iload_n (i := 2) 64 dX11_least_63 rfl rfl rfl ?_
      obtain ⟨J76_2, eJ76_2, h⟩ := rx_let_o h
      have hJ76_2 : ∀ (x39 : Int32) (x40 : Int32) (x41 : Int32) (x42 : Int32) (S43 : rx_S), J76_2 x39 x40 x41 x42 S43 = some (zr, zS) → EV gM (d + 6) mX11_least 76 [some (.ref 94), some (.int x39), none, none, some (.int x40), some (.int x41), some (.int x42)] [] S43 (rx_pi zr zS) := by
        intro x39 x40 x41 x42 S43 h
        subst eJ76_2
        refine ev_bipush (v := 10) 78 dX11_least_76 (by decide) rfl ?_
        refine ev_iload 80 dX11_least_78 rfl rfl ?_
        refine ev_imul 81 dX11_least_80 rfl ?_
        refine ev_iload 83 dX11_least_81 rfl rfl ?_
        refine ev_iadd 84 dX11_least_83 rfl ?_
        obtain ⟨x44, ex44, h⟩ := rx_let_o h
        refine ev_nm ex44 ?_
        refine ev_istore_n (ls' := [some (.ref 94), some (.int x39), some (.int x44), none, some (.int x40), some (.int x41), some (.int x42)]) 85 dX11_least_84 rfl (Nat.le_of_ble_eq_true rfl) rfl rfl ?_
        refine ev_iload 87 dX11_least_85 rfl rfl ?_
        refine ev_istore_n (ls' := [some (.ref 94), some (.int x39), some (.int x44), some (.int x42), some (.int x40), some (.int x41), some (.int x42)]) 88 dX11_least_87 rfl (Nat.le_of_ble_eq_true rfl) rfl rfl ?_
        obtain ⟨x45, ex45, h⟩ := rx_let_o h
        refine ev_iinc (v := x45) (ls' := [some (.ref 94), some (.int x39), some (.int x44), some (.int x42), some (.int x40), some (.int x45), some (.int x42)]) 91 dX11_least_88 rfl (by rw [ex45]; rfl) (Nat.le_of_ble_eq_true rfl) rfl rfl ?_
        refine ev_goto 38 dX11_least_91 rfl ?_
        exact (ih _ _ _ _ _ _ h).fewer (rx_le_s (rx_le_s (rx_le_s (rx_le_s (rx_le_s (rx_le_s (rx_le_n rx_le_0)))))))
      refine ev_if_lt 76 67 dX11_least_64 rfl rfl (fun c46 => ?_) (fun c46 => ?_)
      · replace h := rx_if_t c46 h
        exact (hJ76_2 _ _ _ _ _ h).fewer (rx_le_s (rx_le_s (rx_le_n (rx_le_n (rx_le_s (rx_le_s (rx_le_s rx_le_0)))))))
      · replace h := rx_if_f c46 h
        refine ev_iload 69 dX11_least_67 rfl rfl ?_
        refine ev_iload_n (i := 3) 70 dX11_least_69 rfl rfl rfl ?_
        refine ev_icmp_lt 76 73 dX11_least_70 rfl rfl (fun c47 => ?_) (fun c47 => ?_)
        · replace h := rx_if_t c47 h
          exact (hJ76_2 _ _ _ _ _ h).fewer (rx_le_s (rx_le_s (rx_le_n (rx_le_n (rx_le_s (rx_le_s (rx_le_s rx_le_0)))))))
        · replace h := rx_if_f c47 h
          refine ev_goto 88 dX11_least_73 rfl ?_
          obtain ⟨x48, ex48, h⟩ := rx_let_o h
          refine ev_iinc (v := x48) (ls' := [some (.ref 94), some (.int x23), some (.int x24), some (.int x25), some (.int x26), some (.int x48), some (.int x37)]) 91 dX11_least_88 rfl (by rw [ex48]; rfl) (Nat.le_of_ble_eq_true rfl) rfl rfl ?_
          refine ev_goto 38 dX11_least_91 rfl ?_
          exact (ih _ _ _ _ _ _ h).fewer (rx_le_s (rx_le_s (rx_le_s (rx_le_s (rx_le_s (rx_le_s (rx_le_n rx_le_0)))))))

set_option maxHeartbeats 4000000 in
set_option maxRecDepth 20000 in
theorem em_X11_least_L21 {d N : Nat} {zr : Int32} {zS : rx_S} : ∀ (n : Nat) (x10 : Int32) (x11 : Int32) (x12 : Int32) (x13 : Int32) (S14 : rx_S), f_X11_least_L21 N n x10 x11 x12 x13 S14 = some (zr, zS) → EV gM (d + 6) mX11_least 21 [some (.ref 94), some (.int x10), some (.int x11), some (.int x12), some (.int x13), none, none] [] S14 (rx_pi zr zS) := by
  intro n
  induction n with
  | zero => intro x10 x11 x12 x13 S14 h; cases h
  | succ n ih =>
    intro x10 x11 x12 x13 S14 h
    rw [f_X11_least_L21] at h
    refine ev_iload 23 dX11_least_21 rfl rfl ?_
    refine ev_aload_n (i := 0) 24 dX11_least_23 rfl rfl rfl ?_
    refine ev_get (v := .ref 109) 27 dX11_least_24 dk_94 fl_11_61 (by decide) rfl rfl rfl ?_
    refine ev_aload_n (i := 0) 28 dX11_least_27 rfl rfl rfl ?_
    refine ev_get (v := .int (S14.1 94 18)) 31 dX11_least_28 dk_94 fl_11_233 (by decide) rfl rfl rfl ?_
    obtain ⟨g15, h⟩ := rx_gd_o h
    refine ex_iald _ 32 dX11_least_31 dk_109 g15 rfl rfl ?_
    refine ev_icmp_ge 100 35 dX11_least_32 rfl rfl (fun c16 => ?_) (fun c16 => ?_)
    · replace h := rx_if_t c16 h
      refine ev_iload_n (i := 2) 101 dX11_least_100 rfl rfl rfl ?_
      exact ev_ireturn dX11_least_101 rfl (rx_ret_i h)
    · replace h := rx_if_f c16 h
      refine ev_iconst (v := 0) 36 dX11_least_35 (by decide) rfl ?_
      refine ev_istore (ls' := [some (.ref 94), some (.int x10), some (.int x11), some (.int x12), some (.int x13), some (.int 0), none]) 38 dX11_least_36 (Nat.le_of_ble_eq_true rfl) rfl rfl ?_
      obtain ⟨J94_1, eJ94_1, h⟩ := rx_let_o h
      have hJ94_1 : ∀ (x17 : Int32) (x18 : Int32) (x19 : Int32) (x20 : Int32) (S21 : rx_S), J94_1 x17 x18 x19 x20 S21 = some (zr, zS) → EV gM (d + 6) mX11_least 94 [some (.ref 94), some (.int x17), some (.int x18), some (.int x19), some (.int x20), none, none] [] S21 (rx_pi zr zS) := by
        intro x17 x18 x19 x20 S21 h
        subst eJ94_1
        obtain ⟨x22, ex22, h⟩ := rx_let_o h
        refine ev_iinc (v := x22) (ls' := [some (.ref 94), some (.int x17), some (.int x18), some (.int x19), some (.int x22), none, none]) 97 dX11_least_94 rfl (by rw [ex22]; rfl) (Nat.le_of_ble_eq_true rfl) rfl rfl ?_
        refine ev_goto 21 dX11_least_97 rfl ?_
        exact (ih _ _ _ _ _ h).fewer (rx_le_s (rx_le_s (rx_le_s (rx_le_s (rx_le_s (rx_le_n (rx_le_n rx_le_0)))))))
      exact (em_X11_least_L38 hJ94_1 _ _ _ _ _ _ _ h).fewer (rx_le_s (rx_le_s (rx_le_s (rx_le_s (rx_le_s (rx_le_s (rx_le_n rx_le_0)))))))

set_option maxHeartbeats 4000000 in
set_option maxRecDepth 20000 in
theorem em_X11_least {d N : Nat} {x1 : Int32} {S0 : rx_S} {zr : Int32} {zS : rx_S} (h : f_X11_least N x1 S0 = some (zr, zS)) : EM gM (d + 6) mX11_least [.ref 94, .int x1] S0 (rx_pi zr zS) := by
  unfold f_X11_least at h
  show EV gM (d + 6) mX11_least 0 [some (.ref 94), some (.int x1), none, none, none, none, none] [] S0 (rx_pi zr zS)
  refine ev_iload_n (i := 1) 1 dX11_least_0 rfl rfl rfl ?_
  obtain ⟨x4, S3, g5, h⟩ := rx_bd_o h
  refine ev_cSi1 4 dX11_least_1 (em_X11_isRow g5) mm_X11_isRow ms_X11_isRow lk_11_412 (Nat.le_of_ble_eq_true rfl) (Nat.le_of_ble_eq_true rfl) rfl ?_
  refine ev_if_ne 9 7 dX11_least_4 rfl rfl (fun c6 => ?_) (fun c6 => ?_)
  · replace h := rx_if_f c6 h
    refine ev_aload_n (i := 0) 10 dX11_least_9 rfl rfl rfl ?_
    obtain ⟨x8, S7, g9, h⟩ := rx_bd_o h
    refine ev_cVv0 13 dX11_least_10 (em_X11_copies g9) mm_X11_copies mv_X11_copies lk_11_396 dk_94 (by decide) rfl (Nat.le_of_ble_eq_true rfl) (Nat.le_of_ble_eq_true rfl) rfl ?_
    refine ev_bipush (v := (-2)) 15 dX11_least_13 (by decide) rfl ?_
    refine ev_istore_n (ls' := [some (.ref 94), some (.int x1), some (.int (-2)), none, none, none, none]) 16 dX11_least_15 rfl (Nat.le_of_ble_eq_true rfl) rfl rfl ?_
    refine ev_iconst (v := 0) 17 dX11_least_16 (by decide) rfl ?_
    refine ev_istore_n (ls' := [some (.ref 94), some (.int x1), some (.int (-2)), some (.int 0), none, none, none]) 18 dX11_least_17 rfl (Nat.le_of_ble_eq_true rfl) rfl rfl ?_
    refine ev_iconst (v := 0) 19 dX11_least_18 (by decide) rfl ?_
    refine ev_istore (ls' := [some (.ref 94), some (.int x1), some (.int (-2)), some (.int 0), some (.int 0), none, none]) 21 dX11_least_19 (Nat.le_of_ble_eq_true rfl) rfl rfl ?_
    exact (em_X11_least_L21 _ _ _ _ _ _ h).fewer (rx_le_s (rx_le_s (rx_le_s (rx_le_s (rx_le_s (rx_le_n (rx_le_n rx_le_0)))))))
  · replace h := rx_if_t c6 h
    refine ev_iconst (v := (-1)) 8 dX11_least_7 (by decide) rfl ?_
    exact ev_ireturn dX11_least_8 rfl (rx_ret_i h)

def f_X11_truest_L21 (N : Nat) : Nat → Int32 → Int32 → Int32 → Int32 → rx_S → Option (Int32 × rx_S)
  | 0, _, _, _, _, _ => none
  | n + 1, x10, x11, x12, x13, S14 => rx_gd (S14.1 94 18) 2 (if (S14.1 109 (Int32.toNatClampNeg (S14.1 94 18))) ≤ x13 then (some (x11, S14)) else (rx_bd (f_X11_putBy N x13 x10 (-1) S14) (fun x18 S17 => rx_bd (f_X11_alteredOf N x10 x18 S17) (fun x21 S20 => rx_let (fun (x23 : Int32) (x24 : Int32) (x25 : Int32) (S26 : rx_S) => rx_let (x24 + 1) (fun x27 => f_X11_truest_L21 N n x23 x24 x25 x27 S26)) (fun J63_1 => if x11 < 0 then (J63_1 x10 x13 x21 S20) else (if x21 < x12 then (J63_1 x10 x13 x21 S20) else (rx_let (x13 + 1) (fun x30 => f_X11_truest_L21 N n x10 x11 x12 x30 S20))))))))
def f_X11_truest (N : Nat) (x1 : Int32) (S0 : rx_S) : Option (Int32 × rx_S) := rx_bd (f_X11_isRow N x1 S0) (fun x4 S3 => if x4 = 0 then (some ((-1), S3)) else (rx_bd (f_X11_copies N S3) (fun x8 S7 => f_X11_truest_L21 N N x1 (-2) 0 0 S7)))
set_option maxHeartbeats 4000000 in
set_option maxRecDepth 20000 in
theorem em_X11_truest_L21 {d N : Nat} {zr : Int32} {zS : rx_S} : ∀ (n : Nat) (x10 : Int32) (x11 : Int32) (x12 : Int32) (x13 : Int32) (S14 : rx_S), f_X11_truest_L21 N n x10 x11 x12 x13 S14 = some (zr, zS) → EV gM (d + 5) mX11_truest 21 [some (.ref 94), some (.int x10), some (.int x11), some (.int x12), some (.int x13), none] [] S14 (rx_pi zr zS) := by
  intro n
  induction n with
  | zero => intro x10 x11 x12 x13 S14 h; cases h
  | succ n ih =>
    intro x10 x11 x12 x13 S14 h
    rw [f_X11_truest_L21] at h
    refine ev_iload 23 dX11_truest_21 rfl rfl ?_
    refine ev_aload_n (i := 0) 24 dX11_truest_23 rfl rfl rfl ?_
    refine ev_get (v := .ref 109) 27 dX11_truest_24 dk_94 fl_11_61 (by decide) rfl rfl rfl ?_
    refine ev_aload_n (i := 0) 28 dX11_truest_27 rfl rfl rfl ?_
    refine ev_get (v := .int (S14.1 94 18)) 31 dX11_truest_28 dk_94 fl_11_233 (by decide) rfl rfl rfl ?_
    obtain ⟨g15, h⟩ := rx_gd_o h
    refine ex_iald _ 32 dX11_truest_31 dk_109 g15 rfl rfl ?_
    refine ev_icmp_ge 75 35 dX11_truest_32 rfl rfl (fun c16 => ?_) (fun c16 => ?_)
    · replace h := rx_if_t c16 h
      refine ev_iload_n (i := 2) 76 dX11_truest_75 rfl rfl rfl ?_
      exact ev_ireturn dX11_truest_76 rfl (rx_ret_i h)
    · replace h := rx_if_f c16 h
      refine ev_aload_n (i := 0) 36 dX11_truest_35 rfl rfl rfl ?_
      refine ev_iload_n (i := 1) 37 dX11_truest_36 rfl rfl rfl ?_
      refine ev_aload_n (i := 0) 38 dX11_truest_37 rfl rfl rfl ?_
      refine ev_iload 40 dX11_truest_38 rfl rfl ?_
      refine ev_iload_n (i := 1) 41 dX11_truest_40 rfl rfl rfl ?_
      refine ev_iconst (v := (-1)) 42 dX11_truest_41 (by decide) rfl ?_
      obtain ⟨x18, S17, g19, h⟩ := rx_bd_o h
      refine ev_cVi3 45 dX11_truest_42 (em_X11_putBy g19) mm_X11_putBy mv_X11_putBy lk_11_375 dk_94 (by decide) rfl (Nat.le_of_ble_eq_true rfl) (Nat.le_of_ble_eq_true rfl) rfl ?_
      obtain ⟨x21, S20, g22, h⟩ := rx_bd_o h
      refine ev_cVi2 48 dX11_truest_45 (em_X11_alteredOf g22) mm_X11_alteredOf mv_X11_alteredOf lk_11_421 dk_94 (by decide) rfl (Nat.le_of_ble_eq_true rfl) (Nat.le_of_ble_eq_true rfl) rfl ?_
      refine ev_istore (ls' := [some (.ref 94), some (.int x10), some (.int x11), some (.int x12), some (.int x13), some (.int x21)]) 50 dX11_truest_48 (Nat.le_of_ble_eq_true rfl) rfl rfl ?_
      refine ev_iload_n (i := 2) 51 dX11_truest_50 rfl rfl rfl ?_
      obtain ⟨J63_1, eJ63_1, h⟩ := rx_let_o h
      have hJ63_1 : ∀ (x23 : Int32) (x24 : Int32) (x25 : Int32) (S26 : rx_S), J63_1 x23 x24 x25 S26 = some (zr, zS) → EV gM (d + 5) mX11_truest 63 [some (.ref 94), some (.int x23), none, none, some (.int x24), some (.int x25)] [] S26 (rx_pi zr zS) := by
        intro x23 x24 x25 S26 h
        subst eJ63_1
        refine ev_iload 65 dX11_truest_63 rfl rfl ?_
        refine ev_istore_n (ls' := [some (.ref 94), some (.int x23), some (.int x24), none, some (.int x24), some (.int x25)]) 66 dX11_truest_65 rfl (Nat.le_of_ble_eq_true rfl) rfl rfl ?_
        refine ev_iload 68 dX11_truest_66 rfl rfl ?_
        refine ev_istore_n (ls' := [some (.ref 94), some (.int x23), some (.int x24), some (.int x25), some (.int x24), some (.int x25)]) 69 dX11_truest_68 rfl (Nat.le_of_ble_eq_true rfl) rfl rfl ?_
        obtain ⟨x27, ex27, h⟩ := rx_let_o h
        refine ev_iinc (v := x27) (ls' := [some (.ref 94), some (.int x23), some (.int x24), some (.int x25), some (.int x27), some (.int x25)]) 72 dX11_truest_69 rfl (by rw [ex27]; rfl) (Nat.le_of_ble_eq_true rfl) rfl rfl ?_
        refine ev_goto 21 dX11_truest_72 rfl ?_
        exact (ih _ _ _ _ _ h).fewer (rx_le_s (rx_le_s (rx_le_s (rx_le_s (rx_le_s (rx_le_n rx_le_0))))))
      refine ev_if_lt 63 54 dX11_truest_51 rfl rfl (fun c28 => ?_) (fun c28 => ?_)
      · replace h := rx_if_t c28 h
        exact (hJ63_1 _ _ _ _ h).fewer (rx_le_s (rx_le_s (rx_le_n (rx_le_n (rx_le_s (rx_le_s rx_le_0))))))
      · replace h := rx_if_f c28 h
        refine ev_iload 56 dX11_truest_54 rfl rfl ?_
        refine ev_iload_n (i := 3) 57 dX11_truest_56 rfl rfl rfl ?_
        refine ev_icmp_lt 63 60 dX11_truest_57 rfl rfl (fun c29 => ?_) (fun c29 => ?_)
        · replace h := rx_if_t c29 h
          exact (hJ63_1 _ _ _ _ h).fewer (rx_le_s (rx_le_s (rx_le_n (rx_le_n (rx_le_s (rx_le_s rx_le_0))))))
        · replace h := rx_if_f c29 h
          refine ev_goto 69 dX11_truest_60 rfl ?_
          obtain ⟨x30, ex30, h⟩ := rx_let_o h
          refine ev_iinc (v := x30) (ls' := [some (.ref 94), some (.int x10), some (.int x11), some (.int x12), some (.int x30), some (.int x21)]) 72 dX11_truest_69 rfl (by rw [ex30]; rfl) (Nat.le_of_ble_eq_true rfl) rfl rfl ?_
          refine ev_goto 21 dX11_truest_72 rfl ?_
          exact (ih _ _ _ _ _ h).fewer (rx_le_s (rx_le_s (rx_le_s (rx_le_s (rx_le_s (rx_le_n rx_le_0))))))

set_option maxHeartbeats 4000000 in
set_option maxRecDepth 20000 in
theorem em_X11_truest {d N : Nat} {x1 : Int32} {S0 : rx_S} {zr : Int32} {zS : rx_S} (h : f_X11_truest N x1 S0 = some (zr, zS)) : EM gM (d + 5) mX11_truest [.ref 94, .int x1] S0 (rx_pi zr zS) := by
  unfold f_X11_truest at h
  show EV gM (d + 5) mX11_truest 0 [some (.ref 94), some (.int x1), none, none, none, none] [] S0 (rx_pi zr zS)
  refine ev_iload_n (i := 1) 1 dX11_truest_0 rfl rfl rfl ?_
  obtain ⟨x4, S3, g5, h⟩ := rx_bd_o h
  refine ev_cSi1 4 dX11_truest_1 (em_X11_isRow g5) mm_X11_isRow ms_X11_isRow lk_11_412 (Nat.le_of_ble_eq_true rfl) (Nat.le_of_ble_eq_true rfl) rfl ?_
  refine ev_if_ne 9 7 dX11_truest_4 rfl rfl (fun c6 => ?_) (fun c6 => ?_)
  · replace h := rx_if_f c6 h
    refine ev_aload_n (i := 0) 10 dX11_truest_9 rfl rfl rfl ?_
    obtain ⟨x8, S7, g9, h⟩ := rx_bd_o h
    refine ev_cVv0 13 dX11_truest_10 (em_X11_copies g9) mm_X11_copies mv_X11_copies lk_11_396 dk_94 (by decide) rfl (Nat.le_of_ble_eq_true rfl) (Nat.le_of_ble_eq_true rfl) rfl ?_
    refine ev_bipush (v := (-2)) 15 dX11_truest_13 (by decide) rfl ?_
    refine ev_istore_n (ls' := [some (.ref 94), some (.int x1), some (.int (-2)), none, none, none]) 16 dX11_truest_15 rfl (Nat.le_of_ble_eq_true rfl) rfl rfl ?_
    refine ev_iconst (v := 0) 17 dX11_truest_16 (by decide) rfl ?_
    refine ev_istore_n (ls' := [some (.ref 94), some (.int x1), some (.int (-2)), some (.int 0), none, none]) 18 dX11_truest_17 rfl (Nat.le_of_ble_eq_true rfl) rfl rfl ?_
    refine ev_iconst (v := 0) 19 dX11_truest_18 (by decide) rfl ?_
    refine ev_istore (ls' := [some (.ref 94), some (.int x1), some (.int (-2)), some (.int 0), some (.int 0), none]) 21 dX11_truest_19 (Nat.le_of_ble_eq_true rfl) rfl rfl ?_
    exact (em_X11_truest_L21 _ _ _ _ _ _ h).fewer (rx_le_s (rx_le_s (rx_le_s (rx_le_s (rx_le_s (rx_le_n rx_le_0))))))
  · replace h := rx_if_t c6 h
    refine ev_iconst (v := (-1)) 8 dX11_truest_7 (by decide) rfl ?_
    exact ev_ireturn dX11_truest_8 rfl (rx_ret_i h)

def f_X11_crooked_L28 (N : Nat) : Nat → Int32 → Int32 → Int32 → Int32 → rx_S → Option (Int32 × rx_S)
  | 0, _, _, _, _, _ => none
  | n + 1, x15, x16, x17, x18, S19 => if (8 : Int32) ≤ x18 then (some (x17, S19)) else (rx_bd (f_X11_putAs N x15 x18 x16 S19) (fun x22 S21 => if x22 = x18 then (rx_let (x18 + 1) (fun x25 => f_X11_crooked_L28 N n x15 x16 x17 x25 S21)) else (rx_let (x17 + 1) (fun x26 => rx_let (x18 + 1) (fun x27 => f_X11_crooked_L28 N n x15 x16 x26 x27 S21)))))
def f_X11_crooked (N : Nat) (x1 : Int32) (x2 : Int32) (S0 : rx_S) : Option (Int32 × rx_S) := rx_bd (f_X11_isThird x1 S0) (fun x5 S4 => if x5 = 0 then (some ((-1), S4)) else (rx_bd (f_X11_in x2 0 4 S4) (fun x9 S8 => if x9 = 0 then (some ((-1), S8)) else (rx_bd (f_X11_copies N S8) (fun x13 S12 => f_X11_crooked_L28 N N x1 x2 0 0 S12)))))
set_option maxHeartbeats 4000000 in
set_option maxRecDepth 20000 in
theorem em_X11_crooked_L28 {d N : Nat} {zr : Int32} {zS : rx_S} : ∀ (n : Nat) (x15 : Int32) (x16 : Int32) (x17 : Int32) (x18 : Int32) (S19 : rx_S), f_X11_crooked_L28 N n x15 x16 x17 x18 S19 = some (zr, zS) → EV gM (d + 4) mX11_crooked 28 [some (.ref 94), some (.int x15), some (.int x16), some (.int x17), some (.int x18)] [] S19 (rx_pi zr zS) := by
  intro n
  induction n with
  | zero => intro x15 x16 x17 x18 S19 h; cases h
  | succ n ih =>
    intro x15 x16 x17 x18 S19 h
    rw [f_X11_crooked_L28] at h
    refine ev_iload 30 dX11_crooked_28 rfl rfl ?_
    refine ev_bipush (v := 8) 32 dX11_crooked_30 (by decide) rfl ?_
    refine ev_icmp_ge 57 35 dX11_crooked_32 rfl rfl (fun c20 => ?_) (fun c20 => ?_)
    · replace h := rx_if_t c20 h
      refine ev_iload_n (i := 3) 58 dX11_crooked_57 rfl rfl rfl ?_
      exact ev_ireturn dX11_crooked_58 rfl (rx_ret_i h)
    · replace h := rx_if_f c20 h
      refine ev_aload_n (i := 0) 36 dX11_crooked_35 rfl rfl rfl ?_
      refine ev_iload_n (i := 1) 37 dX11_crooked_36 rfl rfl rfl ?_
      refine ev_iload 39 dX11_crooked_37 rfl rfl ?_
      refine ev_iload_n (i := 2) 40 dX11_crooked_39 rfl rfl rfl ?_
      obtain ⟨x22, S21, g23, h⟩ := rx_bd_o h
      refine ev_cVi3 43 dX11_crooked_40 (em_X11_putAs g23) mm_X11_putAs mv_X11_putAs lk_11_357 dk_94 (by decide) rfl (Nat.le_of_ble_eq_true rfl) (Nat.le_of_ble_eq_true rfl) rfl ?_
      refine ev_iload 45 dX11_crooked_43 rfl rfl ?_
      refine ev_icmp_eq 51 48 dX11_crooked_45 rfl rfl (fun c24 => ?_) (fun c24 => ?_)
      · replace h := rx_if_t c24 h
        obtain ⟨x25, ex25, h⟩ := rx_let_o h
        refine ev_iinc (v := x25) (ls' := [some (.ref 94), some (.int x15), some (.int x16), some (.int x17), some (.int x25)]) 54 dX11_crooked_51 rfl (by rw [ex25]; rfl) (Nat.le_of_ble_eq_true rfl) rfl rfl ?_
        refine ev_goto 28 dX11_crooked_54 rfl ?_
        exact (ih _ _ _ _ _ h).fewer (rx_le_s (rx_le_s (rx_le_s (rx_le_s (rx_le_s rx_le_0)))))
      · replace h := rx_if_f c24 h
        obtain ⟨x26, ex26, h⟩ := rx_let_o h
        refine ev_iinc (v := x26) (ls' := [some (.ref 94), some (.int x15), some (.int x16), some (.int x26), some (.int x18)]) 51 dX11_crooked_48 rfl (by rw [ex26]; rfl) (Nat.le_of_ble_eq_true rfl) rfl rfl ?_
        obtain ⟨x27, ex27, h⟩ := rx_let_o h
        refine ev_iinc (v := x27) (ls' := [some (.ref 94), some (.int x15), some (.int x16), some (.int x26), some (.int x27)]) 54 dX11_crooked_51 rfl (by rw [ex27]; rfl) (Nat.le_of_ble_eq_true rfl) rfl rfl ?_
        refine ev_goto 28 dX11_crooked_54 rfl ?_
        exact (ih _ _ _ _ _ h).fewer (rx_le_s (rx_le_s (rx_le_s (rx_le_s (rx_le_s rx_le_0)))))

set_option maxHeartbeats 4000000 in
set_option maxRecDepth 20000 in
theorem em_X11_crooked {d N : Nat} {x1 : Int32} {x2 : Int32} {S0 : rx_S} {zr : Int32} {zS : rx_S} (h : f_X11_crooked N x1 x2 S0 = some (zr, zS)) : EM gM (d + 4) mX11_crooked [.ref 94, .int x1, .int x2] S0 (rx_pi zr zS) := by
  unfold f_X11_crooked at h
  show EV gM (d + 4) mX11_crooked 0 [some (.ref 94), some (.int x1), some (.int x2), none, none] [] S0 (rx_pi zr zS)
  refine ev_aload_n (i := 0) 1 dX11_crooked_0 rfl rfl rfl ?_
  refine ev_iload_n (i := 1) 2 dX11_crooked_1 rfl rfl rfl ?_
  obtain ⟨x5, S4, g6, h⟩ := rx_bd_o h
  refine ev_cVi1 5 dX11_crooked_2 (em_X11_isThird g6) mm_X11_isThird mv_X11_isThird lk_11_402 dk_94 (by decide) rfl (Nat.le_of_ble_eq_true rfl) (Nat.le_of_ble_eq_true rfl) rfl ?_
  refine ev_if_eq 17 8 dX11_crooked_5 rfl rfl (fun c7 => ?_) (fun c7 => ?_)
  · replace h := rx_if_t c7 h
    refine ev_iconst (v := (-1)) 18 dX11_crooked_17 (by decide) rfl ?_
    exact ev_ireturn dX11_crooked_18 rfl (rx_ret_i h)
  · replace h := rx_if_f c7 h
    refine ev_iload_n (i := 2) 9 dX11_crooked_8 rfl rfl rfl ?_
    refine ev_iconst (v := 0) 10 dX11_crooked_9 (by decide) rfl ?_
    refine ev_iconst (v := 4) 11 dX11_crooked_10 (by decide) rfl ?_
    obtain ⟨x9, S8, g10, h⟩ := rx_bd_o h
    refine ev_cSi3 14 dX11_crooked_11 (em_X11_in g10) mm_X11_in ms_X11_in lk_11_316 (Nat.le_of_ble_eq_true rfl) (Nat.le_of_ble_eq_true rfl) rfl ?_
    refine ev_if_ne 19 17 dX11_crooked_14 rfl rfl (fun c11 => ?_) (fun c11 => ?_)
    · replace h := rx_if_f c11 h
      refine ev_aload_n (i := 0) 20 dX11_crooked_19 rfl rfl rfl ?_
      obtain ⟨x13, S12, g14, h⟩ := rx_bd_o h
      refine ev_cVv0 23 dX11_crooked_20 (em_X11_copies g14) mm_X11_copies mv_X11_copies lk_11_396 dk_94 (by decide) rfl (Nat.le_of_ble_eq_true rfl) (Nat.le_of_ble_eq_true rfl) rfl ?_
      refine ev_iconst (v := 0) 24 dX11_crooked_23 (by decide) rfl ?_
      refine ev_istore_n (ls' := [some (.ref 94), some (.int x1), some (.int x2), some (.int 0), none]) 25 dX11_crooked_24 rfl (Nat.le_of_ble_eq_true rfl) rfl rfl ?_
      refine ev_iconst (v := 0) 26 dX11_crooked_25 (by decide) rfl ?_
      refine ev_istore (ls' := [some (.ref 94), some (.int x1), some (.int x2), some (.int 0), some (.int 0)]) 28 dX11_crooked_26 (Nat.le_of_ble_eq_true rfl) rfl rfl ?_
      exact (em_X11_crooked_L28 _ _ _ _ _ _ h).fewer (rx_le_s (rx_le_s (rx_le_s (rx_le_s (rx_le_s rx_le_0)))))
    · replace h := rx_if_t c11 h
      refine ev_iconst (v := (-1)) 18 dX11_crooked_17 (by decide) rfl ?_
      exact ev_ireturn dX11_crooked_18 rfl (rx_ret_i h)

def f_X11_altered (N : Nat) (x1 : Int32) (x2 : Int32) (S0 : rx_S) : Option (Int32 × rx_S) := rx_bd (f_X11_isRow N x1 S0) (fun x5 S4 => if x5 = 0 then (some ((-1), S4)) else (rx_bd (f_X11_isRow N x2 S4) (fun x9 S8 => if x9 = 0 then (some ((-1), S8)) else (rx_bd (f_X11_alteredOf N x1 x2 S8) (fun x13 S12 => some (x13, S12))))))
set_option maxHeartbeats 4000000 in
set_option maxRecDepth 20000 in
theorem em_X11_altered {d N : Nat} {x1 : Int32} {x2 : Int32} {S0 : rx_S} {zr : Int32} {zS : rx_S} (h : f_X11_altered N x1 x2 S0 = some (zr, zS)) : EM gM (d + 3) mX11_altered [.ref 94, .int x1, .int x2] S0 (rx_pi zr zS) := by
  unfold f_X11_altered at h
  show EV gM (d + 3) mX11_altered 0 [some (.ref 94), some (.int x1), some (.int x2)] [] S0 (rx_pi zr zS)
  refine ev_iload_n (i := 1) 1 dX11_altered_0 rfl rfl rfl ?_
  obtain ⟨x5, S4, g6, h⟩ := rx_bd_o h
  refine ev_cSi1 4 dX11_altered_1 (em_X11_isRow g6) mm_X11_isRow ms_X11_isRow lk_11_412 (Nat.le_of_ble_eq_true rfl) (Nat.le_of_ble_eq_true rfl) rfl ?_
  refine ev_if_eq 23 7 dX11_altered_4 rfl rfl (fun c7 => ?_) (fun c7 => ?_)
  · replace h := rx_if_t c7 h
    refine ev_iconst (v := (-1)) 24 dX11_altered_23 (by decide) rfl ?_
    exact ev_ireturn dX11_altered_24 rfl (rx_ret_i h)
  · replace h := rx_if_f c7 h
    refine ev_iload_n (i := 2) 8 dX11_altered_7 rfl rfl rfl ?_
    obtain ⟨x9, S8, g10, h⟩ := rx_bd_o h
    refine ev_cSi1 11 dX11_altered_8 (em_X11_isRow g10) mm_X11_isRow ms_X11_isRow lk_11_412 (Nat.le_of_ble_eq_true rfl) (Nat.le_of_ble_eq_true rfl) rfl ?_
    refine ev_if_eq 23 14 dX11_altered_11 rfl rfl (fun c11 => ?_) (fun c11 => ?_)
    · replace h := rx_if_t c11 h
      refine ev_iconst (v := (-1)) 24 dX11_altered_23 (by decide) rfl ?_
      exact ev_ireturn dX11_altered_24 rfl (rx_ret_i h)
    · replace h := rx_if_f c11 h
      refine ev_aload_n (i := 0) 15 dX11_altered_14 rfl rfl rfl ?_
      refine ev_iload_n (i := 1) 16 dX11_altered_15 rfl rfl rfl ?_
      refine ev_iload_n (i := 2) 17 dX11_altered_16 rfl rfl rfl ?_
      obtain ⟨x13, S12, g14, h⟩ := rx_bd_o h
      refine ev_cVi2 20 dX11_altered_17 (em_X11_alteredOf g14) mm_X11_alteredOf mv_X11_alteredOf lk_11_421 dk_94 (by decide) rfl (Nat.le_of_ble_eq_true rfl) (Nat.le_of_ble_eq_true rfl) rfl ?_
      refine ev_goto 24 dX11_altered_20 rfl ?_
      exact ev_ireturn dX11_altered_24 rfl (rx_ret_i h)

def f_X11_takes (N : Nat) (x1 : Int32) (x2 : Int32) (S0 : rx_S) : Option (Int32 × rx_S) := rx_bd (f_X11_isSpouse x1 S0) (fun x5 S4 => if x5 = 0 then (some ((-1), S4)) else (rx_bd (f_X11_isRow N x2 S4) (fun x9 S8 => if x9 = 0 then (some ((-1), S8)) else (rx_bd (f_X11_copies N S8) (fun x13 S12 => rx_bd (f_X11_moodBehind N x1 x2 S12) (fun x16 S15 => some (x16, S15)))))))
set_option maxHeartbeats 4000000 in
set_option maxRecDepth 20000 in
theorem em_X11_takes {d N : Nat} {x1 : Int32} {x2 : Int32} {S0 : rx_S} {zr : Int32} {zS : rx_S} (h : f_X11_takes N x1 x2 S0 = some (zr, zS)) : EM gM (d + 3) mX11_takes [.ref 94, .int x1, .int x2] S0 (rx_pi zr zS) := by
  unfold f_X11_takes at h
  show EV gM (d + 3) mX11_takes 0 [some (.ref 94), some (.int x1), some (.int x2)] [] S0 (rx_pi zr zS)
  refine ev_aload_n (i := 0) 1 dX11_takes_0 rfl rfl rfl ?_
  refine ev_iload_n (i := 1) 2 dX11_takes_1 rfl rfl rfl ?_
  obtain ⟨x5, S4, g6, h⟩ := rx_bd_o h
  refine ev_cVi1 5 dX11_takes_2 (em_X11_isSpouse g6) mm_X11_isSpouse mv_X11_isSpouse lk_11_393 dk_94 (by decide) rfl (Nat.le_of_ble_eq_true rfl) (Nat.le_of_ble_eq_true rfl) rfl ?_
  refine ev_if_eq 15 8 dX11_takes_5 rfl rfl (fun c7 => ?_) (fun c7 => ?_)
  · replace h := rx_if_t c7 h
    refine ev_iconst (v := (-1)) 16 dX11_takes_15 (by decide) rfl ?_
    exact ev_ireturn dX11_takes_16 rfl (rx_ret_i h)
  · replace h := rx_if_f c7 h
    refine ev_iload_n (i := 2) 9 dX11_takes_8 rfl rfl rfl ?_
    obtain ⟨x9, S8, g10, h⟩ := rx_bd_o h
    refine ev_cSi1 12 dX11_takes_9 (em_X11_isRow g10) mm_X11_isRow ms_X11_isRow lk_11_412 (Nat.le_of_ble_eq_true rfl) (Nat.le_of_ble_eq_true rfl) rfl ?_
    refine ev_if_ne 17 15 dX11_takes_12 rfl rfl (fun c11 => ?_) (fun c11 => ?_)
    · replace h := rx_if_f c11 h
      refine ev_aload_n (i := 0) 18 dX11_takes_17 rfl rfl rfl ?_
      obtain ⟨x13, S12, g14, h⟩ := rx_bd_o h
      refine ev_cVv0 21 dX11_takes_18 (em_X11_copies g14) mm_X11_copies mv_X11_copies lk_11_396 dk_94 (by decide) rfl (Nat.le_of_ble_eq_true rfl) (Nat.le_of_ble_eq_true rfl) rfl ?_
      refine ev_aload_n (i := 0) 22 dX11_takes_21 rfl rfl rfl ?_
      refine ev_iload_n (i := 1) 23 dX11_takes_22 rfl rfl rfl ?_
      refine ev_iload_n (i := 2) 24 dX11_takes_23 rfl rfl rfl ?_
      obtain ⟨x16, S15, g17, h⟩ := rx_bd_o h
      refine ev_cVi2 27 dX11_takes_24 (em_X11_moodBehind g17) mm_X11_moodBehind mv_X11_moodBehind lk_11_378 dk_94 (by decide) rfl (Nat.le_of_ble_eq_true rfl) (Nat.le_of_ble_eq_true rfl) rfl ?_
      exact ev_ireturn dX11_takes_27 rfl (rx_ret_i h)
    · replace h := rx_if_t c11 h
      refine ev_iconst (v := (-1)) 16 dX11_takes_15 (by decide) rfl ?_
      exact ev_ireturn dX11_takes_16 rfl (rx_ret_i h)

def f_X11_fours_L4 (N : Nat) : Nat → Int32 → Int32 → Int32 → rx_S → Option (Int32 × rx_S)
  | 0, _, _, _, _ => none
  | n + 1, x2, x3, x4, S5 => if x2 ≤ x4 then (some (x3, S5)) else (rx_let (x3 * 4) (fun x7 => rx_let (x4 + 1) (fun x8 => f_X11_fours_L4 N n x2 x7 x8 S5)))
def f_X11_fours (N : Nat) (x0 : Int32) (S0 : rx_S) : Option (Int32 × rx_S) := f_X11_fours_L4 N N x0 1 0 S0
set_option maxHeartbeats 4000000 in
set_option maxRecDepth 20000 in
theorem em_X11_fours_L4 {G : Nat × Nat} {d N : Nat} {zr : Int32} {zS : rx_S} : ∀ (n : Nat) (x2 : Int32) (x3 : Int32) (x4 : Int32) (S5 : rx_S), f_X11_fours_L4 N n x2 x3 x4 S5 = some (zr, zS) → EV G d mX11_fours 4 [some (.int x2), some (.int x3), some (.int x4)] [] S5 (rx_pi zr zS) := by
  intro n
  induction n with
  | zero => intro x2 x3 x4 S5 h; cases h
  | succ n ih =>
    intro x2 x3 x4 S5 h
    rw [f_X11_fours_L4] at h
    refine ev_iload_n (i := 2) 5 dX11_fours_4 rfl rfl rfl ?_
    refine ev_iload_n (i := 0) 6 dX11_fours_5 rfl rfl rfl ?_
    refine ev_icmp_ge 19 9 dX11_fours_6 rfl rfl (fun c6 => ?_) (fun c6 => ?_)
    · replace h := rx_if_t c6 h
      refine ev_iload_n (i := 1) 20 dX11_fours_19 rfl rfl rfl ?_
      exact ev_ireturn dX11_fours_20 rfl (rx_ret_i h)
    · replace h := rx_if_f c6 h
      refine ev_iload_n (i := 1) 10 dX11_fours_9 rfl rfl rfl ?_
      refine ev_iconst (v := 4) 11 dX11_fours_10 (by decide) rfl ?_
      refine ev_imul 12 dX11_fours_11 rfl ?_
      obtain ⟨x7, ex7, h⟩ := rx_let_o h
      refine ev_nm ex7 ?_
      refine ev_istore_n (ls' := [some (.int x2), some (.int x7), some (.int x4)]) 13 dX11_fours_12 rfl (Nat.le_of_ble_eq_true rfl) rfl rfl ?_
      obtain ⟨x8, ex8, h⟩ := rx_let_o h
      refine ev_iinc (v := x8) (ls' := [some (.int x2), some (.int x7), some (.int x8)]) 16 dX11_fours_13 rfl (by rw [ex8]; rfl) (Nat.le_of_ble_eq_true rfl) rfl rfl ?_
      refine ev_goto 4 dX11_fours_16 rfl ?_
      exact (ih _ _ _ _ h).fewer (rx_le_s (rx_le_s (rx_le_s rx_le_0)))

set_option maxHeartbeats 4000000 in
set_option maxRecDepth 20000 in
theorem em_X11_fours {G : Nat × Nat} {d N : Nat} {x0 : Int32} {S0 : rx_S} {zr : Int32} {zS : rx_S} (h : f_X11_fours N x0 S0 = some (zr, zS)) : EM G d mX11_fours [.int x0] S0 (rx_pi zr zS) := by
  unfold f_X11_fours at h
  show EV G d mX11_fours 0 [some (.int x0), none, none] [] S0 (rx_pi zr zS)
  refine ev_iconst (v := 1) 1 dX11_fours_0 (by decide) rfl ?_
  refine ev_istore_n (ls' := [some (.int x0), some (.int 1), none]) 2 dX11_fours_1 rfl (Nat.le_of_ble_eq_true rfl) rfl rfl ?_
  refine ev_iconst (v := 0) 3 dX11_fours_2 (by decide) rfl ?_
  refine ev_istore_n (ls' := [some (.int x0), some (.int 1), some (.int 0)]) 4 dX11_fours_3 rfl (Nat.le_of_ble_eq_true rfl) rfl rfl ?_
  exact (em_X11_fours_L4 _ _ _ _ _ h).fewer (rx_le_s (rx_le_s (rx_le_s rx_le_0)))

def f_X11_sumBy_L7 (N : Nat) : Nat → Int32 → Int32 → Int32 → Int32 → rx_S → Option (Int32 × rx_S)
  | 0, _, _, _, _, _ => none
  | n + 1, x3, x4, x5, x6, S7 => if (S7.1 94 59) ≤ x6 then (some (x5, S7)) else (rx_bd (f_X11_fours N (((S7.1 94 59) - 1) - x6) S7) (fun x10 S9 => rx_nz x10 (rx_let (rx_rem (x3 / x10) 4) (fun x13 => rx_bd (f_X11_isThird x13 S9) (fun x15 S14 => if x15 = 0 then (some ((-1), S14)) else (if ((x4 >>> (x13 &&& 31)) &&& 1) = 1 then (some ((-1), S14)) else (rx_let (x4 ||| ((1 : Int32) <<< (x13 &&& 31))) (fun x19 => rx_gd (((4 : Int32) * x6) + x13) 12 (rx_let (x5 + (S14.1 132 (Int32.toNatClampNeg (((4 : Int32) * x6) + x13)))) (fun x21 => rx_let (x6 + 1) (fun x22 => f_X11_sumBy_L7 N n x3 x19 x21 x22 S14)))))))))))
def f_X11_sumBy (N : Nat) (x1 : Int32) (S0 : rx_S) : Option (Int32 × rx_S) := f_X11_sumBy_L7 N N x1 0 0 0 S0
set_option maxHeartbeats 4000000 in
set_option maxRecDepth 20000 in
theorem em_X11_sumBy_L7 {d N : Nat} {zr : Int32} {zS : rx_S} : ∀ (n : Nat) (x3 : Int32) (x4 : Int32) (x5 : Int32) (x6 : Int32) (S7 : rx_S), f_X11_sumBy_L7 N n x3 x4 x5 x6 S7 = some (zr, zS) → EV gM (d + 2) mX11_sumBy 7 [some (.ref 94), some (.int x3), some (.int x4), some (.int x5), some (.int x6), none] [] S7 (rx_pi zr zS) := by
  intro n
  induction n with
  | zero => intro x3 x4 x5 x6 S7 h; cases h
  | succ n ih =>
    intro x3 x4 x5 x6 S7 h
    rw [f_X11_sumBy_L7] at h
    refine ev_iload 9 dX11_sumBy_7 rfl rfl ?_
    refine ev_aload_n (i := 0) 10 dX11_sumBy_9 rfl rfl rfl ?_
    refine ev_get (v := .int (S7.1 94 59)) 13 dX11_sumBy_10 dk_94 fl_11_427 (by decide) rfl rfl rfl ?_
    refine ev_icmp_ge 83 16 dX11_sumBy_13 rfl rfl (fun c8 => ?_) (fun c8 => ?_)
    · replace h := rx_if_t c8 h
      refine ev_iload_n (i := 3) 84 dX11_sumBy_83 rfl rfl rfl ?_
      exact ev_ireturn dX11_sumBy_84 rfl (rx_ret_i h)
    · replace h := rx_if_f c8 h
      refine ev_iload_n (i := 1) 17 dX11_sumBy_16 rfl rfl rfl ?_
      refine ev_aload_n (i := 0) 18 dX11_sumBy_17 rfl rfl rfl ?_
      refine ev_get (v := .int (S7.1 94 59)) 21 dX11_sumBy_18 dk_94 fl_11_427 (by decide) rfl rfl rfl ?_
      refine ev_iconst (v := 1) 22 dX11_sumBy_21 (by decide) rfl ?_
      refine ev_isub 23 dX11_sumBy_22 rfl ?_
      refine ev_iload 25 dX11_sumBy_23 rfl rfl ?_
      refine ev_isub 26 dX11_sumBy_25 rfl ?_
      obtain ⟨x10, S9, g11, h⟩ := rx_bd_o h
      refine ev_cSi1 29 dX11_sumBy_26 (em_X11_fours g11) mm_X11_fours ms_X11_fours lk_11_430 (Nat.le_of_ble_eq_true rfl) (Nat.le_of_ble_eq_true rfl) rfl ?_
      obtain ⟨g12, h⟩ := rx_nz_o h
      refine ev_idiv 30 dX11_sumBy_29 g12 rfl ?_
      refine ev_iconst (v := 4) 31 dX11_sumBy_30 (by decide) rfl ?_
      refine ev_rem 32 dX11_sumBy_31 (by decide) rfl ?_
      obtain ⟨x13, ex13, h⟩ := rx_let_o h
      refine ev_nm ex13 ?_
      refine ev_istore (ls' := [some (.ref 94), some (.int x3), some (.int x4), some (.int x5), some (.int x6), some (.int x13)]) 34 dX11_sumBy_32 (Nat.le_of_ble_eq_true rfl) rfl rfl ?_
      refine ev_aload_n (i := 0) 35 dX11_sumBy_34 rfl rfl rfl ?_
      refine ev_iload 37 dX11_sumBy_35 rfl rfl ?_
      obtain ⟨x15, S14, g16, h⟩ := rx_bd_o h
      refine ev_cVi1 40 dX11_sumBy_37 (em_X11_isThird g16) mm_X11_isThird mv_X11_isThird lk_11_402 dk_94 (by decide) rfl (Nat.le_of_ble_eq_true rfl) (Nat.le_of_ble_eq_true rfl) rfl ?_
      refine ev_if_eq 53 43 dX11_sumBy_40 rfl rfl (fun c17 => ?_) (fun c17 => ?_)
      · replace h := rx_if_t c17 h
        refine ev_iconst (v := (-1)) 54 dX11_sumBy_53 (by decide) rfl ?_
        exact ev_ireturn dX11_sumBy_54 rfl (rx_ret_i h)
      · replace h := rx_if_f c17 h
        refine ev_iload_n (i := 2) 44 dX11_sumBy_43 rfl rfl rfl ?_
        refine ev_iload 46 dX11_sumBy_44 rfl rfl ?_
        refine ev_ishr 47 dX11_sumBy_46 rfl ?_
        refine ev_iconst (v := 1) 48 dX11_sumBy_47 (by decide) rfl ?_
        refine ev_iand 49 dX11_sumBy_48 rfl ?_
        refine ev_iconst (v := 1) 50 dX11_sumBy_49 (by decide) rfl ?_
        refine ev_icmp_ne 55 53 dX11_sumBy_50 rfl rfl (fun c18 => ?_) (fun c18 => ?_)
        · replace h := rx_if_f c18 h
          refine ev_iload_n (i := 2) 56 dX11_sumBy_55 rfl rfl rfl ?_
          refine ev_iconst (v := 1) 57 dX11_sumBy_56 (by decide) rfl ?_
          refine ev_iload 59 dX11_sumBy_57 rfl rfl ?_
          refine ev_ishl 60 dX11_sumBy_59 rfl ?_
          refine ev_ior 61 dX11_sumBy_60 rfl ?_
          obtain ⟨x19, ex19, h⟩ := rx_let_o h
          refine ev_nm ex19 ?_
          refine ev_istore_n (ls' := [some (.ref 94), some (.int x3), some (.int x19), some (.int x5), some (.int x6), some (.int x13)]) 62 dX11_sumBy_61 rfl (Nat.le_of_ble_eq_true rfl) rfl rfl ?_
          refine ev_iload_n (i := 3) 63 dX11_sumBy_62 rfl rfl rfl ?_
          refine ev_aload_n (i := 0) 64 dX11_sumBy_63 rfl rfl rfl ?_
          refine ev_get (v := .ref 132) 67 dX11_sumBy_64 dk_94 fl_11_131 (by decide) rfl rfl rfl ?_
          refine ev_iconst (v := 4) 68 dX11_sumBy_67 (by decide) rfl ?_
          refine ev_iload 70 dX11_sumBy_68 rfl rfl ?_
          refine ev_imul 71 dX11_sumBy_70 rfl ?_
          refine ev_iload 73 dX11_sumBy_71 rfl rfl ?_
          refine ev_iadd 74 dX11_sumBy_73 rfl ?_
          obtain ⟨g20, h⟩ := rx_gd_o h
          refine ex_iald _ 75 dX11_sumBy_74 dk_132 g20 rfl rfl ?_
          refine ev_iadd 76 dX11_sumBy_75 rfl ?_
          obtain ⟨x21, ex21, h⟩ := rx_let_o h
          refine ev_nm ex21 ?_
          refine ev_istore_n (ls' := [some (.ref 94), some (.int x3), some (.int x19), some (.int x21), some (.int x6), some (.int x13)]) 77 dX11_sumBy_76 rfl (Nat.le_of_ble_eq_true rfl) rfl rfl ?_
          obtain ⟨x22, ex22, h⟩ := rx_let_o h
          refine ev_iinc (v := x22) (ls' := [some (.ref 94), some (.int x3), some (.int x19), some (.int x21), some (.int x22), some (.int x13)]) 80 dX11_sumBy_77 rfl (by rw [ex22]; rfl) (Nat.le_of_ble_eq_true rfl) rfl rfl ?_
          refine ev_goto 7 dX11_sumBy_80 rfl ?_
          exact (ih _ _ _ _ _ h).fewer (rx_le_s (rx_le_s (rx_le_s (rx_le_s (rx_le_s (rx_le_n rx_le_0))))))
        · replace h := rx_if_t c18 h
          refine ev_iconst (v := (-1)) 54 dX11_sumBy_53 (by decide) rfl ?_
          exact ev_ireturn dX11_sumBy_54 rfl (rx_ret_i h)

set_option maxHeartbeats 4000000 in
set_option maxRecDepth 20000 in
theorem em_X11_sumBy {d N : Nat} {x1 : Int32} {S0 : rx_S} {zr : Int32} {zS : rx_S} (h : f_X11_sumBy N x1 S0 = some (zr, zS)) : EM gM (d + 2) mX11_sumBy [.ref 94, .int x1] S0 (rx_pi zr zS) := by
  unfold f_X11_sumBy at h
  show EV gM (d + 2) mX11_sumBy 0 [some (.ref 94), some (.int x1), none, none, none, none] [] S0 (rx_pi zr zS)
  refine ev_iconst (v := 0) 1 dX11_sumBy_0 (by decide) rfl ?_
  refine ev_istore_n (ls' := [some (.ref 94), some (.int x1), some (.int 0), none, none, none]) 2 dX11_sumBy_1 rfl (Nat.le_of_ble_eq_true rfl) rfl rfl ?_
  refine ev_iconst (v := 0) 3 dX11_sumBy_2 (by decide) rfl ?_
  refine ev_istore_n (ls' := [some (.ref 94), some (.int x1), some (.int 0), some (.int 0), none, none]) 4 dX11_sumBy_3 rfl (Nat.le_of_ble_eq_true rfl) rfl rfl ?_
  refine ev_iconst (v := 0) 5 dX11_sumBy_4 (by decide) rfl ?_
  refine ev_istore (ls' := [some (.ref 94), some (.int x1), some (.int 0), some (.int 0), some (.int 0), none]) 7 dX11_sumBy_5 (Nat.le_of_ble_eq_true rfl) rfl rfl ?_
  exact (em_X11_sumBy_L7 _ _ _ _ _ _ h).fewer (rx_le_s (rx_le_s (rx_le_s (rx_le_s (rx_le_s (rx_le_n rx_le_0))))))

def f_X11_fillsHire_L129 (N : Nat) : Nat → Int32 → rx_S → Option (Unit × rx_S)
  | 0, _, _ => none
  | n + 1, x8, S9 => rx_bd (f_X11_fours N (S9.1 94 59) S9) (fun x11 S10 => if x11 ≤ x8 then (some ((), S10)) else (rx_bd (f_X11_sumBy N x8 S10) (fun x15 S14 => if x15 < 0 then (rx_let (x8 + 1) (fun x18 => f_X11_fillsHire_L129 N n x18 S14)) else (rx_let (fun (x19 : Int32) (x20 : Int32) (S21 : rx_S) => rx_let (rx_ui S21 94 56 x20) (fun S22 => rx_let (rx_ui S22 94 57 x19) (fun S23 => rx_let (x19 + 1) (fun x24 => f_X11_fillsHire_L129 N n x24 S23)))) (fun J168_2 => if (S14.1 94 57) < 0 then (J168_2 x8 x15 S14) else (if x15 < (S14.1 94 56) then (J168_2 x8 x15 S14) else (rx_let (x8 + 1) (fun x27 => f_X11_fillsHire_L129 N n x27 S14))))))))
def f_X11_fillsHire_L52 (N : Nat) (K96 : Int32 → rx_S → Option (Unit × rx_S)) : Nat → Int32 → Int32 → Int32 → rx_S → Option (Unit × rx_S)
  | 0, _, _, _, _ => none
  | n + 1, x47, x48, x49, S50 => rx_gd (S50.1 94 18) 2 (if (S50.1 109 (Int32.toNatClampNeg (S50.1 94 18))) ≤ x49 then (K96 x47 S50) else (rx_bd (f_X11_putBy N x49 x48 (-1) S50) (fun x56 S55 => rx_bd (f_X11_alteredOf N x48 x56 S55) (fun x59 S58 => rx_gd (((4 : Int32) * (S50.1 94 59)) + x49) 12 (rx_let (rx_ui S58 132 (Int32.toNatClampNeg (((4 : Int32) * (S50.1 94 59)) + x49)) x59) (fun S62 => rx_let (x49 + 1) (fun x63 => f_X11_fillsHire_L52 N K96 n x47 x48 x63 S62)))))))
def f_X11_fillsHire_L11 (N : Nat) (K122 : rx_S → Option (Unit × rx_S)) : Nat → Int32 → rx_S → Option (Unit × rx_S)
  | 0, _, _ => none
  | n + 1, x28, S29 => rx_gd (S29.1 94 18) 2 (if (S29.1 107 (Int32.toNatClampNeg (S29.1 94 18))) ≤ x28 then (K122 S29) else (rx_gd ((15 : Int32) + x28) 48 (if (S29.1 127 (Int32.toNatClampNeg ((15 : Int32) + x28))) = 1 then (rx_let (x28 + 1) (fun x64 => f_X11_fillsHire_L11 N K122 n x64 S29)) else (rx_bd (f_X11_speakerOf x28 S29) (fun x36 S35 => rx_bd (f_X11_saidBy N x36 S35) (fun x39 S38 => rx_let (fun (x41 : Int32) (S42 : rx_S) => rx_gd (S42.1 94 59) 3 (rx_let (rx_ui S42 131 (Int32.toNatClampNeg (S42.1 94 59)) x41) (fun S44 => rx_let (rx_ui S44 94 59 ((S44.1 94 59) + 1)) (fun S45 => rx_let (x41 + 1) (fun x46 => f_X11_fillsHire_L11 N K122 n x46 S45))))) (fun J96_3 => f_X11_fillsHire_L52 N J96_3 N x28 x39 0 S38)))))))
def f_X11_fillsHire (N : Nat) (S0 : rx_S) : Option (Unit × rx_S) := rx_bd (f_X11_copies N S0) (fun x3 S2 => rx_let (rx_ui S2 94 59 0) (fun S5 => rx_let (fun (S6 : rx_S) => rx_let (rx_ui S6 94 57 (-1)) (fun S7 => f_X11_fillsHire_L129 N N 0 S7)) (fun J122_1 => f_X11_fillsHire_L11 N J122_1 N 0 S5)))
set_option maxHeartbeats 4000000 in
set_option maxRecDepth 20000 in
theorem em_X11_fillsHire_L129 {d N : Nat} {zr : Unit} {zS : rx_S} : ∀ (n : Nat) (x8 : Int32) (S9 : rx_S), f_X11_fillsHire_L129 N n x8 S9 = some (zr, zS) → EV gM (d + 5) mX11_fillsHire 129 [some (.ref 94), some (.int x8), none, none] [] S9 (rx_pv zS) := by
  intro n
  induction n with
  | zero => intro x8 S9 h; cases h
  | succ n ih =>
    intro x8 S9 h
    rw [f_X11_fillsHire_L129] at h
    refine ev_iload_n (i := 1) 130 dX11_fillsHire_129 rfl rfl rfl ?_
    refine ev_aload_n (i := 0) 131 dX11_fillsHire_130 rfl rfl rfl ?_
    refine ev_get (v := .int (S9.1 94 59)) 134 dX11_fillsHire_131 dk_94 fl_11_427 (by decide) rfl rfl rfl ?_
    obtain ⟨x11, S10, g12, h⟩ := rx_bd_o h
    refine ev_cSi1 137 dX11_fillsHire_134 (em_X11_fours g12) mm_X11_fours ms_X11_fours lk_11_430 (Nat.le_of_ble_eq_true rfl) (Nat.le_of_ble_eq_true rfl) rfl ?_
    refine ev_icmp_ge 184 140 dX11_fillsHire_137 rfl rfl (fun c13 => ?_) (fun c13 => ?_)
    · replace h := rx_if_t c13 h
      exact ev_return dX11_fillsHire_184 rfl (rx_ret_v h)
    · replace h := rx_if_f c13 h
      refine ev_aload_n (i := 0) 141 dX11_fillsHire_140 rfl rfl rfl ?_
      refine ev_iload_n (i := 1) 142 dX11_fillsHire_141 rfl rfl rfl ?_
      obtain ⟨x15, S14, g16, h⟩ := rx_bd_o h
      refine ev_cVi1 145 dX11_fillsHire_142 (em_X11_sumBy g16) mm_X11_sumBy mv_X11_sumBy lk_11_436 dk_94 (by decide) rfl (Nat.le_of_ble_eq_true rfl) (Nat.le_of_ble_eq_true rfl) rfl ?_
      refine ev_istore_n (ls' := [some (.ref 94), some (.int x8), some (.int x15), none]) 146 dX11_fillsHire_145 rfl (Nat.le_of_ble_eq_true rfl) rfl rfl ?_
      refine ev_iload_n (i := 2) 147 dX11_fillsHire_146 rfl rfl rfl ?_
      refine ev_if_lt 178 150 dX11_fillsHire_147 rfl rfl (fun c17 => ?_) (fun c17 => ?_)
      · replace h := rx_if_t c17 h
        obtain ⟨x18, ex18, h⟩ := rx_let_o h
        refine ev_iinc (v := x18) (ls' := [some (.ref 94), some (.int x18), some (.int x15), none]) 181 dX11_fillsHire_178 rfl (by rw [ex18]; rfl) (Nat.le_of_ble_eq_true rfl) rfl rfl ?_
        refine ev_goto 129 dX11_fillsHire_181 rfl ?_
        exact (ih _ _ h).fewer (rx_le_s (rx_le_s (rx_le_n (rx_le_n rx_le_0))))
      · replace h := rx_if_f c17 h
        refine ev_aload_n (i := 0) 151 dX11_fillsHire_150 rfl rfl rfl ?_
        refine ev_get (v := .int (S14.1 94 57)) 154 dX11_fillsHire_151 dk_94 fl_11_433 (by decide) rfl rfl rfl ?_
        obtain ⟨J168_2, eJ168_2, h⟩ := rx_let_o h
        have hJ168_2 : ∀ (x19 : Int32) (x20 : Int32) (S21 : rx_S), J168_2 x19 x20 S21 = some (zr, zS) → EV gM (d + 5) mX11_fillsHire 168 [some (.ref 94), some (.int x19), some (.int x20), none] [] S21 (rx_pv zS) := by
          intro x19 x20 S21 h
          subst eJ168_2
          refine ev_aload_n (i := 0) 169 dX11_fillsHire_168 rfl rfl rfl ?_
          refine ev_iload_n (i := 2) 170 dX11_fillsHire_169 rfl rfl rfl ?_
          obtain ⟨S22, eS22, h⟩ := rx_let_o h
          refine ex_put 173 dX11_fillsHire_170 dk_94 fl_11_439 pp_11_56 (by decide) rfl rfl rfl rfl eS22 ?_
          refine ev_aload_n (i := 0) 174 dX11_fillsHire_173 rfl rfl rfl ?_
          refine ev_iload_n (i := 1) 175 dX11_fillsHire_174 rfl rfl rfl ?_
          obtain ⟨S23, eS23, h⟩ := rx_let_o h
          refine ex_put 178 dX11_fillsHire_175 dk_94 fl_11_433 pp_11_57 (by decide) rfl rfl rfl rfl eS23 ?_
          obtain ⟨x24, ex24, h⟩ := rx_let_o h
          refine ev_iinc (v := x24) (ls' := [some (.ref 94), some (.int x24), some (.int x20), none]) 181 dX11_fillsHire_178 rfl (by rw [ex24]; rfl) (Nat.le_of_ble_eq_true rfl) rfl rfl ?_
          refine ev_goto 129 dX11_fillsHire_181 rfl ?_
          exact (ih _ _ h).fewer (rx_le_s (rx_le_s (rx_le_n (rx_le_n rx_le_0))))
        refine ev_if_lt 168 157 dX11_fillsHire_154 rfl rfl (fun c25 => ?_) (fun c25 => ?_)
        · replace h := rx_if_t c25 h
          exact (hJ168_2 _ _ _ h).fewer (rx_le_s (rx_le_s (rx_le_s (rx_le_n rx_le_0))))
        · replace h := rx_if_f c25 h
          refine ev_iload_n (i := 2) 158 dX11_fillsHire_157 rfl rfl rfl ?_
          refine ev_aload_n (i := 0) 159 dX11_fillsHire_158 rfl rfl rfl ?_
          refine ev_get (v := .int (S14.1 94 56)) 162 dX11_fillsHire_159 dk_94 fl_11_439 (by decide) rfl rfl rfl ?_
          refine ev_icmp_lt 168 165 dX11_fillsHire_162 rfl rfl (fun c26 => ?_) (fun c26 => ?_)
          · replace h := rx_if_t c26 h
            exact (hJ168_2 _ _ _ h).fewer (rx_le_s (rx_le_s (rx_le_s (rx_le_n rx_le_0))))
          · replace h := rx_if_f c26 h
            refine ev_goto 178 dX11_fillsHire_165 rfl ?_
            obtain ⟨x27, ex27, h⟩ := rx_let_o h
            refine ev_iinc (v := x27) (ls' := [some (.ref 94), some (.int x27), some (.int x15), none]) 181 dX11_fillsHire_178 rfl (by rw [ex27]; rfl) (Nat.le_of_ble_eq_true rfl) rfl rfl ?_
            refine ev_goto 129 dX11_fillsHire_181 rfl ?_
            exact (ih _ _ h).fewer (rx_le_s (rx_le_s (rx_le_n (rx_le_n rx_le_0))))

set_option maxHeartbeats 4000000 in
set_option maxRecDepth 20000 in
theorem em_X11_fillsHire_L52 {d N : Nat} {K96 : Int32 → rx_S → Option (Unit × rx_S)} {zr : Unit} {zS : rx_S} (hK96 : ∀ (x51 : Int32) (S52 : rx_S), K96 x51 S52 = some (zr, zS) → EV gM (d + 5) mX11_fillsHire 96 [some (.ref 94), some (.int x51), none, none] [] S52 (rx_pv zS)) : ∀ (n : Nat) (x47 : Int32) (x48 : Int32) (x49 : Int32) (S50 : rx_S), f_X11_fillsHire_L52 N K96 n x47 x48 x49 S50 = some (zr, zS) → EV gM (d + 5) mX11_fillsHire 52 [some (.ref 94), some (.int x47), some (.int x48), some (.int x49)] [] S50 (rx_pv zS) := by
  intro n
  induction n with
  | zero => intro x47 x48 x49 S50 h; cases h
  | succ n ih =>
    intro x47 x48 x49 S50 h
    rw [f_X11_fillsHire_L52] at h
    refine ev_iload_n (i := 3) 53 dX11_fillsHire_52 rfl rfl rfl ?_
    refine ev_aload_n (i := 0) 54 dX11_fillsHire_53 rfl rfl rfl ?_
    refine ev_get (v := .ref 109) 57 dX11_fillsHire_54 dk_94 fl_11_61 (by decide) rfl rfl rfl ?_
    refine ev_aload_n (i := 0) 58 dX11_fillsHire_57 rfl rfl rfl ?_
    refine ev_get (v := .int (S50.1 94 18)) 61 dX11_fillsHire_58 dk_94 fl_11_233 (by decide) rfl rfl rfl ?_
    obtain ⟨g53, h⟩ := rx_gd_o h
    refine ex_iald _ 62 dX11_fillsHire_61 dk_109 g53 rfl rfl ?_
    refine ev_icmp_ge 96 65 dX11_fillsHire_62 rfl rfl (fun c54 => ?_) (fun c54 => ?_)
    · replace h := rx_if_t c54 h
      exact (hK96 _ _ h).fewer (rx_le_s (rx_le_s (rx_le_n (rx_le_n rx_le_0))))
    · replace h := rx_if_f c54 h
      refine ev_aload_n (i := 0) 66 dX11_fillsHire_65 rfl rfl rfl ?_
      refine ev_get (v := .ref 132) 69 dX11_fillsHire_66 dk_94 fl_11_131 (by decide) rfl rfl rfl ?_
      refine ev_iconst (v := 4) 70 dX11_fillsHire_69 (by decide) rfl ?_
      refine ev_aload_n (i := 0) 71 dX11_fillsHire_70 rfl rfl rfl ?_
      refine ev_get (v := .int (S50.1 94 59)) 74 dX11_fillsHire_71 dk_94 fl_11_427 (by decide) rfl rfl rfl ?_
      refine ev_imul 75 dX11_fillsHire_74 rfl ?_
      refine ev_iload_n (i := 3) 76 dX11_fillsHire_75 rfl rfl rfl ?_
      refine ev_iadd 77 dX11_fillsHire_76 rfl ?_
      refine ev_aload_n (i := 0) 78 dX11_fillsHire_77 rfl rfl rfl ?_
      refine ev_iload_n (i := 2) 79 dX11_fillsHire_78 rfl rfl rfl ?_
      refine ev_aload_n (i := 0) 80 dX11_fillsHire_79 rfl rfl rfl ?_
      refine ev_iload_n (i := 3) 81 dX11_fillsHire_80 rfl rfl rfl ?_
      refine ev_iload_n (i := 2) 82 dX11_fillsHire_81 rfl rfl rfl ?_
      refine ev_iconst (v := (-1)) 83 dX11_fillsHire_82 (by decide) rfl ?_
      obtain ⟨x56, S55, g57, h⟩ := rx_bd_o h
      refine ev_cVi3 86 dX11_fillsHire_83 (em_X11_putBy g57) mm_X11_putBy mv_X11_putBy lk_11_375 dk_94 (by decide) rfl (Nat.le_of_ble_eq_true rfl) (Nat.le_of_ble_eq_true rfl) rfl ?_
      obtain ⟨x59, S58, g60, h⟩ := rx_bd_o h
      refine ev_cVi2 89 dX11_fillsHire_86 (em_X11_alteredOf g60) mm_X11_alteredOf mv_X11_alteredOf lk_11_421 dk_94 (by decide) rfl (Nat.le_of_ble_eq_true rfl) (Nat.le_of_ble_eq_true rfl) rfl ?_
      obtain ⟨g61, h⟩ := rx_gd_o h
      obtain ⟨S62, eS62, h⟩ := rx_let_o h
      refine ex_iast _ 90 dX11_fillsHire_89 dk_132 g61 rfl rfl eS62 ?_
      obtain ⟨x63, ex63, h⟩ := rx_let_o h
      refine ev_iinc (v := x63) (ls' := [some (.ref 94), some (.int x47), some (.int x48), some (.int x63)]) 93 dX11_fillsHire_90 rfl (by rw [ex63]; rfl) (Nat.le_of_ble_eq_true rfl) rfl rfl ?_
      refine ev_goto 52 dX11_fillsHire_93 rfl ?_
      exact (ih _ _ _ _ h).fewer (rx_le_s (rx_le_s (rx_le_s (rx_le_s rx_le_0))))

set_option maxHeartbeats 4000000 in
set_option maxRecDepth 20000 in
theorem em_X11_fillsHire_L11 {d N : Nat} {K122 : rx_S → Option (Unit × rx_S)} {zr : Unit} {zS : rx_S} (hK122 : ∀ (S30 : rx_S), K122 S30 = some (zr, zS) → EV gM (d + 5) mX11_fillsHire 122 [some (.ref 94), none, none, none] [] S30 (rx_pv zS)) : ∀ (n : Nat) (x28 : Int32) (S29 : rx_S), f_X11_fillsHire_L11 N K122 n x28 S29 = some (zr, zS) → EV gM (d + 5) mX11_fillsHire 11 [some (.ref 94), some (.int x28), none, none] [] S29 (rx_pv zS) := by
  intro n
  induction n with
  | zero => intro x28 S29 h; cases h
  | succ n ih =>
    intro x28 S29 h
    rw [f_X11_fillsHire_L11] at h
    refine ev_iload_n (i := 1) 12 dX11_fillsHire_11 rfl rfl rfl ?_
    refine ev_aload_n (i := 0) 13 dX11_fillsHire_12 rfl rfl rfl ?_
    refine ev_get (v := .ref 107) 16 dX11_fillsHire_13 dk_94 fl_11_55 (by decide) rfl rfl rfl ?_
    refine ev_aload_n (i := 0) 17 dX11_fillsHire_16 rfl rfl rfl ?_
    refine ev_get (v := .int (S29.1 94 18)) 20 dX11_fillsHire_17 dk_94 fl_11_233 (by decide) rfl rfl rfl ?_
    obtain ⟨g31, h⟩ := rx_gd_o h
    refine ex_iald _ 21 dX11_fillsHire_20 dk_107 g31 rfl rfl ?_
    refine ev_icmp_ge 122 24 dX11_fillsHire_21 rfl rfl (fun c32 => ?_) (fun c32 => ?_)
    · replace h := rx_if_t c32 h
      exact (hK122 _ h).fewer (rx_le_s (rx_le_n (rx_le_n (rx_le_n rx_le_0))))
    · replace h := rx_if_f c32 h
      refine ev_aload_n (i := 0) 25 dX11_fillsHire_24 rfl rfl rfl ?_
      refine ev_get (v := .ref 127) 28 dX11_fillsHire_25 dk_94 fl_11_116 (by decide) rfl rfl rfl ?_
      refine ev_bipush (v := 15) 30 dX11_fillsHire_28 (by decide) rfl ?_
      refine ev_iload_n (i := 1) 31 dX11_fillsHire_30 rfl rfl rfl ?_
      refine ev_iadd 32 dX11_fillsHire_31 rfl ?_
      obtain ⟨g33, h⟩ := rx_gd_o h
      refine ex_iald _ 33 dX11_fillsHire_32 dk_127 g33 rfl rfl ?_
      refine ev_iconst (v := 1) 34 dX11_fillsHire_33 (by decide) rfl ?_
      refine ev_icmp_ne 40 37 dX11_fillsHire_34 rfl rfl (fun c34 => ?_) (fun c34 => ?_)
      · replace h := rx_if_f c34 h
        refine ev_aload_n (i := 0) 41 dX11_fillsHire_40 rfl rfl rfl ?_
        refine ev_aload_n (i := 0) 42 dX11_fillsHire_41 rfl rfl rfl ?_
        refine ev_iload_n (i := 1) 43 dX11_fillsHire_42 rfl rfl rfl ?_
        obtain ⟨x36, S35, g37, h⟩ := rx_bd_o h
        refine ev_cVi1 46 dX11_fillsHire_43 (em_X11_speakerOf g37) mm_X11_speakerOf mv_X11_speakerOf lk_11_369 dk_94 (by decide) rfl (Nat.le_of_ble_eq_true rfl) (Nat.le_of_ble_eq_true rfl) rfl ?_
        obtain ⟨x39, S38, g40, h⟩ := rx_bd_o h
        refine ev_cVi1 49 dX11_fillsHire_46 (em_X11_saidBy g40) mm_X11_saidBy mv_X11_saidBy lk_11_372 dk_94 (by decide) rfl (Nat.le_of_ble_eq_true rfl) (Nat.le_of_ble_eq_true rfl) rfl ?_
        refine ev_istore_n (ls' := [some (.ref 94), some (.int x28), some (.int x39), none]) 50 dX11_fillsHire_49 rfl (Nat.le_of_ble_eq_true rfl) rfl rfl ?_
        refine ev_iconst (v := 0) 51 dX11_fillsHire_50 (by decide) rfl ?_
        refine ev_istore_n (ls' := [some (.ref 94), some (.int x28), some (.int x39), some (.int 0)]) 52 dX11_fillsHire_51 rfl (Nat.le_of_ble_eq_true rfl) rfl rfl ?_
        obtain ⟨J96_3, eJ96_3, h⟩ := rx_let_o h
        have hJ96_3 : ∀ (x41 : Int32) (S42 : rx_S), J96_3 x41 S42 = some (zr, zS) → EV gM (d + 5) mX11_fillsHire 96 [some (.ref 94), some (.int x41), none, none] [] S42 (rx_pv zS) := by
          intro x41 S42 h
          subst eJ96_3
          refine ev_aload_n (i := 0) 97 dX11_fillsHire_96 rfl rfl rfl ?_
          refine ev_get (v := .ref 131) 100 dX11_fillsHire_97 dk_94 fl_11_128 (by decide) rfl rfl rfl ?_
          refine ev_aload_n (i := 0) 101 dX11_fillsHire_100 rfl rfl rfl ?_
          refine ev_get (v := .int (S42.1 94 59)) 104 dX11_fillsHire_101 dk_94 fl_11_427 (by decide) rfl rfl rfl ?_
          refine ev_iload_n (i := 1) 105 dX11_fillsHire_104 rfl rfl rfl ?_
          obtain ⟨g43, h⟩ := rx_gd_o h
          obtain ⟨S44, eS44, h⟩ := rx_let_o h
          refine ex_iast _ 106 dX11_fillsHire_105 dk_131 g43 rfl rfl eS44 ?_
          refine ev_aload_n (i := 0) 107 dX11_fillsHire_106 rfl rfl rfl ?_
          refine ev_dup 108 dX11_fillsHire_107 rfl rfl ?_
          refine ev_get (v := .int (S44.1 94 59)) 111 dX11_fillsHire_108 dk_94 fl_11_427 (by decide) rfl rfl rfl ?_
          refine ev_iconst (v := 1) 112 dX11_fillsHire_111 (by decide) rfl ?_
          refine ev_iadd 113 dX11_fillsHire_112 rfl ?_
          obtain ⟨S45, eS45, h⟩ := rx_let_o h
          refine ex_put 116 dX11_fillsHire_113 dk_94 fl_11_427 pp_11_59 (by decide) rfl rfl rfl rfl eS45 ?_
          obtain ⟨x46, ex46, h⟩ := rx_let_o h
          refine ev_iinc (v := x46) (ls' := [some (.ref 94), some (.int x46), none, none]) 119 dX11_fillsHire_116 rfl (by rw [ex46]; rfl) (Nat.le_of_ble_eq_true rfl) rfl rfl ?_
          refine ev_goto 11 dX11_fillsHire_119 rfl ?_
          exact (ih _ _ h).fewer (rx_le_s (rx_le_s (rx_le_n (rx_le_n rx_le_0))))
        exact (em_X11_fillsHire_L52 hJ96_3 _ _ _ _ _ h).fewer (rx_le_s (rx_le_s (rx_le_s (rx_le_s rx_le_0))))
      · replace h := rx_if_t c34 h
        refine ev_goto 116 dX11_fillsHire_37 rfl ?_
        obtain ⟨x64, ex64, h⟩ := rx_let_o h
        refine ev_iinc (v := x64) (ls' := [some (.ref 94), some (.int x64), none, none]) 119 dX11_fillsHire_116 rfl (by rw [ex64]; rfl) (Nat.le_of_ble_eq_true rfl) rfl rfl ?_
        refine ev_goto 11 dX11_fillsHire_119 rfl ?_
        exact (ih _ _ h).fewer (rx_le_s (rx_le_s (rx_le_n (rx_le_n rx_le_0))))

set_option maxHeartbeats 4000000 in
set_option maxRecDepth 20000 in
theorem em_X11_fillsHire {d N : Nat} {S0 : rx_S} {zr : Unit} {zS : rx_S} (h : f_X11_fillsHire N S0 = some (zr, zS)) : EM gM (d + 5) mX11_fillsHire [.ref 94] S0 (rx_pv zS) := by
  unfold f_X11_fillsHire at h
  show EV gM (d + 5) mX11_fillsHire 0 [some (.ref 94), none, none, none] [] S0 (rx_pv zS)
  refine ev_aload_n (i := 0) 1 dX11_fillsHire_0 rfl rfl rfl ?_
  obtain ⟨x3, S2, g4, h⟩ := rx_bd_o h
  refine ev_cVv0 4 dX11_fillsHire_1 (em_X11_copies g4) mm_X11_copies mv_X11_copies lk_11_396 dk_94 (by decide) rfl (Nat.le_of_ble_eq_true rfl) (Nat.le_of_ble_eq_true rfl) rfl ?_
  refine ev_aload_n (i := 0) 5 dX11_fillsHire_4 rfl rfl rfl ?_
  refine ev_iconst (v := 0) 6 dX11_fillsHire_5 (by decide) rfl ?_
  obtain ⟨S5, eS5, h⟩ := rx_let_o h
  refine ex_put 9 dX11_fillsHire_6 dk_94 fl_11_427 pp_11_59 (by decide) rfl rfl rfl rfl eS5 ?_
  refine ev_iconst (v := 0) 10 dX11_fillsHire_9 (by decide) rfl ?_
  refine ev_istore_n (ls' := [some (.ref 94), some (.int 0), none, none]) 11 dX11_fillsHire_10 rfl (Nat.le_of_ble_eq_true rfl) rfl rfl ?_
  obtain ⟨J122_1, eJ122_1, h⟩ := rx_let_o h
  have hJ122_1 : ∀ (S6 : rx_S), J122_1 S6 = some (zr, zS) → EV gM (d + 5) mX11_fillsHire 122 [some (.ref 94), none, none, none] [] S6 (rx_pv zS) := by
    intro S6 h
    subst eJ122_1
    refine ev_aload_n (i := 0) 123 dX11_fillsHire_122 rfl rfl rfl ?_
    refine ev_iconst (v := (-1)) 124 dX11_fillsHire_123 (by decide) rfl ?_
    obtain ⟨S7, eS7, h⟩ := rx_let_o h
    refine ex_put 127 dX11_fillsHire_124 dk_94 fl_11_433 pp_11_57 (by decide) rfl rfl rfl rfl eS7 ?_
    refine ev_iconst (v := 0) 128 dX11_fillsHire_127 (by decide) rfl ?_
    refine ev_istore_n (ls' := [some (.ref 94), some (.int 0), none, none]) 129 dX11_fillsHire_128 rfl (Nat.le_of_ble_eq_true rfl) rfl rfl ?_
    exact (em_X11_fillsHire_L129 _ _ _ h).fewer (rx_le_s (rx_le_s (rx_le_n (rx_le_n rx_le_0))))
  exact (em_X11_fillsHire_L11 hJ122_1 _ _ _ h).fewer (rx_le_s (rx_le_s (rx_le_n (rx_le_n rx_le_0))))

def f_X11_hires_L41 (N : Nat) (K59 : Int32 → rx_S → Option (Int32 × rx_S)) : Nat → Int32 → Int32 → rx_S → Option (Int32 × rx_S)
  | 0, _, _, _ => none
  | n + 1, x16, x17, S18 => if (S18.1 94 59) ≤ x17 then (some ((-2), S18)) else (rx_gd x17 3 (if (S18.1 131 (Int32.toNatClampNeg x17)) = x16 then (K59 x17 S18) else (rx_let (x17 + 1) (fun x24 => f_X11_hires_L41 N K59 n x16 x24 S18))))
def f_X11_hires (N : Nat) (x1 : Int32) (S0 : rx_S) : Option (Int32 × rx_S) := rx_let (fun (x3 : Int32) (S4 : rx_S) => rx_bd (f_X11_fillsHire N S4) (fun x6 S5 => if (0 : Int32) ≤ (S5.1 94 57) then (if x3 = (-1) then (some ((S5.1 94 56), S5)) else (rx_let (fun (x10 : Int32) (S11 : rx_S) => rx_bd (f_X11_fours N (((S11.1 94 59) - 1) - x10) S11) (fun x13 S12 => rx_nz x13 (some ((rx_rem ((S11.1 94 57) / x13) 4), S12)))) (fun J59_2 => f_X11_hires_L41 N J59_2 N x3 0 S5))) else (some ((-2), S5)))) (fun J15_1 => if x1 = (-1) then (J15_1 x1 S0) else (rx_bd (f_X11_isCouple x1 S0) (fun x27 S26 => if x27 = 0 then (some ((-1), S26)) else (J15_1 x1 S26))))
set_option maxHeartbeats 4000000 in
set_option maxRecDepth 20000 in
theorem em_X11_hires_L41 {d N : Nat} {K59 : Int32 → rx_S → Option (Int32 × rx_S)} {zr : Int32} {zS : rx_S} (hK59 : ∀ (x19 : Int32) (S20 : rx_S), K59 x19 S20 = some (zr, zS) → EV gM (d + 6) mX11_hires 59 [some (.ref 94), none, some (.int x19)] [] S20 (rx_pi zr zS)) : ∀ (n : Nat) (x16 : Int32) (x17 : Int32) (S18 : rx_S), f_X11_hires_L41 N K59 n x16 x17 S18 = some (zr, zS) → EV gM (d + 6) mX11_hires 41 [some (.ref 94), some (.int x16), some (.int x17)] [] S18 (rx_pi zr zS) := by
  intro n
  induction n with
  | zero => intro x16 x17 S18 h; cases h
  | succ n ih =>
    intro x16 x17 S18 h
    rw [f_X11_hires_L41] at h
    refine ev_iload_n (i := 2) 42 dX11_hires_41 rfl rfl rfl ?_
    refine ev_aload_n (i := 0) 43 dX11_hires_42 rfl rfl rfl ?_
    refine ev_get (v := .int (S18.1 94 59)) 46 dX11_hires_43 dk_94 fl_11_427 (by decide) rfl rfl rfl ?_
    refine ev_icmp_ge 84 49 dX11_hires_46 rfl rfl (fun c21 => ?_) (fun c21 => ?_)
    · replace h := rx_if_t c21 h
      refine ev_bipush (v := (-2)) 86 dX11_hires_84 (by decide) rfl ?_
      exact ev_ireturn dX11_hires_86 rfl (rx_ret_i h)
    · replace h := rx_if_f c21 h
      refine ev_aload_n (i := 0) 50 dX11_hires_49 rfl rfl rfl ?_
      refine ev_get (v := .ref 131) 53 dX11_hires_50 dk_94 fl_11_128 (by decide) rfl rfl rfl ?_
      refine ev_iload_n (i := 2) 54 dX11_hires_53 rfl rfl rfl ?_
      obtain ⟨g22, h⟩ := rx_gd_o h
      refine ex_iald _ 55 dX11_hires_54 dk_131 g22 rfl rfl ?_
      refine ev_iload_n (i := 1) 56 dX11_hires_55 rfl rfl rfl ?_
      refine ev_icmp_ne 78 59 dX11_hires_56 rfl rfl (fun c23 => ?_) (fun c23 => ?_)
      · replace h := rx_if_f c23 h
        obtain ⟨x24, ex24, h⟩ := rx_let_o h
        refine ev_iinc (v := x24) (ls' := [some (.ref 94), some (.int x16), some (.int x24)]) 81 dX11_hires_78 rfl (by rw [ex24]; rfl) (Nat.le_of_ble_eq_true rfl) rfl rfl ?_
        refine ev_goto 41 dX11_hires_81 rfl ?_
        exact (ih _ _ _ h).fewer (rx_le_s (rx_le_s (rx_le_s rx_le_0)))
      · replace h := rx_if_t c23 h
        exact (hK59 _ _ h).fewer (rx_le_s (rx_le_n (rx_le_s rx_le_0)))

set_option maxHeartbeats 4000000 in
set_option maxRecDepth 20000 in
theorem em_X11_hires {d N : Nat} {x1 : Int32} {S0 : rx_S} {zr : Int32} {zS : rx_S} (h : f_X11_hires N x1 S0 = some (zr, zS)) : EM gM (d + 6) mX11_hires [.ref 94, .int x1] S0 (rx_pi zr zS) := by
  unfold f_X11_hires at h
  show EV gM (d + 6) mX11_hires 0 [some (.ref 94), some (.int x1), none] [] S0 (rx_pi zr zS)
  refine ev_iload_n (i := 1) 1 dX11_hires_0 rfl rfl rfl ?_
  refine ev_iconst (v := (-1)) 2 dX11_hires_1 (by decide) rfl ?_
  obtain ⟨J15_1, eJ15_1, h⟩ := rx_let_o h
  have hJ15_1 : ∀ (x3 : Int32) (S4 : rx_S), J15_1 x3 S4 = some (zr, zS) → EV gM (d + 6) mX11_hires 15 [some (.ref 94), some (.int x3), none] [] S4 (rx_pi zr zS) := by
    intro x3 S4 h
    subst eJ15_1
    refine ev_aload_n (i := 0) 16 dX11_hires_15 rfl rfl rfl ?_
    obtain ⟨x6, S5, g7, h⟩ := rx_bd_o h
    refine ev_cVv0 19 dX11_hires_16 (em_X11_fillsHire g7) mm_X11_fillsHire mv_X11_fillsHire lk_11_442 dk_94 (by decide) rfl (Nat.le_of_ble_eq_true rfl) (Nat.le_of_ble_eq_true rfl) rfl ?_
    refine ev_aload_n (i := 0) 20 dX11_hires_19 rfl rfl rfl ?_
    refine ev_get (v := .int (S5.1 94 57)) 23 dX11_hires_20 dk_94 fl_11_433 (by decide) rfl rfl rfl ?_
    refine ev_if_ge 29 26 dX11_hires_23 rfl rfl (fun c8 => ?_) (fun c8 => ?_)
    · replace h := rx_if_t c8 h
      refine ev_iload_n (i := 1) 30 dX11_hires_29 rfl rfl rfl ?_
      refine ev_iconst (v := (-1)) 31 dX11_hires_30 (by decide) rfl ?_
      refine ev_icmp_ne 39 34 dX11_hires_31 rfl rfl (fun c9 => ?_) (fun c9 => ?_)
      · replace h := rx_if_f c9 h
        refine ev_iconst (v := 0) 40 dX11_hires_39 (by decide) rfl ?_
        refine ev_istore_n (ls' := [some (.ref 94), some (.int x3), some (.int 0)]) 41 dX11_hires_40 rfl (Nat.le_of_ble_eq_true rfl) rfl rfl ?_
        obtain ⟨J59_2, eJ59_2, h⟩ := rx_let_o h
        have hJ59_2 : ∀ (x10 : Int32) (S11 : rx_S), J59_2 x10 S11 = some (zr, zS) → EV gM (d + 6) mX11_hires 59 [some (.ref 94), none, some (.int x10)] [] S11 (rx_pi zr zS) := by
          intro x10 S11 h
          subst eJ59_2
          refine ev_aload_n (i := 0) 60 dX11_hires_59 rfl rfl rfl ?_
          refine ev_get (v := .int (S11.1 94 57)) 63 dX11_hires_60 dk_94 fl_11_433 (by decide) rfl rfl rfl ?_
          refine ev_aload_n (i := 0) 64 dX11_hires_63 rfl rfl rfl ?_
          refine ev_get (v := .int (S11.1 94 59)) 67 dX11_hires_64 dk_94 fl_11_427 (by decide) rfl rfl rfl ?_
          refine ev_iconst (v := 1) 68 dX11_hires_67 (by decide) rfl ?_
          refine ev_isub 69 dX11_hires_68 rfl ?_
          refine ev_iload_n (i := 2) 70 dX11_hires_69 rfl rfl rfl ?_
          refine ev_isub 71 dX11_hires_70 rfl ?_
          obtain ⟨x13, S12, g14, h⟩ := rx_bd_o h
          refine ev_cSi1 74 dX11_hires_71 (em_X11_fours g14) mm_X11_fours ms_X11_fours lk_11_430 (Nat.le_of_ble_eq_true rfl) (Nat.le_of_ble_eq_true rfl) rfl ?_
          obtain ⟨g15, h⟩ := rx_nz_o h
          refine ev_idiv 75 dX11_hires_74 g15 rfl ?_
          refine ev_iconst (v := 4) 76 dX11_hires_75 (by decide) rfl ?_
          refine ev_rem 77 dX11_hires_76 (by decide) rfl ?_
          exact ev_ireturn dX11_hires_77 rfl (rx_ret_i h)
        exact (em_X11_hires_L41 hJ59_2 _ _ _ _ h).fewer (rx_le_s (rx_le_s (rx_le_s rx_le_0)))
      · replace h := rx_if_t c9 h
        refine ev_aload_n (i := 0) 35 dX11_hires_34 rfl rfl rfl ?_
        refine ev_get (v := .int (S5.1 94 56)) 38 dX11_hires_35 dk_94 fl_11_439 (by decide) rfl rfl rfl ?_
        exact ev_ireturn dX11_hires_38 rfl (rx_ret_i h)
    · replace h := rx_if_f c8 h
      refine ev_bipush (v := (-2)) 28 dX11_hires_26 (by decide) rfl ?_
      exact ev_ireturn dX11_hires_28 rfl (rx_ret_i h)
  refine ev_icmp_eq 15 5 dX11_hires_2 rfl rfl (fun c25 => ?_) (fun c25 => ?_)
  · replace h := rx_if_t c25 h
    exact (hJ15_1 _ _ h).fewer (rx_le_s (rx_le_s (rx_le_n rx_le_0)))
  · replace h := rx_if_f c25 h
    refine ev_aload_n (i := 0) 6 dX11_hires_5 rfl rfl rfl ?_
    refine ev_iload_n (i := 1) 7 dX11_hires_6 rfl rfl rfl ?_
    obtain ⟨x27, S26, g28, h⟩ := rx_bd_o h
    refine ev_cVi1 10 dX11_hires_7 (em_X11_isCouple g28) mm_X11_isCouple mv_X11_isCouple lk_11_399 dk_94 (by decide) rfl (Nat.le_of_ble_eq_true rfl) (Nat.le_of_ble_eq_true rfl) rfl ?_
    refine ev_if_ne 15 13 dX11_hires_10 rfl rfl (fun c29 => ?_) (fun c29 => ?_)
    · replace h := rx_if_f c29 h
      exact (hJ15_1 _ _ h).fewer (rx_le_s (rx_le_s (rx_le_n rx_le_0)))
    · replace h := rx_if_t c29 h
      refine ev_iconst (v := (-1)) 14 dX11_hires_13 (by decide) rfl ?_
      exact ev_ireturn dX11_hires_14 rfl (rx_ret_i h)

def f_X11_isLong (x0 : Int32) (S0 : rx_S) : Option (Int32 × rx_S) := rx_bd (f_X11_in x0 0 60 S0) (fun x3 S2 => rx_bl x3 (some (x3, S2)))
set_option maxHeartbeats 4000000 in
set_option maxRecDepth 20000 in
theorem em_X11_isLong {G : Nat × Nat} {d : Nat} {x0 : Int32} {S0 : rx_S} {zr : Int32} {zS : rx_S} (h : f_X11_isLong x0 S0 = some (zr, zS)) : EM G (d + 1) mX11_isLong [.int x0] S0 (rx_pi zr zS) := by
  unfold f_X11_isLong at h
  show EV G (d + 1) mX11_isLong 0 [some (.int x0)] [] S0 (rx_pi zr zS)
  refine ev_iload_n (i := 0) 1 dX11_isLong_0 rfl rfl rfl ?_
  refine ev_iconst (v := 0) 2 dX11_isLong_1 (by decide) rfl ?_
  refine ev_bipush (v := 60) 4 dX11_isLong_2 (by decide) rfl ?_
  obtain ⟨x3, S2, g4, h⟩ := rx_bd_o h
  refine ev_cSi3 7 dX11_isLong_4 (em_X11_in g4) mm_X11_in ms_X11_in lk_11_316 (Nat.le_of_ble_eq_true rfl) (Nat.le_of_ble_eq_true rfl) rfl ?_
  obtain ⟨g5, h⟩ := rx_bl_o h
  exact ev_zreturn dX11_isLong_7 rfl (rx_nb g5) (rx_ret_i h)

def f_X11_then (N : Nat) (x1 : Int32) (x2 : Int32) (S0 : rx_S) : Option (Int32 × rx_S) := rx_bd (f_X11_isSpouse x1 S0) (fun x5 S4 => if x5 = 0 then (some ((-1), S4)) else (rx_bd (f_X11_isLong x2 S4) (fun x9 S8 => if x9 = 0 then (some ((-1), S8)) else (rx_bd (f_X11_copies N S8) (fun x13 S12 => rx_bd (f_X11_goes N x2 S12) (fun x16 S15 => rx_gd x1 48 (some ((S15.1 127 (Int32.toNatClampNeg x1)), S15))))))))
set_option maxHeartbeats 4000000 in
set_option maxRecDepth 20000 in
theorem em_X11_then {d N : Nat} {x1 : Int32} {x2 : Int32} {S0 : rx_S} {zr : Int32} {zS : rx_S} (h : f_X11_then N x1 x2 S0 = some (zr, zS)) : EM gM (d + 8) mX11_then [.ref 94, .int x1, .int x2] S0 (rx_pi zr zS) := by
  unfold f_X11_then at h
  show EV gM (d + 8) mX11_then 0 [some (.ref 94), some (.int x1), some (.int x2)] [] S0 (rx_pi zr zS)
  refine ev_aload_n (i := 0) 1 dX11_then_0 rfl rfl rfl ?_
  refine ev_iload_n (i := 1) 2 dX11_then_1 rfl rfl rfl ?_
  obtain ⟨x5, S4, g6, h⟩ := rx_bd_o h
  refine ev_cVi1 5 dX11_then_2 (em_X11_isSpouse g6) mm_X11_isSpouse mv_X11_isSpouse lk_11_393 dk_94 (by decide) rfl (Nat.le_of_ble_eq_true rfl) (Nat.le_of_ble_eq_true rfl) rfl ?_
  refine ev_if_eq 15 8 dX11_then_5 rfl rfl (fun c7 => ?_) (fun c7 => ?_)
  · replace h := rx_if_t c7 h
    refine ev_iconst (v := (-1)) 16 dX11_then_15 (by decide) rfl ?_
    exact ev_ireturn dX11_then_16 rfl (rx_ret_i h)
  · replace h := rx_if_f c7 h
    refine ev_iload_n (i := 2) 9 dX11_then_8 rfl rfl rfl ?_
    obtain ⟨x9, S8, g10, h⟩ := rx_bd_o h
    refine ev_cSi1 12 dX11_then_9 (em_X11_isLong g10) mm_X11_isLong ms_X11_isLong lk_11_445 (Nat.le_of_ble_eq_true rfl) (Nat.le_of_ble_eq_true rfl) rfl ?_
    refine ev_if_ne 17 15 dX11_then_12 rfl rfl (fun c11 => ?_) (fun c11 => ?_)
    · replace h := rx_if_f c11 h
      refine ev_aload_n (i := 0) 18 dX11_then_17 rfl rfl rfl ?_
      obtain ⟨x13, S12, g14, h⟩ := rx_bd_o h
      refine ev_cVv0 21 dX11_then_18 (em_X11_copies g14) mm_X11_copies mv_X11_copies lk_11_396 dk_94 (by decide) rfl (Nat.le_of_ble_eq_true rfl) (Nat.le_of_ble_eq_true rfl) rfl ?_
      refine ev_aload_n (i := 0) 22 dX11_then_21 rfl rfl rfl ?_
      refine ev_iload_n (i := 2) 23 dX11_then_22 rfl rfl rfl ?_
      obtain ⟨x16, S15, g17, h⟩ := rx_bd_o h
      refine ev_cVv1 26 dX11_then_23 (em_X11_goes g17) mm_X11_goes mv_X11_goes lk_11_409 dk_94 (by decide) rfl (Nat.le_of_ble_eq_true rfl) (Nat.le_of_ble_eq_true rfl) rfl ?_
      refine ev_aload_n (i := 0) 27 dX11_then_26 rfl rfl rfl ?_
      refine ev_get (v := .ref 127) 30 dX11_then_27 dk_94 fl_11_116 (by decide) rfl rfl rfl ?_
      refine ev_iload_n (i := 1) 31 dX11_then_30 rfl rfl rfl ?_
      obtain ⟨g18, h⟩ := rx_gd_o h
      refine ex_iald _ 32 dX11_then_31 dk_127 g18 rfl rfl ?_
      exact ev_ireturn dX11_then_32 rfl (rx_ret_i h)
    · replace h := rx_if_t c11 h
      refine ev_iconst (v := (-1)) 16 dX11_then_15 (by decide) rfl ?_
      exact ev_ireturn dX11_then_16 rfl (rx_ret_i h)

def f_X11_paid (N : Nat) (x1 : Int32) (x2 : Int32) (x3 : Int32) (S0 : rx_S) : Option (Int32 × rx_S) := rx_bd (f_X11_isThird x1 S0) (fun x6 S5 => if x6 = 0 then (some ((-100000), S5)) else (rx_bd (f_X11_isLong x2 S5) (fun x10 S9 => if x10 = 0 then (some ((-100000), S9)) else (rx_bd (f_X11_in x3 0 2 S9) (fun x14 S13 => if x14 = 0 then (some ((-100000), S13)) else (rx_bd (f_X11_copies N S13) (fun x18 S17 => rx_bd (f_X11_goes N x2 S17) (fun x21 S20 => if x3 = 0 then (rx_gd ((36 : Int32) + x1) 48 (some ((S20.1 127 (Int32.toNatClampNeg ((36 : Int32) + x1))), S20))) else (rx_gd (((20 : Int32) + ((4 : Int32) * x3)) + x1) 48 (some ((S20.1 127 (Int32.toNatClampNeg (((20 : Int32) + ((4 : Int32) * x3)) + x1))), S20)))))))))))
set_option maxHeartbeats 4000000 in
set_option maxRecDepth 20000 in
theorem em_X11_paid {d N : Nat} {x1 : Int32} {x2 : Int32} {x3 : Int32} {S0 : rx_S} {zr : Int32} {zS : rx_S} (h : f_X11_paid N x1 x2 x3 S0 = some (zr, zS)) : EM gM (d + 8) mX11_paid [.ref 94, .int x1, .int x2, .int x3] S0 (rx_pi zr zS) := by
  unfold f_X11_paid at h
  show EV gM (d + 8) mX11_paid 0 [some (.ref 94), some (.int x1), some (.int x2), some (.int x3)] [] S0 (rx_pi zr zS)
  refine ev_aload_n (i := 0) 1 dX11_paid_0 rfl rfl rfl ?_
  refine ev_iload_n (i := 1) 2 dX11_paid_1 rfl rfl rfl ?_
  obtain ⟨x6, S5, g7, h⟩ := rx_bd_o h
  refine ev_cVi1 5 dX11_paid_2 (em_X11_isThird g7) mm_X11_isThird mv_X11_isThird lk_11_402 dk_94 (by decide) rfl (Nat.le_of_ble_eq_true rfl) (Nat.le_of_ble_eq_true rfl) rfl ?_
  refine ev_if_eq 24 8 dX11_paid_5 rfl rfl (fun c8 => ?_) (fun c8 => ?_)
  · replace h := rx_if_t c8 h
    refine ev_ldcw (v := (-100000)) 27 dX11_paid_24 rfl ct_11_405 rfl ?_
    exact ev_ireturn dX11_paid_27 rfl (rx_ret_i h)
  · replace h := rx_if_f c8 h
    refine ev_iload_n (i := 2) 9 dX11_paid_8 rfl rfl rfl ?_
    obtain ⟨x10, S9, g11, h⟩ := rx_bd_o h
    refine ev_cSi1 12 dX11_paid_9 (em_X11_isLong g11) mm_X11_isLong ms_X11_isLong lk_11_445 (Nat.le_of_ble_eq_true rfl) (Nat.le_of_ble_eq_true rfl) rfl ?_
    refine ev_if_eq 24 15 dX11_paid_12 rfl rfl (fun c12 => ?_) (fun c12 => ?_)
    · replace h := rx_if_t c12 h
      refine ev_ldcw (v := (-100000)) 27 dX11_paid_24 rfl ct_11_405 rfl ?_
      exact ev_ireturn dX11_paid_27 rfl (rx_ret_i h)
    · replace h := rx_if_f c12 h
      refine ev_iload_n (i := 3) 16 dX11_paid_15 rfl rfl rfl ?_
      refine ev_iconst (v := 0) 17 dX11_paid_16 (by decide) rfl ?_
      refine ev_iconst (v := 2) 18 dX11_paid_17 (by decide) rfl ?_
      obtain ⟨x14, S13, g15, h⟩ := rx_bd_o h
      refine ev_cSi3 21 dX11_paid_18 (em_X11_in g15) mm_X11_in ms_X11_in lk_11_316 (Nat.le_of_ble_eq_true rfl) (Nat.le_of_ble_eq_true rfl) rfl ?_
      refine ev_if_ne 28 24 dX11_paid_21 rfl rfl (fun c16 => ?_) (fun c16 => ?_)
      · replace h := rx_if_f c16 h
        refine ev_aload_n (i := 0) 29 dX11_paid_28 rfl rfl rfl ?_
        obtain ⟨x18, S17, g19, h⟩ := rx_bd_o h
        refine ev_cVv0 32 dX11_paid_29 (em_X11_copies g19) mm_X11_copies mv_X11_copies lk_11_396 dk_94 (by decide) rfl (Nat.le_of_ble_eq_true rfl) (Nat.le_of_ble_eq_true rfl) rfl ?_
        refine ev_aload_n (i := 0) 33 dX11_paid_32 rfl rfl rfl ?_
        refine ev_iload_n (i := 2) 34 dX11_paid_33 rfl rfl rfl ?_
        obtain ⟨x21, S20, g22, h⟩ := rx_bd_o h
        refine ev_cVv1 37 dX11_paid_34 (em_X11_goes g22) mm_X11_goes mv_X11_goes lk_11_409 dk_94 (by decide) rfl (Nat.le_of_ble_eq_true rfl) (Nat.le_of_ble_eq_true rfl) rfl ?_
        refine ev_iload_n (i := 3) 38 dX11_paid_37 rfl rfl rfl ?_
        refine ev_if_ne 53 41 dX11_paid_38 rfl rfl (fun c23 => ?_) (fun c23 => ?_)
        · replace h := rx_if_f c23 h
          refine ev_aload_n (i := 0) 54 dX11_paid_53 rfl rfl rfl ?_
          refine ev_get (v := .ref 127) 57 dX11_paid_54 dk_94 fl_11_116 (by decide) rfl rfl rfl ?_
          refine ev_bipush (v := 20) 59 dX11_paid_57 (by decide) rfl ?_
          refine ev_iconst (v := 4) 60 dX11_paid_59 (by decide) rfl ?_
          refine ev_iload_n (i := 3) 61 dX11_paid_60 rfl rfl rfl ?_
          refine ev_imul 62 dX11_paid_61 rfl ?_
          refine ev_iadd 63 dX11_paid_62 rfl ?_
          refine ev_iload_n (i := 1) 64 dX11_paid_63 rfl rfl rfl ?_
          refine ev_iadd 65 dX11_paid_64 rfl ?_
          obtain ⟨g24, h⟩ := rx_gd_o h
          refine ex_iald _ 66 dX11_paid_65 dk_127 g24 rfl rfl ?_
          exact ev_ireturn dX11_paid_66 rfl (rx_ret_i h)
        · replace h := rx_if_t c23 h
          refine ev_aload_n (i := 0) 42 dX11_paid_41 rfl rfl rfl ?_
          refine ev_get (v := .ref 127) 45 dX11_paid_42 dk_94 fl_11_116 (by decide) rfl rfl rfl ?_
          refine ev_bipush (v := 36) 47 dX11_paid_45 (by decide) rfl ?_
          refine ev_iload_n (i := 1) 48 dX11_paid_47 rfl rfl rfl ?_
          refine ev_iadd 49 dX11_paid_48 rfl ?_
          obtain ⟨g25, h⟩ := rx_gd_o h
          refine ex_iald _ 50 dX11_paid_49 dk_127 g25 rfl rfl ?_
          refine ev_goto 66 dX11_paid_50 rfl ?_
          exact ev_ireturn dX11_paid_66 rfl (rx_ret_i h)
      · replace h := rx_if_t c16 h
        refine ev_ldcw (v := (-100000)) 27 dX11_paid_24 rfl ct_11_405 rfl ?_
        exact ev_ireturn dX11_paid_27 rfl (rx_ret_i h)

def f_X11_parts_L16 (N : Nat) : Nat → Int32 → Int32 → rx_S → Option (Int32 × rx_S)
  | 0, _, _, _ => none
  | n + 1, x10, x11, S12 => if (200 : Int32) < x11 then (some ((-2), S12)) else (rx_gd ((15 : Int32) + x10) 48 (if (S12.1 127 (Int32.toNatClampNeg ((15 : Int32) + x10))) = 1 then (some (x11, S12)) else (rx_bd (f_X11_weekGoes N S12) (fun x17 S16 => rx_let (x11 + 1) (fun x19 => f_X11_parts_L16 N n x10 x19 S16)))))
def f_X11_parts (N : Nat) (x1 : Int32) (S0 : rx_S) : Option (Int32 × rx_S) := rx_bd (f_X11_isCouple x1 S0) (fun x4 S3 => if x4 = 0 then (some ((-1), S3)) else (rx_bd (f_X11_copies N S3) (fun x8 S7 => f_X11_parts_L16 N N x1 0 S7)))
set_option maxHeartbeats 4000000 in
set_option maxRecDepth 20000 in
theorem em_X11_parts_L16 {d N : Nat} {zr : Int32} {zS : rx_S} : ∀ (n : Nat) (x10 : Int32) (x11 : Int32) (S12 : rx_S), f_X11_parts_L16 N n x10 x11 S12 = some (zr, zS) → EV gM (d + 7) mX11_parts 16 [some (.ref 94), some (.int x10), some (.int x11)] [] S12 (rx_pi zr zS) := by
  intro n
  induction n with
  | zero => intro x10 x11 S12 h; cases h
  | succ n ih =>
    intro x10 x11 S12 h
    rw [f_X11_parts_L16] at h
    refine ev_iload_n (i := 2) 17 dX11_parts_16 rfl rfl rfl ?_
    refine ev_sipush (v := 200) 20 dX11_parts_17 (by decide) rfl ?_
    refine ev_icmp_gt 48 23 dX11_parts_20 rfl rfl (fun c13 => ?_) (fun c13 => ?_)
    · replace h := rx_if_t c13 h
      refine ev_bipush (v := (-2)) 50 dX11_parts_48 (by decide) rfl ?_
      exact ev_ireturn dX11_parts_50 rfl (rx_ret_i h)
    · replace h := rx_if_f c13 h
      refine ev_aload_n (i := 0) 24 dX11_parts_23 rfl rfl rfl ?_
      refine ev_get (v := .ref 127) 27 dX11_parts_24 dk_94 fl_11_116 (by decide) rfl rfl rfl ?_
      refine ev_bipush (v := 15) 29 dX11_parts_27 (by decide) rfl ?_
      refine ev_iload_n (i := 1) 30 dX11_parts_29 rfl rfl rfl ?_
      refine ev_iadd 31 dX11_parts_30 rfl ?_
      obtain ⟨g14, h⟩ := rx_gd_o h
      refine ex_iald _ 32 dX11_parts_31 dk_127 g14 rfl rfl ?_
      refine ev_iconst (v := 1) 33 dX11_parts_32 (by decide) rfl ?_
      refine ev_icmp_ne 38 36 dX11_parts_33 rfl rfl (fun c15 => ?_) (fun c15 => ?_)
      · replace h := rx_if_f c15 h
        refine ev_aload_n (i := 0) 39 dX11_parts_38 rfl rfl rfl ?_
        obtain ⟨x17, S16, g18, h⟩ := rx_bd_o h
        refine ev_cVv0 42 dX11_parts_39 (em_X11_weekGoes g18) mm_X11_weekGoes mv_X11_weekGoes lk_11_390 dk_94 (by decide) rfl (Nat.le_of_ble_eq_true rfl) (Nat.le_of_ble_eq_true rfl) rfl ?_
        obtain ⟨x19, ex19, h⟩ := rx_let_o h
        refine ev_iinc (v := x19) (ls' := [some (.ref 94), some (.int x10), some (.int x19)]) 45 dX11_parts_42 rfl (by rw [ex19]; rfl) (Nat.le_of_ble_eq_true rfl) rfl rfl ?_
        refine ev_goto 16 dX11_parts_45 rfl ?_
        exact (ih _ _ _ h).fewer (rx_le_s (rx_le_s (rx_le_s rx_le_0)))
      · replace h := rx_if_t c15 h
        refine ev_iload_n (i := 2) 37 dX11_parts_36 rfl rfl rfl ?_
        exact ev_ireturn dX11_parts_37 rfl (rx_ret_i h)

set_option maxHeartbeats 4000000 in
set_option maxRecDepth 20000 in
theorem em_X11_parts {d N : Nat} {x1 : Int32} {S0 : rx_S} {zr : Int32} {zS : rx_S} (h : f_X11_parts N x1 S0 = some (zr, zS)) : EM gM (d + 7) mX11_parts [.ref 94, .int x1] S0 (rx_pi zr zS) := by
  unfold f_X11_parts at h
  show EV gM (d + 7) mX11_parts 0 [some (.ref 94), some (.int x1), none] [] S0 (rx_pi zr zS)
  refine ev_aload_n (i := 0) 1 dX11_parts_0 rfl rfl rfl ?_
  refine ev_iload_n (i := 1) 2 dX11_parts_1 rfl rfl rfl ?_
  obtain ⟨x4, S3, g5, h⟩ := rx_bd_o h
  refine ev_cVi1 5 dX11_parts_2 (em_X11_isCouple g5) mm_X11_isCouple mv_X11_isCouple lk_11_399 dk_94 (by decide) rfl (Nat.le_of_ble_eq_true rfl) (Nat.le_of_ble_eq_true rfl) rfl ?_
  refine ev_if_ne 10 8 dX11_parts_5 rfl rfl (fun c6 => ?_) (fun c6 => ?_)
  · replace h := rx_if_f c6 h
    refine ev_aload_n (i := 0) 11 dX11_parts_10 rfl rfl rfl ?_
    obtain ⟨x8, S7, g9, h⟩ := rx_bd_o h
    refine ev_cVv0 14 dX11_parts_11 (em_X11_copies g9) mm_X11_copies mv_X11_copies lk_11_396 dk_94 (by decide) rfl (Nat.le_of_ble_eq_true rfl) (Nat.le_of_ble_eq_true rfl) rfl ?_
    refine ev_iconst (v := 0) 15 dX11_parts_14 (by decide) rfl ?_
    refine ev_istore_n (ls' := [some (.ref 94), some (.int x1), some (.int 0)]) 16 dX11_parts_15 rfl (Nat.le_of_ble_eq_true rfl) rfl rfl ?_
    exact (em_X11_parts_L16 _ _ _ _ h).fewer (rx_le_s (rx_le_s (rx_le_s rx_le_0)))
  · replace h := rx_if_t c6 h
    refine ev_iconst (v := (-1)) 9 dX11_parts_8 (by decide) rfl ?_
    exact ev_ireturn dX11_parts_9 rfl (rx_ret_i h)

def f_X11_fillsPaid_L38 (N : Nat) : Nat → Int32 → Int32 → rx_S → Option (Unit × rx_S)
  | 0, _, _, _ => none
  | n + 1, x13, x14, S15 => if (4 : Int32) ≤ x14 then (some ((), S15)) else (rx_gd ((36 : Int32) + x14) 48 (rx_gd (((4 : Int32) * x13) + x14) 64 (rx_let (rx_ui S15 133 (Int32.toNatClampNeg (((4 : Int32) * x13) + x14)) (S15.1 127 (Int32.toNatClampNeg ((36 : Int32) + x14)))) (fun S19 => rx_let (x14 + 1) (fun x20 => f_X11_fillsPaid_L38 N n x13 x20 S19)))))
def f_X11_fillsPaid_L6 (N : Nat) (K31 : Int32 → Int32 → rx_S → Option (Unit × rx_S)) : Nat → Int32 → Int32 → Int32 → rx_S → Option (Unit × rx_S)
  | 0, _, _, _, _ => none
  | n + 1, x21, x22, x23, S24 => if (4 : Int32) ≤ x23 then (K31 x21 x22 S24) else (rx_gd ((32 : Int32) + x23) 48 (rx_let (rx_ui S24 127 (Int32.toNatClampNeg ((32 : Int32) + x23)) ((x21 >>> (x23 &&& 31)) &&& 1)) (fun S30 => rx_let (x23 + 1) (fun x31 => f_X11_fillsPaid_L6 N K31 n x21 x22 x31 S30))))
def f_X11_fillsPaid (N : Nat) (x1 : Int32) (x2 : Int32) (S0 : rx_S) : Option (Unit × rx_S) := rx_bd (f_X11_copies N S0) (fun x5 S4 => rx_let (fun (x7 : Int32) (x8 : Int32) (S9 : rx_S) => rx_bd (f_X11_goes N x8 S9) (fun x11 S10 => f_X11_fillsPaid_L38 N N x7 0 S10)) (fun J31_1 => f_X11_fillsPaid_L6 N J31_1 N x1 x2 0 S4))
set_option maxHeartbeats 4000000 in
set_option maxRecDepth 20000 in
theorem em_X11_fillsPaid_L38 {d N : Nat} {zr : Unit} {zS : rx_S} : ∀ (n : Nat) (x13 : Int32) (x14 : Int32) (S15 : rx_S), f_X11_fillsPaid_L38 N n x13 x14 S15 = some (zr, zS) → EV gM (d + 8) mX11_fillsPaid 38 [some (.ref 94), some (.int x13), none, some (.int x14)] [] S15 (rx_pv zS) := by
  intro n
  induction n with
  | zero => intro x13 x14 S15 h; cases h
  | succ n ih =>
    intro x13 x14 S15 h
    rw [f_X11_fillsPaid_L38] at h
    refine ev_iload_n (i := 3) 39 dX11_fillsPaid_38 rfl rfl rfl ?_
    refine ev_iconst (v := 4) 40 dX11_fillsPaid_39 (by decide) rfl ?_
    refine ev_icmp_ge 68 43 dX11_fillsPaid_40 rfl rfl (fun c16 => ?_) (fun c16 => ?_)
    · replace h := rx_if_t c16 h
      exact ev_return dX11_fillsPaid_68 rfl (rx_ret_v h)
    · replace h := rx_if_f c16 h
      refine ev_aload_n (i := 0) 44 dX11_fillsPaid_43 rfl rfl rfl ?_
      refine ev_get (v := .ref 133) 47 dX11_fillsPaid_44 dk_94 fl_11_134 (by decide) rfl rfl rfl ?_
      refine ev_iconst (v := 4) 48 dX11_fillsPaid_47 (by decide) rfl ?_
      refine ev_iload_n (i := 1) 49 dX11_fillsPaid_48 rfl rfl rfl ?_
      refine ev_imul 50 dX11_fillsPaid_49 rfl ?_
      refine ev_iload_n (i := 3) 51 dX11_fillsPaid_50 rfl rfl rfl ?_
      refine ev_iadd 52 dX11_fillsPaid_51 rfl ?_
      refine ev_aload_n (i := 0) 53 dX11_fillsPaid_52 rfl rfl rfl ?_
      refine ev_get (v := .ref 127) 56 dX11_fillsPaid_53 dk_94 fl_11_116 (by decide) rfl rfl rfl ?_
      refine ev_bipush (v := 36) 58 dX11_fillsPaid_56 (by decide) rfl ?_
      refine ev_iload_n (i := 3) 59 dX11_fillsPaid_58 rfl rfl rfl ?_
      refine ev_iadd 60 dX11_fillsPaid_59 rfl ?_
      obtain ⟨g17, h⟩ := rx_gd_o h
      refine ex_iald _ 61 dX11_fillsPaid_60 dk_127 g17 rfl rfl ?_
      obtain ⟨g18, h⟩ := rx_gd_o h
      obtain ⟨S19, eS19, h⟩ := rx_let_o h
      refine ex_iast _ 62 dX11_fillsPaid_61 dk_133 g18 rfl rfl eS19 ?_
      obtain ⟨x20, ex20, h⟩ := rx_let_o h
      refine ev_iinc (v := x20) (ls' := [some (.ref 94), some (.int x13), none, some (.int x20)]) 65 dX11_fillsPaid_62 rfl (by rw [ex20]; rfl) (Nat.le_of_ble_eq_true rfl) rfl rfl ?_
      refine ev_goto 38 dX11_fillsPaid_65 rfl ?_
      exact (ih _ _ _ h).fewer (rx_le_s (rx_le_s (rx_le_n (rx_le_s rx_le_0))))

set_option maxHeartbeats 4000000 in
set_option maxRecDepth 20000 in
theorem em_X11_fillsPaid_L6 {d N : Nat} {K31 : Int32 → Int32 → rx_S → Option (Unit × rx_S)} {zr : Unit} {zS : rx_S} (hK31 : ∀ (x25 : Int32) (x26 : Int32) (S27 : rx_S), K31 x25 x26 S27 = some (zr, zS) → EV gM (d + 8) mX11_fillsPaid 31 [some (.ref 94), some (.int x25), some (.int x26), none] [] S27 (rx_pv zS)) : ∀ (n : Nat) (x21 : Int32) (x22 : Int32) (x23 : Int32) (S24 : rx_S), f_X11_fillsPaid_L6 N K31 n x21 x22 x23 S24 = some (zr, zS) → EV gM (d + 8) mX11_fillsPaid 6 [some (.ref 94), some (.int x21), some (.int x22), some (.int x23)] [] S24 (rx_pv zS) := by
  intro n
  induction n with
  | zero => intro x21 x22 x23 S24 h; cases h
  | succ n ih =>
    intro x21 x22 x23 S24 h
    rw [f_X11_fillsPaid_L6] at h
    refine ev_iload_n (i := 3) 7 dX11_fillsPaid_6 rfl rfl rfl ?_
    refine ev_iconst (v := 4) 8 dX11_fillsPaid_7 (by decide) rfl ?_
    refine ev_icmp_ge 31 11 dX11_fillsPaid_8 rfl rfl (fun c28 => ?_) (fun c28 => ?_)
    · replace h := rx_if_t c28 h
      exact (hK31 _ _ _ h).fewer (rx_le_s (rx_le_s (rx_le_s (rx_le_n rx_le_0))))
    · replace h := rx_if_f c28 h
      refine ev_aload_n (i := 0) 12 dX11_fillsPaid_11 rfl rfl rfl ?_
      refine ev_get (v := .ref 127) 15 dX11_fillsPaid_12 dk_94 fl_11_116 (by decide) rfl rfl rfl ?_
      refine ev_bipush (v := 32) 17 dX11_fillsPaid_15 (by decide) rfl ?_
      refine ev_iload_n (i := 3) 18 dX11_fillsPaid_17 rfl rfl rfl ?_
      refine ev_iadd 19 dX11_fillsPaid_18 rfl ?_
      refine ev_iload_n (i := 1) 20 dX11_fillsPaid_19 rfl rfl rfl ?_
      refine ev_iload_n (i := 3) 21 dX11_fillsPaid_20 rfl rfl rfl ?_
      refine ev_ishr 22 dX11_fillsPaid_21 rfl ?_
      refine ev_iconst (v := 1) 23 dX11_fillsPaid_22 (by decide) rfl ?_
      refine ev_iand 24 dX11_fillsPaid_23 rfl ?_
      obtain ⟨g29, h⟩ := rx_gd_o h
      obtain ⟨S30, eS30, h⟩ := rx_let_o h
      refine ex_iast _ 25 dX11_fillsPaid_24 dk_127 g29 rfl rfl eS30 ?_
      obtain ⟨x31, ex31, h⟩ := rx_let_o h
      refine ev_iinc (v := x31) (ls' := [some (.ref 94), some (.int x21), some (.int x22), some (.int x31)]) 28 dX11_fillsPaid_25 rfl (by rw [ex31]; rfl) (Nat.le_of_ble_eq_true rfl) rfl rfl ?_
      refine ev_goto 6 dX11_fillsPaid_28 rfl ?_
      exact (ih _ _ _ _ h).fewer (rx_le_s (rx_le_s (rx_le_s (rx_le_s rx_le_0))))

set_option maxHeartbeats 4000000 in
set_option maxRecDepth 20000 in
theorem em_X11_fillsPaid {d N : Nat} {x1 : Int32} {x2 : Int32} {S0 : rx_S} {zr : Unit} {zS : rx_S} (h : f_X11_fillsPaid N x1 x2 S0 = some (zr, zS)) : EM gM (d + 8) mX11_fillsPaid [.ref 94, .int x1, .int x2] S0 (rx_pv zS) := by
  unfold f_X11_fillsPaid at h
  show EV gM (d + 8) mX11_fillsPaid 0 [some (.ref 94), some (.int x1), some (.int x2), none] [] S0 (rx_pv zS)
  refine ev_aload_n (i := 0) 1 dX11_fillsPaid_0 rfl rfl rfl ?_
  obtain ⟨x5, S4, g6, h⟩ := rx_bd_o h
  refine ev_cVv0 4 dX11_fillsPaid_1 (em_X11_copies g6) mm_X11_copies mv_X11_copies lk_11_396 dk_94 (by decide) rfl (Nat.le_of_ble_eq_true rfl) (Nat.le_of_ble_eq_true rfl) rfl ?_
  refine ev_iconst (v := 0) 5 dX11_fillsPaid_4 (by decide) rfl ?_
  refine ev_istore_n (ls' := [some (.ref 94), some (.int x1), some (.int x2), some (.int 0)]) 6 dX11_fillsPaid_5 rfl (Nat.le_of_ble_eq_true rfl) rfl rfl ?_
  obtain ⟨J31_1, eJ31_1, h⟩ := rx_let_o h
  have hJ31_1 : ∀ (x7 : Int32) (x8 : Int32) (S9 : rx_S), J31_1 x7 x8 S9 = some (zr, zS) → EV gM (d + 8) mX11_fillsPaid 31 [some (.ref 94), some (.int x7), some (.int x8), none] [] S9 (rx_pv zS) := by
    intro x7 x8 S9 h
    subst eJ31_1
    refine ev_aload_n (i := 0) 32 dX11_fillsPaid_31 rfl rfl rfl ?_
    refine ev_iload_n (i := 2) 33 dX11_fillsPaid_32 rfl rfl rfl ?_
    obtain ⟨x11, S10, g12, h⟩ := rx_bd_o h
    refine ev_cVv1 36 dX11_fillsPaid_33 (em_X11_goes g12) mm_X11_goes mv_X11_goes lk_11_409 dk_94 (by decide) rfl (Nat.le_of_ble_eq_true rfl) (Nat.le_of_ble_eq_true rfl) rfl ?_
    refine ev_iconst (v := 0) 37 dX11_fillsPaid_36 (by decide) rfl ?_
    refine ev_istore_n (ls' := [some (.ref 94), some (.int x7), some (.int x8), some (.int 0)]) 38 dX11_fillsPaid_37 rfl (Nat.le_of_ble_eq_true rfl) rfl rfl ?_
    exact (em_X11_fillsPaid_L38 _ _ _ _ h).fewer (rx_le_s (rx_le_s (rx_le_n (rx_le_s rx_le_0))))
  exact (em_X11_fillsPaid_L6 hJ31_1 _ _ _ _ _ h).fewer (rx_le_s (rx_le_s (rx_le_s (rx_le_s rx_le_0))))

