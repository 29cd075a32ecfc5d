def f_X11_tellOne (N : Nat) (S0 : rx_S) : Option (Unit × rx_S) := rx_gd (S0.1 94 11) 403 (rx_let (fun (S3 : rx_S) => rx_gd (S3.1 94 11) 403 (rx_let ((S3.1 97 (Int32.toNatClampNeg (S3.1 94 11))) - 23) (fun x5 => rx_let (fun (x6 : Int32) (S7 : rx_S) => if (S7.1 94 13) ≤ 0 then (rx_bd (f_X11_goesOn S7) (fun x10 S9 => rx_bd (f_X11_tellLaw N x6 S9) (fun x13 S12 => some ((), S12)))) else (some ((), S7))) (fun J250_2 => rx_let (fun (x15 : Int32) (S16 : rx_S) => rx_bd (f_X11_fail 1 S16) (fun x18 S17 => J250_2 x15 S17)) (fun J245_3 => if x5 < 0 then (J245_3 x5 S3) else (rx_gd (S3.1 94 11) 403 (if (S3.1 97 (Int32.toNatClampNeg (S3.1 94 11))) ≤ 29 then (J250_2 x5 S3) else (J245_3 x5 S3)))))))) (fun J214_1 => if (S0.1 97 (Int32.toNatClampNeg (S0.1 94 11))) = 20 then (rx_gd (S0.1 94 19) 2 (rx_bd (f_X11_roomFor (S0.1 104 (Int32.toNatClampNeg (S0.1 94 19))) 6 S0) (fun x26 S25 => if (S25.1 94 13) = 0 then (rx_bd (f_X11_tellSpouse N S25) (fun x30 S29 => some ((), S29))) else (some ((), S25))))) else (if (S0.1 97 (Int32.toNatClampNeg (S0.1 94 11))) = 21 then (rx_gd (S0.1 94 19) 2 (rx_bd (f_X11_roomFor (S0.1 107 (Int32.toNatClampNeg (S0.1 94 19))) 3 S0) (fun x35 S34 => if (S34.1 94 13) = 0 then (rx_bd (f_X11_tellCouple N S34) (fun x39 S38 => some ((), S38))) else (some ((), S34))))) else (if (S0.1 97 (Int32.toNatClampNeg (S0.1 94 11))) = 22 then (rx_gd (S0.1 94 19) 2 (rx_bd (f_X11_roomFor (S0.1 109 (Int32.toNatClampNeg (S0.1 94 19))) 4 S0) (fun x44 S43 => if (S43.1 94 13) = 0 then (rx_bd (f_X11_tellThird N S43) (fun x48 S47 => some ((), S47))) else (some ((), S43))))) else (if (S0.1 97 (Int32.toNatClampNeg (S0.1 94 11))) = 23 then (J214_1 S0) else (if (S0.1 97 (Int32.toNatClampNeg (S0.1 94 11))) = 24 then (J214_1 S0) else (if (S0.1 97 (Int32.toNatClampNeg (S0.1 94 11))) = 25 then (J214_1 S0) else (if (S0.1 97 (Int32.toNatClampNeg (S0.1 94 11))) = 26 then (J214_1 S0) else (if (S0.1 97 (Int32.toNatClampNeg (S0.1 94 11))) = 27 then (J214_1 S0) else (if (S0.1 97 (Int32.toNatClampNeg (S0.1 94 11))) = 28 then (J214_1 S0) else (if (S0.1 97 (Int32.toNatClampNeg (S0.1 94 11))) = 29 then (J214_1 S0) else (if (S0.1 97 (Int32.toNatClampNeg (S0.1 94 11))) = 30 then (rx_bd (f_X11_goesOn S0) (fun x59 S58 => rx_bd (f_X11_bounded 0 99 S58) (fun x62 S61 => rx_gd (S58.1 94 19) 2 (rx_let (rx_ui S61 112 (Int32.toNatClampNeg (S58.1 94 19)) x62) (fun S65 => rx_bd (f_X11_must 4 S65) (fun x67 S66 => some ((), S66))))))) else (if (S0.1 97 (Int32.toNatClampNeg (S0.1 94 11))) = 31 then (rx_bd (f_X11_goesOn S0) (fun x71 S70 => rx_bd (f_X11_bounded 0 9999 S70) (fun x74 S73 => rx_gd (S70.1 94 19) 2 (rx_let (rx_ui S73 113 (Int32.toNatClampNeg (S70.1 94 19)) x74) (fun S77 => rx_bd (f_X11_must 4 S77) (fun x79 S78 => some ((), S78))))))) else (J214_1 S0))))))))))))))
set_option maxHeartbeats 4000000 in
set_option maxRecDepth 20000 in
theorem em_X11_tellOne {d N : Nat} {S0 : rx_S} {zr : Unit} {zS : rx_S} (h : f_X11_tellOne N S0 = some (zr, zS)) : EM gM (d + 6) mX11_tellOne [.ref 94] S0 (rx_pv zS) := by
  unfold f_X11_tellOne at h
  show EV gM (d + 6) mX11_tellOne 0 [some (.ref 94), none] [] S0 (rx_pv zS)
  refine ev_aload_n (i := 0) 1 dX11_tellOne_0 rfl rfl rfl ?_
  refine ev_get (v := .ref 97) 4 dX11_tellOne_1 dk_94 fl_11_20 (by decide) rfl rfl rfl ?_
  refine ev_aload_n (i := 0) 5 dX11_tellOne_4 rfl rfl rfl ?_
  refine ev_get (v := .int (S0.1 94 11)) 8 dX11_tellOne_5 dk_94 fl_11_206 (by decide) rfl rfl rfl ?_
  obtain ⟨g2, h⟩ := rx_gd_o h
  refine ex_iald _ 9 dX11_tellOne_8 dk_97 g2 rfl rfl ?_
  obtain ⟨J214_1, eJ214_1, h⟩ := rx_let_o h
  have hJ214_1 : ∀ (S3 : rx_S), J214_1 S3 = some (zr, zS) → EV gM (d + 6) mX11_tellOne 214 [some (.ref 94), none] [] S3 (rx_pv zS) := by
    intro S3 h
    subst eJ214_1
    refine ev_aload_n (i := 0) 215 dX11_tellOne_214 rfl rfl rfl ?_
    refine ev_get (v := .ref 97) 218 dX11_tellOne_215 dk_94 fl_11_20 (by decide) rfl rfl rfl ?_
    refine ev_aload_n (i := 0) 219 dX11_tellOne_218 rfl rfl rfl ?_
    refine ev_get (v := .int (S3.1 94 11)) 222 dX11_tellOne_219 dk_94 fl_11_206 (by decide) rfl rfl rfl ?_
    obtain ⟨g4, h⟩ := rx_gd_o h
    refine ex_iald _ 223 dX11_tellOne_222 dk_97 g4 rfl rfl ?_
    refine ev_bipush (v := 23) 225 dX11_tellOne_223 (by decide) rfl ?_
    refine ev_isub 226 dX11_tellOne_225 rfl ?_
    obtain ⟨x5, ex5, h⟩ := rx_let_o h
    refine ev_nm ex5 ?_
    refine ev_istore_n (ls' := [some (.ref 94), some (.int x5)]) 227 dX11_tellOne_226 rfl (Nat.le_of_ble_eq_true rfl) rfl rfl ?_
    refine ev_iload_n (i := 1) 228 dX11_tellOne_227 rfl rfl rfl ?_
    obtain ⟨J250_2, eJ250_2, h⟩ := rx_let_o h
    have hJ250_2 : ∀ (x6 : Int32) (S7 : rx_S), J250_2 x6 S7 = some (zr, zS) → EV gM (d + 6) mX11_tellOne 250 [some (.ref 94), some (.int x6)] [] S7 (rx_pv zS) := by
      intro x6 S7 h
      subst eJ250_2
      refine ev_aload_n (i := 0) 251 dX11_tellOne_250 rfl rfl rfl ?_
      refine ev_get (v := .int (S7.1 94 13)) 254 dX11_tellOne_251 dk_94 fl_11_203 (by decide) rfl rfl rfl ?_
      refine ev_if_le 258 257 dX11_tellOne_254 rfl rfl (fun c8 => ?_) (fun c8 => ?_)
      · replace h := rx_if_t c8 h
        refine ev_aload_n (i := 0) 259 dX11_tellOne_258 rfl rfl rfl ?_
        obtain ⟨x10, S9, g11, h⟩ := rx_bd_o h
        refine ev_cVv0 262 dX11_tellOne_259 (em_X11_goesOn g11) mm_X11_goesOn mv_X11_goesOn lk_11_224 dk_94 (by decide) rfl (Nat.le_of_ble_eq_true rfl) (Nat.le_of_ble_eq_true rfl) rfl ?_
        refine ev_aload_n (i := 0) 263 dX11_tellOne_262 rfl rfl rfl ?_
        refine ev_iload_n (i := 1) 264 dX11_tellOne_263 rfl rfl rfl ?_
        obtain ⟨x13, S12, g14, h⟩ := rx_bd_o h
        refine ev_cVv1 267 dX11_tellOne_264 (em_X11_tellLaw g14) mm_X11_tellLaw mv_X11_tellLaw lk_11_277 dk_94 (by decide) rfl (Nat.le_of_ble_eq_true rfl) (Nat.le_of_ble_eq_true rfl) rfl ?_
        exact ev_return dX11_tellOne_267 rfl (rx_ret_v h)
      · replace h := rx_if_f c8 h
        exact ev_return dX11_tellOne_257 rfl (rx_ret_v h)
    obtain ⟨J245_3, eJ245_3, h⟩ := rx_let_o h
    have hJ245_3 : ∀ (x15 : Int32) (S16 : rx_S), J245_3 x15 S16 = some (zr, zS) → EV gM (d + 6) mX11_tellOne 245 [some (.ref 94), some (.int x15)] [] S16 (rx_pv zS) := by
      intro x15 S16 h
      subst eJ245_3
      refine ev_aload_n (i := 0) 246 dX11_tellOne_245 rfl rfl rfl ?_
      refine ev_iconst (v := 1) 247 dX11_tellOne_246 (by decide) rfl ?_
      obtain ⟨x18, S17, g19, h⟩ := rx_bd_o h
      refine ev_cVv1 250 dX11_tellOne_247 (em_X11_fail g19) mm_X11_fail mv_X11_fail lk_11_218 dk_94 (by decide) rfl (Nat.le_of_ble_eq_true rfl) (Nat.le_of_ble_eq_true rfl) rfl ?_
      exact (hJ250_2 _ _ h).fewer (rx_le_s (rx_le_s rx_le_0))
    refine ev_if_lt 245 231 dX11_tellOne_228 rfl rfl (fun c20 => ?_) (fun c20 => ?_)
    · replace h := rx_if_t c20 h
      exact (hJ245_3 _ _ h).fewer (rx_le_s (rx_le_s rx_le_0))
    · replace h := rx_if_f c20 h
      refine ev_aload_n (i := 0) 232 dX11_tellOne_231 rfl rfl rfl ?_
      refine ev_get (v := .ref 97) 235 dX11_tellOne_232 dk_94 fl_11_20 (by decide) rfl rfl rfl ?_
      refine ev_aload_n (i := 0) 236 dX11_tellOne_235 rfl rfl rfl ?_
      refine ev_get (v := .int (S3.1 94 11)) 239 dX11_tellOne_236 dk_94 fl_11_206 (by decide) rfl rfl rfl ?_
      obtain ⟨g21, h⟩ := rx_gd_o h
      refine ex_iald _ 240 dX11_tellOne_239 dk_97 g21 rfl rfl ?_
      refine ev_bipush (v := 29) 242 dX11_tellOne_240 (by decide) rfl ?_
      refine ev_icmp_le 250 245 dX11_tellOne_242 rfl rfl (fun c22 => ?_) (fun c22 => ?_)
      · replace h := rx_if_t c22 h
        exact (hJ250_2 _ _ h).fewer (rx_le_s (rx_le_s rx_le_0))
      · replace h := rx_if_f c22 h
        exact (hJ245_3 _ _ h).fewer (rx_le_s (rx_le_s rx_le_0))
  by_cases c23 : (S0.1 97 (Int32.toNatClampNeg (S0.1 94 11))) = 20
  · replace h := rx_if_t c23 h
    refine ev_tableIn 72 dX11_tellOne_9 (by rw [c23]; decide) (by rw [c23]; decide) (off := 63) (by rw [c23]; rfl) rfl ?_
    refine ev_aload_n (i := 0) 73 dX11_tellOne_72 rfl rfl rfl ?_
    refine ev_aload_n (i := 0) 74 dX11_tellOne_73 rfl rfl rfl ?_
    refine ev_get (v := .ref 104) 77 dX11_tellOne_74 dk_94 fl_11_46 (by decide) rfl rfl rfl ?_
    refine ev_aload_n (i := 0) 78 dX11_tellOne_77 rfl rfl rfl ?_
    refine ev_get (v := .int (S0.1 94 19)) 81 dX11_tellOne_78 dk_94 fl_11_236 (by decide) rfl rfl rfl ?_
    obtain ⟨g24, h⟩ := rx_gd_o h
    refine ex_iald _ 82 dX11_tellOne_81 dk_104 g24 rfl rfl ?_
    refine ev_bipush (v := 6) 84 dX11_tellOne_82 (by decide) rfl ?_
    obtain ⟨x26, S25, g27, h⟩ := rx_bd_o h
    refine ev_cVv2 87 dX11_tellOne_84 (em_X11_roomFor g27) mm_X11_roomFor mv_X11_roomFor lk_11_257 dk_94 (by decide) rfl (Nat.le_of_ble_eq_true rfl) (Nat.le_of_ble_eq_true rfl) rfl ?_
    refine ev_aload_n (i := 0) 88 dX11_tellOne_87 rfl rfl rfl ?_
    refine ev_get (v := .int (S25.1 94 13)) 91 dX11_tellOne_88 dk_94 fl_11_203 (by decide) rfl rfl rfl ?_
    refine ev_if_ne 267 94 dX11_tellOne_91 rfl rfl (fun c28 => ?_) (fun c28 => ?_)
    · replace h := rx_if_f c28 h
      exact ev_return dX11_tellOne_267 rfl (rx_ret_v h)
    · replace h := rx_if_t c28 h
      refine ev_aload_n (i := 0) 95 dX11_tellOne_94 rfl rfl rfl ?_
      obtain ⟨x30, S29, g31, h⟩ := rx_bd_o h
      refine ev_cVv0 98 dX11_tellOne_95 (em_X11_tellSpouse g31) mm_X11_tellSpouse mv_X11_tellSpouse lk_11_261 dk_94 (by decide) rfl (Nat.le_of_ble_eq_true rfl) (Nat.le_of_ble_eq_true rfl) rfl ?_
      refine ev_goto 267 dX11_tellOne_98 rfl ?_
      exact ev_return dX11_tellOne_267 rfl (rx_ret_v h)
  · replace h := rx_if_f c23 h
    by_cases c32 : (S0.1 97 (Int32.toNatClampNeg (S0.1 94 11))) = 21
    · replace h := rx_if_t c32 h
      refine ev_tableIn 101 dX11_tellOne_9 (by rw [c32]; decide) (by rw [c32]; decide) (off := 92) (by rw [c32]; rfl) rfl ?_
      refine ev_aload_n (i := 0) 102 dX11_tellOne_101 rfl rfl rfl ?_
      refine ev_aload_n (i := 0) 103 dX11_tellOne_102 rfl rfl rfl ?_
      refine ev_get (v := .ref 107) 106 dX11_tellOne_103 dk_94 fl_11_55 (by decide) rfl rfl rfl ?_
      refine ev_aload_n (i := 0) 107 dX11_tellOne_106 rfl rfl rfl ?_
      refine ev_get (v := .int (S0.1 94 19)) 110 dX11_tellOne_107 dk_94 fl_11_236 (by decide) rfl rfl rfl ?_
      obtain ⟨g33, h⟩ := rx_gd_o h
      refine ex_iald _ 111 dX11_tellOne_110 dk_107 g33 rfl rfl ?_
      refine ev_iconst (v := 3) 112 dX11_tellOne_111 (by decide) rfl ?_
      obtain ⟨x35, S34, g36, h⟩ := rx_bd_o h
      refine ev_cVv2 115 dX11_tellOne_112 (em_X11_roomFor g36) mm_X11_roomFor mv_X11_roomFor lk_11_257 dk_94 (by decide) rfl (Nat.le_of_ble_eq_true rfl) (Nat.le_of_ble_eq_true rfl) rfl ?_
      refine ev_aload_n (i := 0) 116 dX11_tellOne_115 rfl rfl rfl ?_
      refine ev_get (v := .int (S34.1 94 13)) 119 dX11_tellOne_116 dk_94 fl_11_203 (by decide) rfl rfl rfl ?_
      refine ev_if_ne 267 122 dX11_tellOne_119 rfl rfl (fun c37 => ?_) (fun c37 => ?_)
      · replace h := rx_if_f c37 h
        exact ev_return dX11_tellOne_267 rfl (rx_ret_v h)
      · replace h := rx_if_t c37 h
        refine ev_aload_n (i := 0) 123 dX11_tellOne_122 rfl rfl rfl ?_
        obtain ⟨x39, S38, g40, h⟩ := rx_bd_o h
        refine ev_cVv0 126 dX11_tellOne_123 (em_X11_tellCouple g40) mm_X11_tellCouple mv_X11_tellCouple lk_11_264 dk_94 (by decide) rfl (Nat.le_of_ble_eq_true rfl) (Nat.le_of_ble_eq_true rfl) rfl ?_
        refine ev_goto 267 dX11_tellOne_126 rfl ?_
        exact ev_return dX11_tellOne_267 rfl (rx_ret_v h)
    · replace h := rx_if_f c32 h
      by_cases c41 : (S0.1 97 (Int32.toNatClampNeg (S0.1 94 11))) = 22
      · replace h := rx_if_t c41 h
        refine ev_tableIn 129 dX11_tellOne_9 (by rw [c41]; decide) (by rw [c41]; decide) (off := 120) (by rw [c41]; rfl) rfl ?_
        refine ev_aload_n (i := 0) 130 dX11_tellOne_129 rfl rfl rfl ?_
        refine ev_aload_n (i := 0) 131 dX11_tellOne_130 rfl rfl rfl ?_
        refine ev_get (v := .ref 109) 134 dX11_tellOne_131 dk_94 fl_11_61 (by decide) rfl rfl rfl ?_
        refine ev_aload_n (i := 0) 135 dX11_tellOne_134 rfl rfl rfl ?_
        refine ev_get (v := .int (S0.1 94 19)) 138 dX11_tellOne_135 dk_94 fl_11_236 (by decide) rfl rfl rfl ?_
        obtain ⟨g42, h⟩ := rx_gd_o h
        refine ex_iald _ 139 dX11_tellOne_138 dk_109 g42 rfl rfl ?_
        refine ev_iconst (v := 4) 140 dX11_tellOne_139 (by decide) rfl ?_
        obtain ⟨x44, S43, g45, h⟩ := rx_bd_o h
        refine ev_cVv2 143 dX11_tellOne_140 (em_X11_roomFor g45) mm_X11_roomFor mv_X11_roomFor lk_11_257 dk_94 (by decide) rfl (Nat.le_of_ble_eq_true rfl) (Nat.le_of_ble_eq_true rfl) rfl ?_
        refine ev_aload_n (i := 0) 144 dX11_tellOne_143 rfl rfl rfl ?_
        refine ev_get (v := .int (S43.1 94 13)) 147 dX11_tellOne_144 dk_94 fl_11_203 (by decide) rfl rfl rfl ?_
        refine ev_if_ne 267 150 dX11_tellOne_147 rfl rfl (fun c46 => ?_) (fun c46 => ?_)
        · replace h := rx_if_f c46 h
          exact ev_return dX11_tellOne_267 rfl (rx_ret_v h)
        · replace h := rx_if_t c46 h
          refine ev_aload_n (i := 0) 151 dX11_tellOne_150 rfl rfl rfl ?_
          obtain ⟨x48, S47, g49, h⟩ := rx_bd_o h
          refine ev_cVv0 154 dX11_tellOne_151 (em_X11_tellThird g49) mm_X11_tellThird mv_X11_tellThird lk_11_267 dk_94 (by decide) rfl (Nat.le_of_ble_eq_true rfl) (Nat.le_of_ble_eq_true rfl) rfl ?_
          refine ev_goto 267 dX11_tellOne_154 rfl ?_
          exact ev_return dX11_tellOne_267 rfl (rx_ret_v h)
      · replace h := rx_if_f c41 h
        by_cases c50 : (S0.1 97 (Int32.toNatClampNeg (S0.1 94 11))) = 23
        · replace h := rx_if_t c50 h
          refine ev_tableIn 214 dX11_tellOne_9 (by rw [c50]; decide) (by rw [c50]; decide) (off := 205) (by rw [c50]; rfl) rfl ?_
          exact (hJ214_1 _ h).fewer (rx_le_s (rx_le_n rx_le_0))
        · replace h := rx_if_f c50 h
          by_cases c51 : (S0.1 97 (Int32.toNatClampNeg (S0.1 94 11))) = 24
          · replace h := rx_if_t c51 h
            refine ev_tableIn 214 dX11_tellOne_9 (by rw [c51]; decide) (by rw [c51]; decide) (off := 205) (by rw [c51]; rfl) rfl ?_
            exact (hJ214_1 _ h).fewer (rx_le_s (rx_le_n rx_le_0))
          · replace h := rx_if_f c51 h
            by_cases c52 : (S0.1 97 (Int32.toNatClampNeg (S0.1 94 11))) = 25
            · replace h := rx_if_t c52 h
              refine ev_tableIn 214 dX11_tellOne_9 (by rw [c52]; decide) (by rw [c52]; decide) (off := 205) (by rw [c52]; rfl) rfl ?_
              exact (hJ214_1 _ h).fewer (rx_le_s (rx_le_n rx_le_0))
            · replace h := rx_if_f c52 h
              by_cases c53 : (S0.1 97 (Int32.toNatClampNeg (S0.1 94 11))) = 26
              · replace h := rx_if_t c53 h
                refine ev_tableIn 214 dX11_tellOne_9 (by rw [c53]; decide) (by rw [c53]; decide) (off := 205) (by rw [c53]; rfl) rfl ?_
                exact (hJ214_1 _ h).fewer (rx_le_s (rx_le_n rx_le_0))
              · replace h := rx_if_f c53 h
                by_cases c54 : (S0.1 97 (Int32.toNatClampNeg (S0.1 94 11))) = 27
                · replace h := rx_if_t c54 h
                  refine ev_tableIn 214 dX11_tellOne_9 (by rw [c54]; decide) (by rw [c54]; decide) (off := 205) (by rw [c54]; rfl) rfl ?_
                  exact (hJ214_1 _ h).fewer (rx_le_s (rx_le_n rx_le_0))
                · replace h := rx_if_f c54 h
                  by_cases c55 : (S0.1 97 (Int32.toNatClampNeg (S0.1 94 11))) = 28
                  · replace h := rx_if_t c55 h
                    refine ev_tableIn 214 dX11_tellOne_9 (by rw [c55]; decide) (by rw [c55]; decide) (off := 205) (by rw [c55]; rfl) rfl ?_
                    exact (hJ214_1 _ h).fewer (rx_le_s (rx_le_n rx_le_0))
                  · replace h := rx_if_f c55 h
                    by_cases c56 : (S0.1 97 (Int32.toNatClampNeg (S0.1 94 11))) = 29
                    · replace h := rx_if_t c56 h
                      refine ev_tableIn 214 dX11_tellOne_9 (by rw [c56]; decide) (by rw [c56]; decide) (off := 205) (by rw [c56]; rfl) rfl ?_
                      exact (hJ214_1 _ h).fewer (rx_le_s (rx_le_n rx_le_0))
                    · replace h := rx_if_f c56 h
                      by_cases c57 : (S0.1 97 (Int32.toNatClampNeg (S0.1 94 11))) = 30
                      · replace h := rx_if_t c57 h
                        refine ev_tableIn 157 dX11_tellOne_9 (by rw [c57]; decide) (by rw [c57]; decide) (off := 148) (by rw [c57]; rfl) rfl ?_
                        refine ev_aload_n (i := 0) 158 dX11_tellOne_157 rfl rfl rfl ?_
                        obtain ⟨x59, S58, g60, h⟩ := rx_bd_o h
                        refine ev_cVv0 161 dX11_tellOne_158 (em_X11_goesOn g60) mm_X11_goesOn mv_X11_goesOn lk_11_224 dk_94 (by decide) rfl (Nat.le_of_ble_eq_true rfl) (Nat.le_of_ble_eq_true rfl) rfl ?_
                        refine ev_aload_n (i := 0) 162 dX11_tellOne_161 rfl rfl rfl ?_
                        refine ev_get (v := .ref 112) 165 dX11_tellOne_162 dk_94 fl_11_70 (by decide) rfl rfl rfl ?_
                        refine ev_aload_n (i := 0) 166 dX11_tellOne_165 rfl rfl rfl ?_
                        refine ev_get (v := .int (S58.1 94 19)) 169 dX11_tellOne_166 dk_94 fl_11_236 (by decide) rfl rfl rfl ?_
                        refine ev_aload_n (i := 0) 170 dX11_tellOne_169 rfl rfl rfl ?_
                        refine ev_iconst (v := 0) 171 dX11_tellOne_170 (by decide) rfl ?_
                        refine ev_bipush (v := 99) 173 dX11_tellOne_171 (by decide) rfl ?_
                        obtain ⟨x62, S61, g63, h⟩ := rx_bd_o h
                        refine ev_cVi2 176 dX11_tellOne_173 (em_X11_bounded g63) mm_X11_bounded mv_X11_bounded lk_11_270 dk_94 (by decide) rfl (Nat.le_of_ble_eq_true rfl) (Nat.le_of_ble_eq_true rfl) rfl ?_
                        obtain ⟨g64, h⟩ := rx_gd_o h
                        obtain ⟨S65, eS65, h⟩ := rx_let_o h
                        refine ex_iast _ 177 dX11_tellOne_176 dk_112 g64 rfl rfl eS65 ?_
                        refine ev_aload_n (i := 0) 178 dX11_tellOne_177 rfl rfl rfl ?_
                        refine ev_iconst (v := 4) 179 dX11_tellOne_178 (by decide) rfl ?_
                        obtain ⟨x67, S66, g68, h⟩ := rx_bd_o h
                        refine ev_cVv1 182 dX11_tellOne_179 (em_X11_must g68) mm_X11_must mv_X11_must lk_11_274 dk_94 (by decide) rfl (Nat.le_of_ble_eq_true rfl) (Nat.le_of_ble_eq_true rfl) rfl ?_
                        refine ev_goto 267 dX11_tellOne_182 rfl ?_
                        exact ev_return dX11_tellOne_267 rfl (rx_ret_v h)
                      · replace h := rx_if_f c57 h
                        by_cases c69 : (S0.1 97 (Int32.toNatClampNeg (S0.1 94 11))) = 31
                        · replace h := rx_if_t c69 h
                          refine ev_tableIn 185 dX11_tellOne_9 (by rw [c69]; decide) (by rw [c69]; decide) (off := 176) (by rw [c69]; rfl) rfl ?_
                          refine ev_aload_n (i := 0) 186 dX11_tellOne_185 rfl rfl rfl ?_
                          obtain ⟨x71, S70, g72, h⟩ := rx_bd_o h
                          refine ev_cVv0 189 dX11_tellOne_186 (em_X11_goesOn g72) mm_X11_goesOn mv_X11_goesOn lk_11_224 dk_94 (by decide) rfl (Nat.le_of_ble_eq_true rfl) (Nat.le_of_ble_eq_true rfl) rfl ?_
                          refine ev_aload_n (i := 0) 190 dX11_tellOne_189 rfl rfl rfl ?_
                          refine ev_get (v := .ref 113) 193 dX11_tellOne_190 dk_94 fl_11_73 (by decide) rfl rfl rfl ?_
                          refine ev_aload_n (i := 0) 194 dX11_tellOne_193 rfl rfl rfl ?_
                          refine ev_get (v := .int (S70.1 94 19)) 197 dX11_tellOne_194 dk_94 fl_11_236 (by decide) rfl rfl rfl ?_
                          refine ev_aload_n (i := 0) 198 dX11_tellOne_197 rfl rfl rfl ?_
                          refine ev_iconst (v := 0) 199 dX11_tellOne_198 (by decide) rfl ?_
                          refine ev_sipush (v := 9999) 202 dX11_tellOne_199 (by decide) rfl ?_
                          obtain ⟨x74, S73, g75, h⟩ := rx_bd_o h
                          refine ev_cVi2 205 dX11_tellOne_202 (em_X11_bounded g75) mm_X11_bounded mv_X11_bounded lk_11_270 dk_94 (by decide) rfl (Nat.le_of_ble_eq_true rfl) (Nat.le_of_ble_eq_true rfl) rfl ?_
                          obtain ⟨g76, h⟩ := rx_gd_o h
                          obtain ⟨S77, eS77, h⟩ := rx_let_o h
                          refine ex_iast _ 206 dX11_tellOne_205 dk_113 g76 rfl rfl eS77 ?_
                          refine ev_aload_n (i := 0) 207 dX11_tellOne_206 rfl rfl rfl ?_
                          refine ev_iconst (v := 4) 208 dX11_tellOne_207 (by decide) rfl ?_
                          obtain ⟨x79, S78, g80, h⟩ := rx_bd_o h
                          refine ev_cVv1 211 dX11_tellOne_208 (em_X11_must g80) mm_X11_must mv_X11_must lk_11_274 dk_94 (by decide) rfl (Nat.le_of_ble_eq_true rfl) (Nat.le_of_ble_eq_true rfl) rfl ?_
                          refine ev_goto 267 dX11_tellOne_211 rfl ?_
                          exact ev_return dX11_tellOne_267 rfl (rx_ret_v h)
                        · replace h := rx_if_f c69 h
                          refine ev_tableOut 214 dX11_tellOne_9 (by have q0 := rx_ne c23 (z := 20) (by decide); have q1 := rx_ne c32 (z := 21) (by decide); have q2 := rx_ne c41 (z := 22) (by decide); have q3 := rx_ne c50 (z := 23) (by decide); have q4 := rx_ne c51 (z := 24) (by decide); have q5 := rx_ne c52 (z := 25) (by decide); have q6 := rx_ne c53 (z := 26) (by decide); have q7 := rx_ne c54 (z := 27) (by decide); have q8 := rx_ne c55 (z := 28) (by decide); have q9 := rx_ne c56 (z := 29) (by decide); have q10 := rx_ne c57 (z := 30) (by decide); have q11 := rx_ne c69 (z := 31) (by decide); omega) rfl ?_
                          exact (hJ214_1 _ h).fewer (rx_le_s (rx_le_n rx_le_0))

def f_X11_begins_L88 (N : Nat) (K129 : rx_S → Option (Unit × rx_S)) : Nat → Int32 → rx_S → Option (Unit × rx_S)
  | 0, _, _ => none
  | n + 1, x8, S9 => rx_gd (S9.1 94 18) 2 (if (S9.1 109 (Int32.toNatClampNeg (S9.1 94 18))) ≤ x8 then (K129 S9) else (rx_gd (((4 : Int32) * (S9.1 94 18)) + x8) 8 (rx_gd ((24 : Int32) + x8) 48 (rx_let (rx_ui S9 127 (Int32.toNatClampNeg ((24 : Int32) + x8)) (S9.1 111 (Int32.toNatClampNeg (((4 : Int32) * (S9.1 94 18)) + x8)))) (fun S15 => rx_let (x8 + 1) (fun x16 => f_X11_begins_L88 N K129 n x16 S15))))))
def f_X11_begins_L64 (N : Nat) (K86 : rx_S → Option (Unit × rx_S)) : Nat → Int32 → rx_S → Option (Unit × rx_S)
  | 0, _, _ => none
  | n + 1, x17, S18 => if (3 : Int32) ≤ x17 then (K86 S18) else (rx_gd ((12 : Int32) + x17) 48 (rx_let (rx_ui S18 127 (Int32.toNatClampNeg ((12 : Int32) + x17)) (-2)) (fun S22 => rx_let (x17 + 1) (fun x23 => f_X11_begins_L64 N K86 n x23 S22))))
def f_X11_begins_L23 (N : Nat) (K62 : rx_S → Option (Unit × rx_S)) : Nat → Int32 → rx_S → Option (Unit × rx_S)
  | 0, _, _ => none
  | n + 1, x24, S25 => rx_gd (S25.1 94 18) 2 (if (S25.1 104 (Int32.toNatClampNeg (S25.1 94 18))) ≤ x24 then (K62 S25) else (rx_gd (((6 : Int32) * (S25.1 94 18)) + x24) 12 (rx_gd x24 48 (rx_let (rx_ui S25 127 (Int32.toNatClampNeg x24) (S25.1 105 (Int32.toNatClampNeg (((6 : Int32) * (S25.1 94 18)) + x24)))) (fun S31 => rx_let (x24 + 1) (fun x32 => f_X11_begins_L23 N K62 n x32 S31))))))
def f_X11_begins_L2 (N : Nat) (K21 : rx_S → Option (Unit × rx_S)) : Nat → Int32 → rx_S → Option (Unit × rx_S)
  | 0, _, _ => none
  | n + 1, x33, S34 => if (48 : Int32) ≤ x33 then (K21 S34) else (rx_gd x33 48 (rx_let (rx_ui S34 127 (Int32.toNatClampNeg x33) 0) (fun S38 => rx_let (x33 + 1) (fun x39 => f_X11_begins_L2 N K21 n x39 S38))))
def f_X11_begins (N : Nat) (S0 : rx_S) : Option (Unit × rx_S) := rx_let (fun (S2 : rx_S) => rx_let (fun (S3 : rx_S) => rx_let (fun (S4 : rx_S) => rx_let (fun (S5 : rx_S) => rx_gd (S5.1 94 18) 2 (rx_let (rx_ui S5 94 51 (S5.1 113 (Int32.toNatClampNeg (S5.1 94 18)))) (fun S7 => some ((), S7)))) (fun J129_4 => f_X11_begins_L88 N J129_4 N 0 S4)) (fun J86_3 => f_X11_begins_L64 N J86_3 N 0 S3)) (fun J62_2 => f_X11_begins_L23 N J62_2 N 0 S2)) (fun J21_1 => f_X11_begins_L2 N J21_1 N 0 S0)
set_option maxHeartbeats 4000000 in
set_option maxRecDepth 20000 in
theorem em_X11_begins_L88 {d N : Nat} {K129 : rx_S → Option (Unit × rx_S)} {zr : Unit} {zS : rx_S} (hK129 : ∀ (S10 : rx_S), K129 S10 = some (zr, zS) → EV gM d mX11_begins 129 [some (.ref 94), none] [] S10 (rx_pv zS)) : ∀ (n : Nat) (x8 : Int32) (S9 : rx_S), f_X11_begins_L88 N K129 n x8 S9 = some (zr, zS) → EV gM d mX11_begins 88 [some (.ref 94), some (.int x8)] [] S9 (rx_pv zS) := by
  intro n
  induction n with
  | zero => intro x8 S9 h; cases h
  | succ n ih =>
    intro x8 S9 h
    rw [f_X11_begins_L88] at h
    refine ev_iload_n (i := 1) 89 dX11_begins_88 rfl rfl rfl ?_
    refine ev_aload_n (i := 0) 90 dX11_begins_89 rfl rfl rfl ?_
    refine ev_get (v := .ref 109) 93 dX11_begins_90 dk_94 fl_11_61 (by decide) rfl rfl rfl ?_
    refine ev_aload_n (i := 0) 94 dX11_begins_93 rfl rfl rfl ?_
    refine ev_get (v := .int (S9.1 94 18)) 97 dX11_begins_94 dk_94 fl_11_233 (by decide) rfl rfl rfl ?_
    obtain ⟨g11, h⟩ := rx_gd_o h
    refine ex_iald _ 98 dX11_begins_97 dk_109 g11 rfl rfl ?_
    refine ev_icmp_ge 129 101 dX11_begins_98 rfl rfl (fun c12 => ?_) (fun c12 => ?_)
    · replace h := rx_if_t c12 h
      exact (hK129 _ h).fewer (rx_le_s (rx_le_n rx_le_0))
    · replace h := rx_if_f c12 h
      refine ev_aload_n (i := 0) 102 dX11_begins_101 rfl rfl rfl ?_
      refine ev_get (v := .ref 127) 105 dX11_begins_102 dk_94 fl_11_116 (by decide) rfl rfl rfl ?_
      refine ev_bipush (v := 24) 107 dX11_begins_105 (by decide) rfl ?_
      refine ev_iload_n (i := 1) 108 dX11_begins_107 rfl rfl rfl ?_
      refine ev_iadd 109 dX11_begins_108 rfl ?_
      refine ev_aload_n (i := 0) 110 dX11_begins_109 rfl rfl rfl ?_
      refine ev_get (v := .ref 111) 113 dX11_begins_110 dk_94 fl_11_67 (by decide) rfl rfl rfl ?_
      refine ev_iconst (v := 4) 114 dX11_begins_113 (by decide) rfl ?_
      refine ev_aload_n (i := 0) 115 dX11_begins_114 rfl rfl rfl ?_
      refine ev_get (v := .int (S9.1 94 18)) 118 dX11_begins_115 dk_94 fl_11_233 (by decide) rfl rfl rfl ?_
      refine ev_imul 119 dX11_begins_118 rfl ?_
      refine ev_iload_n (i := 1) 120 dX11_begins_119 rfl rfl rfl ?_
      refine ev_iadd 121 dX11_begins_120 rfl ?_
      obtain ⟨g13, h⟩ := rx_gd_o h
      refine ex_iald _ 122 dX11_begins_121 dk_111 g13 rfl rfl ?_
      obtain ⟨g14, h⟩ := rx_gd_o h
      obtain ⟨S15, eS15, h⟩ := rx_let_o h
      refine ex_iast _ 123 dX11_begins_122 dk_127 g14 rfl rfl eS15 ?_
      obtain ⟨x16, ex16, h⟩ := rx_let_o h
      refine ev_iinc (v := x16) (ls' := [some (.ref 94), some (.int x16)]) 126 dX11_begins_123 rfl (by rw [ex16]; rfl) (Nat.le_of_ble_eq_true rfl) rfl rfl ?_
      refine ev_goto 88 dX11_begins_126 rfl ?_
      exact (ih _ _ h).fewer (rx_le_s (rx_le_s rx_le_0))

set_option maxHeartbeats 4000000 in
set_option maxRecDepth 20000 in
theorem em_X11_begins_L64 {d N : Nat} {K86 : rx_S → Option (Unit × rx_S)} {zr : Unit} {zS : rx_S} (hK86 : ∀ (S19 : rx_S), K86 S19 = some (zr, zS) → EV gM d mX11_begins 86 [some (.ref 94), none] [] S19 (rx_pv zS)) : ∀ (n : Nat) (x17 : Int32) (S18 : rx_S), f_X11_begins_L64 N K86 n x17 S18 = some (zr, zS) → EV gM d mX11_begins 64 [some (.ref 94), some (.int x17)] [] S18 (rx_pv zS) := by
  intro n
  induction n with
  | zero => intro x17 S18 h; cases h
  | succ n ih =>
    intro x17 S18 h
    rw [f_X11_begins_L64] at h
    refine ev_iload_n (i := 1) 65 dX11_begins_64 rfl rfl rfl ?_
    refine ev_iconst (v := 3) 66 dX11_begins_65 (by decide) rfl ?_
    refine ev_icmp_ge 86 69 dX11_begins_66 rfl rfl (fun c20 => ?_) (fun c20 => ?_)
    · replace h := rx_if_t c20 h
      exact (hK86 _ h).fewer (rx_le_s (rx_le_n rx_le_0))
    · replace h := rx_if_f c20 h
      refine ev_aload_n (i := 0) 70 dX11_begins_69 rfl rfl rfl ?_
      refine ev_get (v := .ref 127) 73 dX11_begins_70 dk_94 fl_11_116 (by decide) rfl rfl rfl ?_
      refine ev_bipush (v := 12) 75 dX11_begins_73 (by decide) rfl ?_
      refine ev_iload_n (i := 1) 76 dX11_begins_75 rfl rfl rfl ?_
      refine ev_iadd 77 dX11_begins_76 rfl ?_
      refine ev_bipush (v := (-2)) 79 dX11_begins_77 (by decide) rfl ?_
      obtain ⟨g21, h⟩ := rx_gd_o h
      obtain ⟨S22, eS22, h⟩ := rx_let_o h
      refine ex_iast _ 80 dX11_begins_79 dk_127 g21 rfl rfl eS22 ?_
      obtain ⟨x23, ex23, h⟩ := rx_let_o h
      refine ev_iinc (v := x23) (ls' := [some (.ref 94), some (.int x23)]) 83 dX11_begins_80 rfl (by rw [ex23]; rfl) (Nat.le_of_ble_eq_true rfl) rfl rfl ?_
      refine ev_goto 64 dX11_begins_83 rfl ?_
      exact (ih _ _ h).fewer (rx_le_s (rx_le_s rx_le_0))

set_option maxHeartbeats 4000000 in
set_option maxRecDepth 20000 in
theorem em_X11_begins_L23 {d N : Nat} {K62 : rx_S → Option (Unit × rx_S)} {zr : Unit} {zS : rx_S} (hK62 : ∀ (S26 : rx_S), K62 S26 = some (zr, zS) → EV gM d mX11_begins 62 [some (.ref 94), none] [] S26 (rx_pv zS)) : ∀ (n : Nat) (x24 : Int32) (S25 : rx_S), f_X11_begins_L23 N K62 n x24 S25 = some (zr, zS) → EV gM d mX11_begins 23 [some (.ref 94), some (.int x24)] [] S25 (rx_pv zS) := by
  intro n
  induction n with
  | zero => intro x24 S25 h; cases h
  | succ n ih =>
    intro x24 S25 h
    rw [f_X11_begins_L23] at h
    refine ev_iload_n (i := 1) 24 dX11_begins_23 rfl rfl rfl ?_
    refine ev_aload_n (i := 0) 25 dX11_begins_24 rfl rfl rfl ?_
    refine ev_get (v := .ref 104) 28 dX11_begins_25 dk_94 fl_11_46 (by decide) rfl rfl rfl ?_
    refine ev_aload_n (i := 0) 29 dX11_begins_28 rfl rfl rfl ?_
    refine ev_get (v := .int (S25.1 94 18)) 32 dX11_begins_29 dk_94 fl_11_233 (by decide) rfl rfl rfl ?_
    obtain ⟨g27, h⟩ := rx_gd_o h
    refine ex_iald _ 33 dX11_begins_32 dk_104 g27 rfl rfl ?_
    refine ev_icmp_ge 62 36 dX11_begins_33 rfl rfl (fun c28 => ?_) (fun c28 => ?_)
    · replace h := rx_if_t c28 h
      exact (hK62 _ h).fewer (rx_le_s (rx_le_n rx_le_0))
    · replace h := rx_if_f c28 h
      refine ev_aload_n (i := 0) 37 dX11_begins_36 rfl rfl rfl ?_
      refine ev_get (v := .ref 127) 40 dX11_begins_37 dk_94 fl_11_116 (by decide) rfl rfl rfl ?_
      refine ev_iload_n (i := 1) 41 dX11_begins_40 rfl rfl rfl ?_
      refine ev_aload_n (i := 0) 42 dX11_begins_41 rfl rfl rfl ?_
      refine ev_get (v := .ref 105) 45 dX11_begins_42 dk_94 fl_11_49 (by decide) rfl rfl rfl ?_
      refine ev_bipush (v := 6) 47 dX11_begins_45 (by decide) rfl ?_
      refine ev_aload_n (i := 0) 48 dX11_begins_47 rfl rfl rfl ?_
      refine ev_get (v := .int (S25.1 94 18)) 51 dX11_begins_48 dk_94 fl_11_233 (by decide) rfl rfl rfl ?_
      refine ev_imul 52 dX11_begins_51 rfl ?_
      refine ev_iload_n (i := 1) 53 dX11_begins_52 rfl rfl rfl ?_
      refine ev_iadd 54 dX11_begins_53 rfl ?_
      obtain ⟨g29, h⟩ := rx_gd_o h
      refine ex_iald _ 55 dX11_begins_54 dk_105 g29 rfl rfl ?_
      obtain ⟨g30, h⟩ := rx_gd_o h
      obtain ⟨S31, eS31, h⟩ := rx_let_o h
      refine ex_iast _ 56 dX11_begins_55 dk_127 g30 rfl rfl eS31 ?_
      obtain ⟨x32, ex32, h⟩ := rx_let_o h
      refine ev_iinc (v := x32) (ls' := [some (.ref 94), some (.int x32)]) 59 dX11_begins_56 rfl (by rw [ex32]; rfl) (Nat.le_of_ble_eq_true rfl) rfl rfl ?_
      refine ev_goto 23 dX11_begins_59 rfl ?_
      exact (ih _ _ h).fewer (rx_le_s (rx_le_s rx_le_0))

set_option maxHeartbeats 4000000 in
set_option maxRecDepth 20000 in
theorem em_X11_begins_L2 {d N : Nat} {K21 : rx_S → Option (Unit × rx_S)} {zr : Unit} {zS : rx_S} (hK21 : ∀ (S35 : rx_S), K21 S35 = some (zr, zS) → EV gM d mX11_begins 21 [some (.ref 94), none] [] S35 (rx_pv zS)) : ∀ (n : Nat) (x33 : Int32) (S34 : rx_S), f_X11_begins_L2 N K21 n x33 S34 = some (zr, zS) → EV gM d mX11_begins 2 [some (.ref 94), some (.int x33)] [] S34 (rx_pv zS) := by
  intro n
  induction n with
  | zero => intro x33 S34 h; cases h
  | succ n ih =>
    intro x33 S34 h
    rw [f_X11_begins_L2] at h
    refine ev_iload_n (i := 1) 3 dX11_begins_2 rfl rfl rfl ?_
    refine ev_bipush (v := 48) 5 dX11_begins_3 (by decide) rfl ?_
    refine ev_icmp_ge 21 8 dX11_begins_5 rfl rfl (fun c36 => ?_) (fun c36 => ?_)
    · replace h := rx_if_t c36 h
      exact (hK21 _ h).fewer (rx_le_s (rx_le_n rx_le_0))
    · replace h := rx_if_f c36 h
      refine ev_aload_n (i := 0) 9 dX11_begins_8 rfl rfl rfl ?_
      refine ev_get (v := .ref 127) 12 dX11_begins_9 dk_94 fl_11_116 (by decide) rfl rfl rfl ?_
      refine ev_iload_n (i := 1) 13 dX11_begins_12 rfl rfl rfl ?_
      refine ev_iconst (v := 0) 14 dX11_begins_13 (by decide) rfl ?_
      obtain ⟨g37, h⟩ := rx_gd_o h
      obtain ⟨S38, eS38, h⟩ := rx_let_o h
      refine ex_iast _ 15 dX11_begins_14 dk_127 g37 rfl rfl eS38 ?_
      obtain ⟨x39, ex39, h⟩ := rx_let_o h
      refine ev_iinc (v := x39) (ls' := [some (.ref 94), some (.int x39)]) 18 dX11_begins_15 rfl (by rw [ex39]; rfl) (Nat.le_of_ble_eq_true rfl) rfl rfl ?_
      refine ev_goto 2 dX11_begins_18 rfl ?_
      exact (ih _ _ h).fewer (rx_le_s (rx_le_s rx_le_0))

set_option maxHeartbeats 4000000 in
set_option maxRecDepth 20000 in
theorem em_X11_begins {d N : Nat} {S0 : rx_S} {zr : Unit} {zS : rx_S} (h : f_X11_begins N S0 = some (zr, zS)) : EM gM d mX11_begins [.ref 94] S0 (rx_pv zS) := by
  unfold f_X11_begins at h
  show EV gM d mX11_begins 0 [some (.ref 94), none] [] S0 (rx_pv zS)
  refine ev_iconst (v := 0) 1 dX11_begins_0 (by decide) rfl ?_
  refine ev_istore_n (ls' := [some (.ref 94), some (.int 0)]) 2 dX11_begins_1 rfl (Nat.le_of_ble_eq_true rfl) rfl rfl ?_
  obtain ⟨J21_1, eJ21_1, h⟩ := rx_let_o h
  have hJ21_1 : ∀ (S2 : rx_S), J21_1 S2 = some (zr, zS) → EV gM d mX11_begins 21 [some (.ref 94), none] [] S2 (rx_pv zS) := by
    intro S2 h
    subst eJ21_1
    refine ev_iconst (v := 0) 22 dX11_begins_21 (by decide) rfl ?_
    refine ev_istore_n (ls' := [some (.ref 94), some (.int 0)]) 23 dX11_begins_22 rfl (Nat.le_of_ble_eq_true rfl) rfl rfl ?_
    obtain ⟨J62_2, eJ62_2, h⟩ := rx_let_o h
    have hJ62_2 : ∀ (S3 : rx_S), J62_2 S3 = some (zr, zS) → EV gM d mX11_begins 62 [some (.ref 94), none] [] S3 (rx_pv zS) := by
      intro S3 h
      subst eJ62_2
      refine ev_iconst (v := 0) 63 dX11_begins_62 (by decide) rfl ?_
      refine ev_istore_n (ls' := [some (.ref 94), some (.int 0)]) 64 dX11_begins_63 rfl (Nat.le_of_ble_eq_true rfl) rfl rfl ?_
      obtain ⟨J86_3, eJ86_3, h⟩ := rx_let_o h
      have hJ86_3 : ∀ (S4 : rx_S), J86_3 S4 = some (zr, zS) → EV gM d mX11_begins 86 [some (.ref 94), none] [] S4 (rx_pv zS) := by
        intro S4 h
        subst eJ86_3
        refine ev_iconst (v := 0) 87 dX11_begins_86 (by decide) rfl ?_
        refine ev_istore_n (ls' := [some (.ref 94), some (.int 0)]) 88 dX11_begins_87 rfl (Nat.le_of_ble_eq_true rfl) rfl rfl ?_
        obtain ⟨J129_4, eJ129_4, h⟩ := rx_let_o h
        have hJ129_4 : ∀ (S5 : rx_S), J129_4 S5 = some (zr, zS) → EV gM d mX11_begins 129 [some (.ref 94), none] [] S5 (rx_pv zS) := by
          intro S5 h
          subst eJ129_4
          refine ev_aload_n (i := 0) 130 dX11_begins_129 rfl rfl rfl ?_
          refine ev_aload_n (i := 0) 131 dX11_begins_130 rfl rfl rfl ?_
          refine ev_get (v := .ref 113) 134 dX11_begins_131 dk_94 fl_11_73 (by decide) rfl rfl rfl ?_
          refine ev_aload_n (i := 0) 135 dX11_begins_134 rfl rfl rfl ?_
          refine ev_get (v := .int (S5.1 94 18)) 138 dX11_begins_135 dk_94 fl_11_233 (by decide) rfl rfl rfl ?_
          obtain ⟨g6, h⟩ := rx_gd_o h
          refine ex_iald _ 139 dX11_begins_138 dk_113 g6 rfl rfl ?_
          obtain ⟨S7, eS7, h⟩ := rx_let_o h
          refine ex_put 142 dX11_begins_139 dk_94 fl_11_320 pp_11_51 (by decide) rfl rfl rfl rfl eS7 ?_
          exact ev_return dX11_begins_142 rfl (rx_ret_v h)
        exact (em_X11_begins_L88 hJ129_4 _ _ _ h).fewer (rx_le_s (rx_le_s rx_le_0))
      exact (em_X11_begins_L64 hJ86_3 _ _ _ h).fewer (rx_le_s (rx_le_s rx_le_0))
    exact (em_X11_begins_L23 hJ62_2 _ _ _ h).fewer (rx_le_s (rx_le_s rx_le_0))
  exact (em_X11_begins_L2 hJ21_1 _ _ _ h).fewer (rx_le_s (rx_le_s rx_le_0))

def f_X11_keepsRow_L2 (N : Nat) : Nat → Int32 → rx_S → Option (Unit × rx_S)
  | 0, _, _ => none
  | n + 1, x2, S3 => if (48 : Int32) ≤ x2 then (some ((), S3)) else (rx_gd x2 48 (rx_gd x2 48 (rx_let (rx_ui S3 126 (Int32.toNatClampNeg x2) (S3.1 127 (Int32.toNatClampNeg x2))) (fun S7 => rx_let (x2 + 1) (fun x8 => f_X11_keepsRow_L2 N n x8 S7)))))
def f_X11_keepsRow (N : Nat) (S0 : rx_S) : Option (Unit × rx_S) := f_X11_keepsRow_L2 N N 0 S0
set_option maxHeartbeats 4000000 in
set_option maxRecDepth 20000 in
theorem em_X11_keepsRow_L2 {d N : Nat} {zr : Unit} {zS : rx_S} : ∀ (n : Nat) (x2 : Int32) (S3 : rx_S), f_X11_keepsRow_L2 N n x2 S3 = some (zr, zS) → EV gM d mX11_keepsRow 2 [some (.ref 94), some (.int x2)] [] S3 (rx_pv zS) := by
  intro n
  induction n with
  | zero => intro x2 S3 h; cases h
  | succ n ih =>
    intro x2 S3 h
    rw [f_X11_keepsRow_L2] at h
    refine ev_iload_n (i := 1) 3 dX11_keepsRow_2 rfl rfl rfl ?_
    refine ev_bipush (v := 48) 5 dX11_keepsRow_3 (by decide) rfl ?_
    refine ev_icmp_ge 26 8 dX11_keepsRow_5 rfl rfl (fun c4 => ?_) (fun c4 => ?_)
    · replace h := rx_if_t c4 h
      exact ev_return dX11_keepsRow_26 rfl (rx_ret_v h)
    · replace h := rx_if_f c4 h
      refine ev_aload_n (i := 0) 9 dX11_keepsRow_8 rfl rfl rfl ?_
      refine ev_get (v := .ref 126) 12 dX11_keepsRow_9 dk_94 fl_11_113 (by decide) rfl rfl rfl ?_
      refine ev_iload_n (i := 1) 13 dX11_keepsRow_12 rfl rfl rfl ?_
      refine ev_aload_n (i := 0) 14 dX11_keepsRow_13 rfl rfl rfl ?_
      refine ev_get (v := .ref 127) 17 dX11_keepsRow_14 dk_94 fl_11_116 (by decide) rfl rfl rfl ?_
      refine ev_iload_n (i := 1) 18 dX11_keepsRow_17 rfl rfl rfl ?_
      obtain ⟨g5, h⟩ := rx_gd_o h
      refine ex_iald _ 19 dX11_keepsRow_18 dk_127 g5 rfl rfl ?_
      obtain ⟨g6, h⟩ := rx_gd_o h
      obtain ⟨S7, eS7, h⟩ := rx_let_o h
      refine ex_iast _ 20 dX11_keepsRow_19 dk_126 g6 rfl rfl eS7 ?_
      obtain ⟨x8, ex8, h⟩ := rx_let_o h
      refine ev_iinc (v := x8) (ls' := [some (.ref 94), some (.int x8)]) 23 dX11_keepsRow_20 rfl (by rw [ex8]; rfl) (Nat.le_of_ble_eq_true rfl) rfl rfl ?_
      refine ev_goto 2 dX11_keepsRow_23 rfl ?_
      exact (ih _ _ h).fewer (rx_le_s (rx_le_s rx_le_0))

set_option maxHeartbeats 4000000 in
set_option maxRecDepth 20000 in
theorem em_X11_keepsRow {d N : Nat} {S0 : rx_S} {zr : Unit} {zS : rx_S} (h : f_X11_keepsRow N S0 = some (zr, zS)) : EM gM d mX11_keepsRow [.ref 94] S0 (rx_pv zS) := by
  unfold f_X11_keepsRow at h
  show EV gM d mX11_keepsRow 0 [some (.ref 94), none] [] S0 (rx_pv zS)
  refine ev_iconst (v := 0) 1 dX11_keepsRow_0 (by decide) rfl ?_
  refine ev_istore_n (ls' := [some (.ref 94), some (.int 0)]) 2 dX11_keepsRow_1 rfl (Nat.le_of_ble_eq_true rfl) rfl rfl ?_
  exact (em_X11_keepsRow_L2 _ _ _ h).fewer (rx_le_s (rx_le_s rx_le_0))

def f_X11_read_L219 (N : Nat) : Nat → Int32 → rx_S → Option (Int32 × rx_S)
  | 0, _, _ => none
  | n + 1, x34, S35 => if (3 : Int32) ≤ x34 then (some (0, S35)) else (rx_gd x34 3 (rx_let (rx_ui S35 137 (Int32.toNatClampNeg x34) (vp_nar .boolean 0)) (fun S38 => rx_let (x34 + 1) (fun x39 => f_X11_read_L219 N n x39 S38))))
def f_X11_read_L112 (N : Nat) (K134 : rx_S → Option (Int32 × rx_S)) : Nat → rx_S → Option (Int32 × rx_S)
  | 0, _ => none
  | n + 1, S42 => if (S42.1 94 13) = 0 then (rx_bd (f_X11_is 0 S42) (fun x46 S45 => if x46 = 0 then (rx_bd (f_X11_tellOne N S45) (fun x50 S49 => f_X11_read_L112 N K134 n S49)) else (K134 S45))) else (K134 S42)
def f_X11_read_L10 (N : Nat) (K36 : rx_S → Option (Int32 × rx_S)) : Nat → Int32 → rx_S → Option (Int32 × rx_S)
  | 0, _, _ => none
  | n + 1, x52, S53 => if (S53.1 94 4) ≤ x52 then (K36 S53) else (rx_gd x52 2000 (rx_gd x52 2000 (rx_let (rx_ui S53 96 (Int32.toNatClampNeg x52) (vp_nar .byte (S53.1 95 (Int32.toNatClampNeg x52)))) (fun S58 => rx_let (x52 + 1) (fun x59 => f_X11_read_L10 N K36 n x59 S58)))))
def f_X11_read (N : Nat) (S0 : rx_S) : Option (Int32 × rx_S) := rx_let (rx_ui S0 94 4 (S0.1 94 2)) (fun S2 => rx_let (fun (S3 : rx_S) => rx_let (rx_ui S3 94 2 0) (fun S4 => rx_bd (f_X11_cut N S4) (fun x6 S5 => rx_let (rx_ui S5 94 11 0) (fun S8 => rx_let (rx_ui S8 94 12 0) (fun S9 => rx_let (rx_ui S9 94 13 0) (fun S10 => rx_let (rx_ui S10 94 15 0) (fun S11 => rx_let (rx_ui S11 94 19 ((1 : Int32) - (S11.1 94 18))) (fun S12 => rx_let (rx_ui S12 94 20 0) (fun S13 => rx_bd (f_X11_plain N (S13.1 94 19) S13) (fun x15 S14 => rx_let (rx_ui S14 94 35 ((130 : Int32) * (S14.1 94 19))) (fun S17 => rx_let (rx_ui S17 94 41 ((420 : Int32) * (S17.1 94 19))) (fun S18 => rx_let (fun (S19 : rx_S) => rx_let (fun (x20 : Int32) (S21 : rx_S) => rx_let (rx_ui S21 94 17 x20) (fun S22 => if (S22.1 94 13) ≤ 0 then (if (S22.1 94 15) ≤ 0 then (rx_let (rx_ui S22 94 18 (S22.1 94 19)) (fun S25 => rx_bd (f_X11_begins N S25) (fun x27 S26 => rx_bd (f_X11_keepsRow N S26) (fun x30 S29 => rx_let (rx_ui S29 94 52 0) (fun S32 => rx_let (rx_ui S32 94 62 0) (fun S33 => f_X11_read_L219 N N 0 S33)))))) else (some ((S22.1 94 15), S22))) else (some ((S22.1 94 13), S22)))) (fun J164_3 => if (S19.1 94 13) ≤ 0 then (if (S19.1 94 15) ≤ 0 then (J164_3 (-1) S19) else (J164_3 (S19.1 94 16) S19)) else (J164_3 (S19.1 94 14) S19))) (fun J134_2 => f_X11_read_L112 N J134_2 N S18))))))))))))) (fun J36_1 => f_X11_read_L10 N J36_1 N 0 S2))
set_option maxHeartbeats 4000000 in
set_option maxRecDepth 20000 in
theorem em_X11_read_L219 {d N : Nat} {zr : Int32} {zS : rx_S} : ∀ (n : Nat) (x34 : Int32) (S35 : rx_S), f_X11_read_L219 N n x34 S35 = some (zr, zS) → EV gM (d + 7) mX11_read 219 [some (.ref 94), some (.int x34)] [] S35 (rx_pi zr zS) := by
  intro n
  induction n with
  | zero => intro x34 S35 h; cases h
  | succ n ih =>
    intro x34 S35 h
    rw [f_X11_read_L219] at h
    refine ev_iload_n (i := 1) 220 dX11_read_219 rfl rfl rfl ?_
    refine ev_iconst (v := 3) 221 dX11_read_220 (by decide) rfl ?_
    refine ev_icmp_ge 237 224 dX11_read_221 rfl rfl (fun c36 => ?_) (fun c36 => ?_)
    · replace h := rx_if_t c36 h
      refine ev_iconst (v := 0) 238 dX11_read_237 (by decide) rfl ?_
      exact ev_ireturn dX11_read_238 rfl (rx_ret_i h)
    · replace h := rx_if_f c36 h
      refine ev_aload_n (i := 0) 225 dX11_read_224 rfl rfl rfl ?_
      refine ev_get (v := .ref 137) 228 dX11_read_225 dk_94 fl_11_146 (by decide) rfl rfl rfl ?_
      refine ev_iload_n (i := 1) 229 dX11_read_228 rfl rfl rfl ?_
      refine ev_iconst (v := 0) 230 dX11_read_229 (by decide) rfl ?_
      obtain ⟨g37, h⟩ := rx_gd_o h
      obtain ⟨S38, eS38, h⟩ := rx_let_o h
      refine ex_zast _ 231 dX11_read_230 dk_137 g37 rfl rfl eS38 ?_
      obtain ⟨x39, ex39, h⟩ := rx_let_o h
      refine ev_iinc (v := x39) (ls' := [some (.ref 94), some (.int x39)]) 234 dX11_read_231 rfl (by rw [ex39]; rfl) (Nat.le_of_ble_eq_true rfl) rfl rfl ?_
      refine ev_goto 219 dX11_read_234 rfl ?_
      exact (ih _ _ h).fewer (rx_le_s (rx_le_s rx_le_0))

set_option maxHeartbeats 4000000 in
set_option maxRecDepth 20000 in
theorem em_X11_read_L112 {d N : Nat} {K134 : rx_S → Option (Int32 × rx_S)} {zr : Int32} {zS : rx_S} (hK134 : ∀ (S43 : rx_S), K134 S43 = some (zr, zS) → EV gM (d + 7) mX11_read 134 [some (.ref 94), none] [] S43 (rx_pi zr zS)) : ∀ (n : Nat) (S42 : rx_S), f_X11_read_L112 N K134 n S42 = some (zr, zS) → EV gM (d + 7) mX11_read 112 [some (.ref 94), none] [] S42 (rx_pi zr zS) := by
  intro n
  induction n with
  | zero => intro S42 h; cases h
  | succ n ih =>
    intro S42 h
    rw [f_X11_read_L112] at h
    refine ev_aload_n (i := 0) 113 dX11_read_112 rfl rfl rfl ?_
    refine ev_get (v := .int (S42.1 94 13)) 116 dX11_read_113 dk_94 fl_11_203 (by decide) rfl rfl rfl ?_
    refine ev_if_ne 134 119 dX11_read_116 rfl rfl (fun c44 => ?_) (fun c44 => ?_)
    · replace h := rx_if_f c44 h
      exact (hK134 _ h).fewer (rx_le_s (rx_le_n rx_le_0))
    · replace h := rx_if_t c44 h
      refine ev_aload_n (i := 0) 120 dX11_read_119 rfl rfl rfl ?_
      refine ev_iconst (v := 0) 121 dX11_read_120 (by decide) rfl ?_
      obtain ⟨x46, S45, g47, h⟩ := rx_bd_o h
      refine ev_cVi1 124 dX11_read_121 (em_X11_is g47) mm_X11_is mv_X11_is lk_11_221 dk_94 (by decide) rfl (Nat.le_of_ble_eq_true rfl) (Nat.le_of_ble_eq_true rfl) rfl ?_
      refine ev_if_ne 134 127 dX11_read_124 rfl rfl (fun c48 => ?_) (fun c48 => ?_)
      · replace h := rx_if_f c48 h
        exact (hK134 _ h).fewer (rx_le_s (rx_le_n rx_le_0))
      · replace h := rx_if_t c48 h
        refine ev_aload_n (i := 0) 128 dX11_read_127 rfl rfl rfl ?_
        obtain ⟨x50, S49, g51, h⟩ := rx_bd_o h
        refine ev_cVv0 131 dX11_read_128 (em_X11_tellOne g51) mm_X11_tellOne mv_X11_tellOne lk_11_248 dk_94 (by decide) rfl (Nat.le_of_ble_eq_true rfl) (Nat.le_of_ble_eq_true rfl) rfl ?_
        refine ev_goto 112 dX11_read_131 rfl ?_
        exact (ih _ h).fewer (rx_le_s (rx_le_n rx_le_0))

set_option maxHeartbeats 4000000 in
set_option maxRecDepth 20000 in
theorem em_X11_read_L10 {d N : Nat} {K36 : rx_S → Option (Int32 × rx_S)} {zr : Int32} {zS : rx_S} (hK36 : ∀ (S54 : rx_S), K36 S54 = some (zr, zS) → EV gM (d + 7) mX11_read 36 [some (.ref 94), none] [] S54 (rx_pi zr zS)) : ∀ (n : Nat) (x52 : Int32) (S53 : rx_S), f_X11_read_L10 N K36 n x52 S53 = some (zr, zS) → EV gM (d + 7) mX11_read 10 [some (.ref 94), some (.int x52)] [] S53 (rx_pi zr zS) := by
  intro n
  induction n with
  | zero => intro x52 S53 h; cases h
  | succ n ih =>
    intro x52 S53 h
    rw [f_X11_read_L10] at h
    refine ev_iload_n (i := 1) 11 dX11_read_10 rfl rfl rfl ?_
    refine ev_aload_n (i := 0) 12 dX11_read_11 rfl rfl rfl ?_
    refine ev_get (v := .int (S53.1 94 4)) 15 dX11_read_12 dk_94 fl_11_172 (by decide) rfl rfl rfl ?_
    refine ev_icmp_ge 36 18 dX11_read_15 rfl rfl (fun c55 => ?_) (fun c55 => ?_)
    · replace h := rx_if_t c55 h
      exact (hK36 _ h).fewer (rx_le_s (rx_le_n rx_le_0))
    · replace h := rx_if_f c55 h
      refine ev_aload_n (i := 0) 19 dX11_read_18 rfl rfl rfl ?_
      refine ev_get (v := .ref 96) 22 dX11_read_19 dk_94 fl_11_17 (by decide) rfl rfl rfl ?_
      refine ev_iload_n (i := 1) 23 dX11_read_22 rfl rfl rfl ?_
      refine ev_aload_n (i := 0) 24 dX11_read_23 rfl rfl rfl ?_
      refine ev_get (v := .ref 95) 27 dX11_read_24 dk_94 fl_11_13 (by decide) rfl rfl rfl ?_
      refine ev_iload_n (i := 1) 28 dX11_read_27 rfl rfl rfl ?_
      obtain ⟨g56, h⟩ := rx_gd_o h
      refine ex_bald _ 29 dX11_read_28 dk_95 g56 rfl rfl ?_
      obtain ⟨g57, h⟩ := rx_gd_o h
      obtain ⟨S58, eS58, h⟩ := rx_let_o h
      refine ex_bast _ 30 dX11_read_29 dk_96 g57 rfl rfl eS58 ?_
      obtain ⟨x59, ex59, h⟩ := rx_let_o h
      refine ev_iinc (v := x59) (ls' := [some (.ref 94), some (.int x59)]) 33 dX11_read_30 rfl (by rw [ex59]; rfl) (Nat.le_of_ble_eq_true rfl) rfl rfl ?_
      refine ev_goto 10 dX11_read_33 rfl ?_
      exact (ih _ _ h).fewer (rx_le_s (rx_le_s rx_le_0))

set_option maxHeartbeats 4000000 in
set_option maxRecDepth 20000 in
theorem em_X11_read {d N : Nat} {S0 : rx_S} {zr : Int32} {zS : rx_S} (h : f_X11_read N S0 = some (zr, zS)) : EM gM (d + 7) mX11_read [.ref 94] S0 (rx_pi zr zS) := by
  unfold f_X11_read at h
  show EV gM (d + 7) mX11_read 0 [some (.ref 94), none] [] S0 (rx_pi zr zS)
  refine ev_aload_n (i := 0) 1 dX11_read_0 rfl rfl rfl ?_
  refine ev_aload_n (i := 0) 2 dX11_read_1 rfl rfl rfl ?_
  refine ev_get (v := .int (S0.1 94 2)) 5 dX11_read_2 dk_94 fl_11_166 (by decide) rfl rfl rfl ?_
  obtain ⟨S2, eS2, h⟩ := rx_let_o h
  refine ex_put 8 dX11_read_5 dk_94 fl_11_172 pp_11_4 (by decide) rfl rfl rfl rfl eS2 ?_
  refine ev_iconst (v := 0) 9 dX11_read_8 (by decide) rfl ?_
  refine ev_istore_n (ls' := [some (.ref 94), some (.int 0)]) 10 dX11_read_9 rfl (Nat.le_of_ble_eq_true rfl) rfl rfl ?_
  obtain ⟨J36_1, eJ36_1, h⟩ := rx_let_o h
  have hJ36_1 : ∀ (S3 : rx_S), J36_1 S3 = some (zr, zS) → EV gM (d + 7) mX11_read 36 [some (.ref 94), none] [] S3 (rx_pi zr zS) := by
    intro S3 h
    subst eJ36_1
    refine ev_aload_n (i := 0) 37 dX11_read_36 rfl rfl rfl ?_
    refine ev_iconst (v := 0) 38 dX11_read_37 (by decide) rfl ?_
    obtain ⟨S4, eS4, h⟩ := rx_let_o h
    refine ex_put 41 dX11_read_38 dk_94 fl_11_166 pp_11_2 (by decide) rfl rfl rfl rfl eS4 ?_
    refine ev_aload_n (i := 0) 42 dX11_read_41 rfl rfl rfl ?_
    obtain ⟨x6, S5, g7, h⟩ := rx_bd_o h
    refine ev_cVv0 45 dX11_read_42 (em_X11_cut g7) mm_X11_cut mv_X11_cut lk_11_227 dk_94 (by decide) rfl (Nat.le_of_ble_eq_true rfl) (Nat.le_of_ble_eq_true rfl) rfl ?_
    refine ev_aload_n (i := 0) 46 dX11_read_45 rfl rfl rfl ?_
    refine ev_iconst (v := 0) 47 dX11_read_46 (by decide) rfl ?_
    obtain ⟨S8, eS8, h⟩ := rx_let_o h
    refine ex_put 50 dX11_read_47 dk_94 fl_11_206 pp_11_11 (by decide) rfl rfl rfl rfl eS8 ?_
    refine ev_aload_n (i := 0) 51 dX11_read_50 rfl rfl rfl ?_
    refine ev_iconst (v := 0) 52 dX11_read_51 (by decide) rfl ?_
    obtain ⟨S9, eS9, h⟩ := rx_let_o h
    refine ex_put 55 dX11_read_52 dk_94 fl_11_230 pp_11_12 (by decide) rfl rfl rfl rfl eS9 ?_
    refine ev_aload_n (i := 0) 56 dX11_read_55 rfl rfl rfl ?_
    refine ev_iconst (v := 0) 57 dX11_read_56 (by decide) rfl ?_
    obtain ⟨S10, eS10, h⟩ := rx_let_o h
    refine ex_put 60 dX11_read_57 dk_94 fl_11_203 pp_11_13 (by decide) rfl rfl rfl rfl eS10 ?_
    refine ev_aload_n (i := 0) 61 dX11_read_60 rfl rfl rfl ?_
    refine ev_iconst (v := 0) 62 dX11_read_61 (by decide) rfl ?_
    obtain ⟨S11, eS11, h⟩ := rx_let_o h
    refine ex_put 65 dX11_read_62 dk_94 fl_11_212 pp_11_15 (by decide) rfl rfl rfl rfl eS11 ?_
    refine ev_aload_n (i := 0) 66 dX11_read_65 rfl rfl rfl ?_
    refine ev_iconst (v := 1) 67 dX11_read_66 (by decide) rfl ?_
    refine ev_aload_n (i := 0) 68 dX11_read_67 rfl rfl rfl ?_
    refine ev_get (v := .int (S11.1 94 18)) 71 dX11_read_68 dk_94 fl_11_233 (by decide) rfl rfl rfl ?_
    refine ev_isub 72 dX11_read_71 rfl ?_
    obtain ⟨S12, eS12, h⟩ := rx_let_o h
    refine ex_put 75 dX11_read_72 dk_94 fl_11_236 pp_11_19 (by decide) rfl rfl rfl rfl eS12 ?_
    refine ev_aload_n (i := 0) 76 dX11_read_75 rfl rfl rfl ?_
    refine ev_iconst (v := 0) 77 dX11_read_76 (by decide) rfl ?_
    obtain ⟨S13, eS13, h⟩ := rx_let_o h
    refine ex_put 80 dX11_read_77 dk_94 fl_11_239 pp_11_20 (by decide) rfl rfl rfl rfl eS13 ?_
    refine ev_aload_n (i := 0) 81 dX11_read_80 rfl rfl rfl ?_
    refine ev_aload_n (i := 0) 82 dX11_read_81 rfl rfl rfl ?_
    refine ev_get (v := .int (S13.1 94 19)) 85 dX11_read_82 dk_94 fl_11_236 (by decide) rfl rfl rfl ?_
    obtain ⟨x15, S14, g16, h⟩ := rx_bd_o h
    refine ev_cVv1 88 dX11_read_85 (em_X11_plain g16) mm_X11_plain mv_X11_plain lk_11_152 dk_94 (by decide) rfl (Nat.le_of_ble_eq_true rfl) (Nat.le_of_ble_eq_true rfl) rfl ?_
    refine ev_aload_n (i := 0) 89 dX11_read_88 rfl rfl rfl ?_
    refine ev_sipush (v := 130) 92 dX11_read_89 (by decide) rfl ?_
    refine ev_aload_n (i := 0) 93 dX11_read_92 rfl rfl rfl ?_
    refine ev_get (v := .int (S14.1 94 19)) 96 dX11_read_93 dk_94 fl_11_236 (by decide) rfl rfl rfl ?_
    refine ev_imul 97 dX11_read_96 rfl ?_
    obtain ⟨S17, eS17, h⟩ := rx_let_o h
    refine ex_put 100 dX11_read_97 dk_94 fl_11_242 pp_11_35 (by decide) rfl rfl rfl rfl eS17 ?_
    refine ev_aload_n (i := 0) 101 dX11_read_100 rfl rfl rfl ?_
    refine ev_sipush (v := 420) 104 dX11_read_101 (by decide) rfl ?_
    refine ev_aload_n (i := 0) 105 dX11_read_104 rfl rfl rfl ?_
    refine ev_get (v := .int (S17.1 94 19)) 108 dX11_read_105 dk_94 fl_11_236 (by decide) rfl rfl rfl ?_
    refine ev_imul 109 dX11_read_108 rfl ?_
    obtain ⟨S18, eS18, h⟩ := rx_let_o h
    refine ex_put 112 dX11_read_109 dk_94 fl_11_245 pp_11_41 (by decide) rfl rfl rfl rfl eS18 ?_
    obtain ⟨J134_2, eJ134_2, h⟩ := rx_let_o h
    have hJ134_2 : ∀ (S19 : rx_S), J134_2 S19 = some (zr, zS) → EV gM (d + 7) mX11_read 134 [some (.ref 94), none] [] S19 (rx_pi zr zS) := by
      intro S19 h
      subst eJ134_2
      refine ev_aload_n (i := 0) 135 dX11_read_134 rfl rfl rfl ?_
      refine ev_aload_n (i := 0) 136 dX11_read_135 rfl rfl rfl ?_
      refine ev_get (v := .int (S19.1 94 13)) 139 dX11_read_136 dk_94 fl_11_203 (by decide) rfl rfl rfl ?_
      obtain ⟨J164_3, eJ164_3, h⟩ := rx_let_o h
      have hJ164_3 : ∀ (x20 : Int32) (S21 : rx_S), J164_3 x20 S21 = some (zr, zS) → EV gM (d + 7) mX11_read 164 [some (.ref 94), none] [.int x20, .ref 94] S21 (rx_pi zr zS) := by
        intro x20 S21 h
        subst eJ164_3
        obtain ⟨S22, eS22, h⟩ := rx_let_o h
        refine ex_put 167 dX11_read_164 dk_94 fl_11_37 pp_11_17 (by decide) rfl rfl rfl rfl eS22 ?_
        refine ev_aload_n (i := 0) 168 dX11_read_167 rfl rfl rfl ?_
        refine ev_get (v := .int (S22.1 94 13)) 171 dX11_read_168 dk_94 fl_11_203 (by decide) rfl rfl rfl ?_
        refine ev_if_le 179 174 dX11_read_171 rfl rfl (fun c23 => ?_) (fun c23 => ?_)
        · replace h := rx_if_t c23 h
          refine ev_aload_n (i := 0) 180 dX11_read_179 rfl rfl rfl ?_
          refine ev_get (v := .int (S22.1 94 15)) 183 dX11_read_180 dk_94 fl_11_212 (by decide) rfl rfl rfl ?_
          refine ev_if_le 191 186 dX11_read_183 rfl rfl (fun c24 => ?_) (fun c24 => ?_)
          · replace h := rx_if_t c24 h
            refine ev_aload_n (i := 0) 192 dX11_read_191 rfl rfl rfl ?_
            refine ev_aload_n (i := 0) 193 dX11_read_192 rfl rfl rfl ?_
            refine ev_get (v := .int (S22.1 94 19)) 196 dX11_read_193 dk_94 fl_11_236 (by decide) rfl rfl rfl ?_
            obtain ⟨S25, eS25, h⟩ := rx_let_o h
            refine ex_put 199 dX11_read_196 dk_94 fl_11_233 pp_11_18 (by decide) rfl rfl rfl rfl eS25 ?_
            refine ev_aload_n (i := 0) 200 dX11_read_199 rfl rfl rfl ?_
            obtain ⟨x27, S26, g28, h⟩ := rx_bd_o h
            refine ev_cVv0 203 dX11_read_200 (em_X11_begins g28) mm_X11_begins mv_X11_begins lk_11_160 dk_94 (by decide) rfl (Nat.le_of_ble_eq_true rfl) (Nat.le_of_ble_eq_true rfl) rfl ?_
            refine ev_aload_n (i := 0) 204 dX11_read_203 rfl rfl rfl ?_
            obtain ⟨x30, S29, g31, h⟩ := rx_bd_o h
            refine ev_cVv0 207 dX11_read_204 (em_X11_keepsRow g31) mm_X11_keepsRow mv_X11_keepsRow lk_11_163 dk_94 (by decide) rfl (Nat.le_of_ble_eq_true rfl) (Nat.le_of_ble_eq_true rfl) rfl ?_
            refine ev_aload_n (i := 0) 208 dX11_read_207 rfl rfl rfl ?_
            refine ev_iconst (v := 0) 209 dX11_read_208 (by decide) rfl ?_
            obtain ⟨S32, eS32, h⟩ := rx_let_o h
            refine ex_put 212 dX11_read_209 dk_94 fl_11_251 pp_11_52 (by decide) rfl rfl rfl rfl eS32 ?_
            refine ev_aload_n (i := 0) 213 dX11_read_212 rfl rfl rfl ?_
            refine ev_iconst (v := 0) 214 dX11_read_213 (by decide) rfl ?_
            obtain ⟨S33, eS33, h⟩ := rx_let_o h
            refine ex_put 217 dX11_read_214 dk_94 fl_11_254 pp_11_62 (by decide) rfl rfl rfl rfl eS33 ?_
            refine ev_iconst (v := 0) 218 dX11_read_217 (by decide) rfl ?_
            refine ev_istore_n (ls' := [some (.ref 94), some (.int 0)]) 219 dX11_read_218 rfl (Nat.le_of_ble_eq_true rfl) rfl rfl ?_
            exact (em_X11_read_L219 _ _ _ h).fewer (rx_le_s (rx_le_s rx_le_0))
          · replace h := rx_if_f c24 h
            refine ev_aload_n (i := 0) 187 dX11_read_186 rfl rfl rfl ?_
            refine ev_get (v := .int (S22.1 94 15)) 190 dX11_read_187 dk_94 fl_11_212 (by decide) rfl rfl rfl ?_
            exact ev_ireturn dX11_read_190 rfl (rx_ret_i h)
        · replace h := rx_if_f c23 h
          refine ev_aload_n (i := 0) 175 dX11_read_174 rfl rfl rfl ?_
          refine ev_get (v := .int (S22.1 94 13)) 178 dX11_read_175 dk_94 fl_11_203 (by decide) rfl rfl rfl ?_
          exact ev_ireturn dX11_read_178 rfl (rx_ret_i h)
      refine ev_if_le 149 142 dX11_read_139 rfl rfl (fun c40 => ?_) (fun c40 => ?_)
      · replace h := rx_if_t c40 h
        refine ev_aload_n (i := 0) 150 dX11_read_149 rfl rfl rfl ?_
        refine ev_get (v := .int (S19.1 94 15)) 153 dX11_read_150 dk_94 fl_11_212 (by decide) rfl rfl rfl ?_
        refine ev_if_le 163 156 dX11_read_153 rfl rfl (fun c41 => ?_) (fun c41 => ?_)
        · replace h := rx_if_t c41 h
          refine ev_iconst (v := (-1)) 164 dX11_read_163 (by decide) rfl ?_
          exact (hJ164_3 _ _ h).fewer (rx_le_s (rx_le_n rx_le_0))
        · replace h := rx_if_f c41 h
          refine ev_aload_n (i := 0) 157 dX11_read_156 rfl rfl rfl ?_
          refine ev_get (v := .int (S19.1 94 16)) 160 dX11_read_157 dk_94 fl_11_215 (by decide) rfl rfl rfl ?_
          refine ev_goto 164 dX11_read_160 rfl ?_
          exact (hJ164_3 _ _ h).fewer (rx_le_s (rx_le_n rx_le_0))
      · replace h := rx_if_f c40 h
        refine ev_aload_n (i := 0) 143 dX11_read_142 rfl rfl rfl ?_
        refine ev_get (v := .int (S19.1 94 14)) 146 dX11_read_143 dk_94 fl_11_209 (by decide) rfl rfl rfl ?_
        refine ev_goto 164 dX11_read_146 rfl ?_
        exact (hJ164_3 _ _ h).fewer (rx_le_s (rx_le_n rx_le_0))
    exact (em_X11_read_L112 hJ134_2 _ _ h).fewer (rx_le_s (rx_le_n rx_le_0))
  exact (em_X11_read_L10 hJ36_1 _ _ _ h).fewer (rx_le_s (rx_le_s rx_le_0))

def f_X11_place (S0 : rx_S) : Option (Int32 × rx_S) := some ((S0.1 94 17), S0)
set_option maxHeartbeats 4000000 in
set_option maxRecDepth 20000 in
theorem em_X11_place {d : Nat} {S0 : rx_S} {zr : Int32} {zS : rx_S} (h : f_X11_place S0 = some (zr, zS)) : EM gM d mX11_place [.ref 94] S0 (rx_pi zr zS) := by
  unfold f_X11_place at h
  show EV gM d mX11_place 0 [some (.ref 94)] [] S0 (rx_pi zr zS)
  refine ev_aload_n (i := 0) 1 dX11_place_0 rfl rfl rfl ?_
  refine ev_get (v := .int (S0.1 94 17)) 4 dX11_place_1 dk_94 fl_11_37 (by decide) rfl rfl rfl ?_
  exact ev_ireturn dX11_place_4 rfl (rx_ret_i h)

def f_X11_termOf_L5 (N : Nat) (K97 : rx_S → Option (Int32 × rx_S)) (K165 : rx_S → Option (Int32 × rx_S)) : Nat → Int32 → Int32 → Int32 → rx_S → Option (Int32 × rx_S)
  | 0, _, _, _, _ => none
  | n + 1, x7, x8, x9, S10 => if x7 ≤ x9 then (K165 S10) else (rx_gd x9 840 (rx_let (S10.1 121 (Int32.toNatClampNeg x9)) (fun x15 => if (2 : Int32) ≤ x15 then (rx_let (x8 + (-1)) (fun x17 => rx_gd (x17 - 1) 400 (rx_let (S10.1 125 (Int32.toNatClampNeg (x17 - 1))) (fun x19 => rx_gd x17 400 (rx_let (S10.1 125 (Int32.toNatClampNeg x17)) (fun x21 => rx_let (fun (x22 : Int32) (x23 : Int32) (x24 : Int32) (x25 : Int32) (x26 : Int32) (x27 : Int32) (S28 : rx_S) => rx_let (fun (x29 : Int32) (x30 : Int32) (x31 : Int32) (x32 : Int32) (x33 : Int32) (S34 : rx_S) => rx_gd x32 400 (rx_let (rx_ui S34 125 (Int32.toNatClampNeg x32) x33) (fun S36 => rx_let (x31 + 1) (fun x37 => f_X11_termOf_L5 N K97 K165 n x29 x30 x37 S36)))) (fun J158_4 => if x25 = 2 then (J158_4 x22 x23 x24 (x23 - 1) (x26 + x27) S28) else (if x25 = 3 then (J158_4 x22 x23 x24 (x23 - 1) (x26 - x27) S28) else (if x25 = 4 then (J158_4 x22 x23 x24 (x23 - 1) (x26 * x27) S28) else (rx_nz x27 (J158_4 x22 x23 x24 (x23 - 1) (x26 / x27) S28)))))) (fun J104_3 => if x15 = 5 then (if x21 = 0 then (K97 S10) else (J104_3 x7 x17 x9 x15 x19 x21 S10)) else (J104_3 x7 x17 x9 x15 x19 x21 S10)))))))) else (rx_let (fun (x44 : Int32) (x45 : Int32) (x46 : Int32) (x47 : Int32) (x48 : Int32) (S49 : rx_S) => rx_gd x47 400 (rx_let (rx_ui S49 125 (Int32.toNatClampNeg x47) x48) (fun S51 => rx_let (x45 + 1) (fun x52 => rx_let (x46 + 1) (fun x53 => f_X11_termOf_L5 N K97 K165 n x44 x52 x53 S51))))) (fun J58_5 => if x15 = 0 then (rx_gd x9 840 (J58_5 x7 x8 x9 x8 (S10.1 122 (Int32.toNatClampNeg x9)) S10)) else (rx_gd x9 840 (rx_gd (S10.1 122 (Int32.toNatClampNeg x9)) 9 (J58_5 x7 x8 x9 x8 (S10.1 124 (Int32.toNatClampNeg (S10.1 122 (Int32.toNatClampNeg x9)))) S10))))))))
def f_X11_termOf (N : Nat) (x1 : Int32) (x2 : Int32) (S0 : rx_S) : Option (Int32 × rx_S) := rx_let (fun (S4 : rx_S) => some ((S4.1 125 0), S4)) (fun J165_1 => rx_let (fun (S5 : rx_S) => rx_let (rx_ui S5 94 48 1) (fun S6 => some (0, S6))) (fun J97_2 => f_X11_termOf_L5 N J97_2 J165_1 N x2 0 x1 S0))
set_option maxHeartbeats 4000000 in
set_option maxRecDepth 20000 in
theorem em_X11_termOf_L5 {d N : Nat} {K97 : rx_S → Option (Int32 × rx_S)} {K165 : rx_S → Option (Int32 × rx_S)} {zr : Int32} {zS : rx_S} (hK97 : ∀ (S11 : rx_S), K97 S11 = some (zr, zS) → EV gM d mX11_termOf 97 [some (.ref 94), none, none, none, none, none, none, none] [] S11 (rx_pi zr zS)) (hK165 : ∀ (S12 : rx_S), K165 S12 = some (zr, zS) → EV gM d mX11_termOf 165 [some (.ref 94), none, none, none, none, none, none, none] [] S12 (rx_pi zr zS)) : ∀ (n : Nat) (x7 : Int32) (x8 : Int32) (x9 : Int32) (S10 : rx_S), f_X11_termOf_L5 N K97 K165 n x7 x8 x9 S10 = some (zr, zS) → EV gM d mX11_termOf 5 [some (.ref 94), none, some (.int x7), some (.int x8), some (.int x9), none, none, none] [] S10 (rx_pi zr zS) := by
  intro n
  induction n with
  | zero => intro x7 x8 x9 S10 h; cases h
  | succ n ih =>
    intro x7 x8 x9 S10 h
    rw [f_X11_termOf_L5] at h
    refine ev_iload 7 dX11_termOf_5 rfl rfl ?_
    refine ev_iload_n (i := 2) 8 dX11_termOf_7 rfl rfl rfl ?_
    refine ev_icmp_ge 165 11 dX11_termOf_8 rfl rfl (fun c13 => ?_) (fun c13 => ?_)
    · replace h := rx_if_t c13 h
      exact (hK165 _ h).fewer (rx_le_s (rx_le_n (rx_le_n (rx_le_n (rx_le_n (rx_le_n (rx_le_n (rx_le_n rx_le_0))))))))
    · replace h := rx_if_f c13 h
      refine ev_aload_n (i := 0) 12 dX11_termOf_11 rfl rfl rfl ?_
      refine ev_get (v := .ref 121) 15 dX11_termOf_12 dk_94 fl_11_98 (by decide) rfl rfl rfl ?_
      refine ev_iload 17 dX11_termOf_15 rfl rfl ?_
      obtain ⟨g14, h⟩ := rx_gd_o h
      refine ex_iald _ 18 dX11_termOf_17 dk_121 g14 rfl rfl ?_
      obtain ⟨x15, ex15, h⟩ := rx_let_o h
      refine ev_nm ex15 ?_
      refine ev_istore (ls' := [some (.ref 94), none, some (.int x7), some (.int x8), some (.int x9), some (.int x15), none, none]) 20 dX11_termOf_18 (Nat.le_of_ble_eq_true rfl) rfl rfl ?_
      refine ev_iload 22 dX11_termOf_20 rfl rfl ?_
      refine ev_iconst (v := 2) 23 dX11_termOf_22 (by decide) rfl ?_
      refine ev_icmp_ge 65 26 dX11_termOf_23 rfl rfl (fun c16 => ?_) (fun c16 => ?_)
      · replace h := rx_if_t c16 h
        obtain ⟨x17, ex17, h⟩ := rx_let_o h
        refine ev_iinc (v := x17) (ls' := [some (.ref 94), none, some (.int x7), some (.int x17), some (.int x9), some (.int x15), none, none]) 68 dX11_termOf_65 rfl (by rw [ex17]; rfl) (Nat.le_of_ble_eq_true rfl) rfl rfl ?_
        refine ev_aload_n (i := 0) 69 dX11_termOf_68 rfl rfl rfl ?_
        refine ev_get (v := .ref 125) 72 dX11_termOf_69 dk_94 fl_11_110 (by decide) rfl rfl rfl ?_
        refine ev_iload_n (i := 3) 73 dX11_termOf_72 rfl rfl rfl ?_
        refine ev_iconst (v := 1) 74 dX11_termOf_73 (by decide) rfl ?_
        refine ev_isub 75 dX11_termOf_74 rfl ?_
        obtain ⟨g18, h⟩ := rx_gd_o h
        refine ex_iald _ 76 dX11_termOf_75 dk_125 g18 rfl rfl ?_
        obtain ⟨x19, ex19, h⟩ := rx_let_o h
        refine ev_nm ex19 ?_
        refine ev_istore (ls' := [some (.ref 94), none, some (.int x7), some (.int x17), some (.int x9), some (.int x15), some (.int x19), none]) 78 dX11_termOf_76 (Nat.le_of_ble_eq_true rfl) rfl rfl ?_
        refine ev_aload_n (i := 0) 79 dX11_termOf_78 rfl rfl rfl ?_
        refine ev_get (v := .ref 125) 82 dX11_termOf_79 dk_94 fl_11_110 (by decide) rfl rfl rfl ?_
        refine ev_iload_n (i := 3) 83 dX11_termOf_82 rfl rfl rfl ?_
        obtain ⟨g20, h⟩ := rx_gd_o h
        refine ex_iald _ 84 dX11_termOf_83 dk_125 g20 rfl rfl ?_
        obtain ⟨x21, ex21, h⟩ := rx_let_o h
        refine ev_nm ex21 ?_
        refine ev_istore (ls' := [some (.ref 94), none, some (.int x7), some (.int x17), some (.int x9), some (.int x15), some (.int x19), some (.int x21)]) 86 dX11_termOf_84 (Nat.le_of_ble_eq_true rfl) rfl rfl ?_
        refine ev_iload 88 dX11_termOf_86 rfl rfl ?_
        refine ev_iconst (v := 5) 89 dX11_termOf_88 (by decide) rfl ?_
        obtain ⟨J104_3, eJ104_3, h⟩ := rx_let_o h
        have hJ104_3 : ∀ (x22 : Int32) (x23 : Int32) (x24 : Int32) (x25 : Int32) (x26 : Int32) (x27 : Int32) (S28 : rx_S), J104_3 x22 x23 x24 x25 x26 x27 S28 = some (zr, zS) → EV gM d mX11_termOf 104 [some (.ref 94), none, some (.int x22), some (.int x23), some (.int x24), some (.int x25), some (.int x26), some (.int x27)] [] S28 (rx_pi zr zS) := by
          intro x22 x23 x24 x25 x26 x27 S28 h
          subst eJ104_3
          refine ev_aload_n (i := 0) 105 dX11_termOf_104 rfl rfl rfl ?_
          refine ev_get (v := .ref 125) 108 dX11_termOf_105 dk_94 fl_11_110 (by decide) rfl rfl rfl ?_
          refine ev_iload_n (i := 3) 109 dX11_termOf_108 rfl rfl rfl ?_
          refine ev_iconst (v := 1) 110 dX11_termOf_109 (by decide) rfl ?_
          refine ev_isub 111 dX11_termOf_110 rfl ?_
          refine ev_iload 113 dX11_termOf_111 rfl rfl ?_
          refine ev_iconst (v := 2) 114 dX11_termOf_113 (by decide) rfl ?_
          obtain ⟨J158_4, eJ158_4, h⟩ := rx_let_o h
          have hJ158_4 : ∀ (x29 : Int32) (x30 : Int32) (x31 : Int32) (x32 : Int32) (x33 : Int32) (S34 : rx_S), J158_4 x29 x30 x31 x32 x33 S34 = some (zr, zS) → EV gM d mX11_termOf 158 [some (.ref 94), none, some (.int x29), some (.int x30), some (.int x31), none, none, none] [.int x33, .int x32, .ref 125] S34 (rx_pi zr zS) := by
            intro x29 x30 x31 x32 x33 S34 h
            subst eJ158_4
            obtain ⟨g35, h⟩ := rx_gd_o h
            obtain ⟨S36, eS36, h⟩ := rx_let_o h
            refine ex_iast _ 159 dX11_termOf_158 dk_125 g35 rfl rfl eS36 ?_
            obtain ⟨x37, ex37, h⟩ := rx_let_o h
            refine ev_iinc (v := x37) (ls' := [some (.ref 94), none, some (.int x29), some (.int x30), some (.int x37), none, none, none]) 162 dX11_termOf_159 rfl (by rw [ex37]; rfl) (Nat.le_of_ble_eq_true rfl) rfl rfl ?_
            refine ev_goto 5 dX11_termOf_162 rfl ?_
            exact (ih _ _ _ _ h).fewer (rx_le_s (rx_le_n (rx_le_s (rx_le_s (rx_le_s (rx_le_n (rx_le_n (rx_le_n rx_le_0))))))))
          refine ev_icmp_ne 125 117 dX11_termOf_114 rfl rfl (fun c38 => ?_) (fun c38 => ?_)
          · replace h := rx_if_f c38 h
            refine ev_iload 127 dX11_termOf_125 rfl rfl ?_
            refine ev_iconst (v := 3) 128 dX11_termOf_127 (by decide) rfl ?_
            refine ev_icmp_ne 139 131 dX11_termOf_128 rfl rfl (fun c39 => ?_) (fun c39 => ?_)
            · replace h := rx_if_f c39 h
              refine ev_iload 141 dX11_termOf_139 rfl rfl ?_
              refine ev_iconst (v := 4) 142 dX11_termOf_141 (by decide) rfl ?_
              refine ev_icmp_ne 153 145 dX11_termOf_142 rfl rfl (fun c40 => ?_) (fun c40 => ?_)
              · replace h := rx_if_f c40 h
                refine ev_iload 155 dX11_termOf_153 rfl rfl ?_
                refine ev_iload 157 dX11_termOf_155 rfl rfl ?_
                obtain ⟨g41, h⟩ := rx_nz_o h
                refine ev_idiv 158 dX11_termOf_157 g41 rfl ?_
                exact (hJ158_4 _ _ _ _ _ _ h).fewer (rx_le_s (rx_le_n (rx_le_s (rx_le_s (rx_le_s (rx_le_n (rx_le_n (rx_le_n rx_le_0))))))))
              · replace h := rx_if_t c40 h
                refine ev_iload 147 dX11_termOf_145 rfl rfl ?_
                refine ev_iload 149 dX11_termOf_147 rfl rfl ?_
                refine ev_imul 150 dX11_termOf_149 rfl ?_
                refine ev_goto 158 dX11_termOf_150 rfl ?_
                exact (hJ158_4 _ _ _ _ _ _ h).fewer (rx_le_s (rx_le_n (rx_le_s (rx_le_s (rx_le_s (rx_le_n (rx_le_n (rx_le_n rx_le_0))))))))
            · replace h := rx_if_t c39 h
              refine ev_iload 133 dX11_termOf_131 rfl rfl ?_
              refine ev_iload 135 dX11_termOf_133 rfl rfl ?_
              refine ev_isub 136 dX11_termOf_135 rfl ?_
              refine ev_goto 158 dX11_termOf_136 rfl ?_
              exact (hJ158_4 _ _ _ _ _ _ h).fewer (rx_le_s (rx_le_n (rx_le_s (rx_le_s (rx_le_s (rx_le_n (rx_le_n (rx_le_n rx_le_0))))))))
          · replace h := rx_if_t c38 h
            refine ev_iload 119 dX11_termOf_117 rfl rfl ?_
            refine ev_iload 121 dX11_termOf_119 rfl rfl ?_
            refine ev_iadd 122 dX11_termOf_121 rfl ?_
            refine ev_goto 158 dX11_termOf_122 rfl ?_
            exact (hJ158_4 _ _ _ _ _ _ h).fewer (rx_le_s (rx_le_n (rx_le_s (rx_le_s (rx_le_s (rx_le_n (rx_le_n (rx_le_n rx_le_0))))))))
        refine ev_icmp_ne 104 92 dX11_termOf_89 rfl rfl (fun c42 => ?_) (fun c42 => ?_)
        · replace h := rx_if_f c42 h
          exact (hJ104_3 _ _ _ _ _ _ _ h).fewer (rx_le_s (rx_le_n (rx_le_s (rx_le_s (rx_le_s (rx_le_s (rx_le_s (rx_le_s rx_le_0))))))))
        · replace h := rx_if_t c42 h
          refine ev_iload 94 dX11_termOf_92 rfl rfl ?_
          refine ev_if_ne 104 97 dX11_termOf_94 rfl rfl (fun c43 => ?_) (fun c43 => ?_)
          · replace h := rx_if_f c43 h
            exact (hJ104_3 _ _ _ _ _ _ _ h).fewer (rx_le_s (rx_le_n (rx_le_s (rx_le_s (rx_le_s (rx_le_s (rx_le_s (rx_le_s rx_le_0))))))))
          · replace h := rx_if_t c43 h
            exact (hK97 _ h).fewer (rx_le_s (rx_le_n (rx_le_n (rx_le_n (rx_le_n (rx_le_n (rx_le_n (rx_le_n rx_le_0))))))))
      · replace h := rx_if_f c16 h
        refine ev_aload_n (i := 0) 27 dX11_termOf_26 rfl rfl rfl ?_
        refine ev_get (v := .ref 125) 30 dX11_termOf_27 dk_94 fl_11_110 (by decide) rfl rfl rfl ?_
        refine ev_iload_n (i := 3) 31 dX11_termOf_30 rfl rfl rfl ?_
        refine ev_iload 33 dX11_termOf_31 rfl rfl ?_
        obtain ⟨J58_5, eJ58_5, h⟩ := rx_let_o h
        have hJ58_5 : ∀ (x44 : Int32) (x45 : Int32) (x46 : Int32) (x47 : Int32) (x48 : Int32) (S49 : rx_S), J58_5 x44 x45 x46 x47 x48 S49 = some (zr, zS) → EV gM d mX11_termOf 58 [some (.ref 94), none, some (.int x44), some (.int x45), some (.int x46), none, none, none] [.int x48, .int x47, .ref 125] S49 (rx_pi zr zS) := by
          intro x44 x45 x46 x47 x48 S49 h
          subst eJ58_5
          obtain ⟨g50, h⟩ := rx_gd_o h
          obtain ⟨S51, eS51, h⟩ := rx_let_o h
          refine ex_iast _ 59 dX11_termOf_58 dk_125 g50 rfl rfl eS51 ?_
          obtain ⟨x52, ex52, h⟩ := rx_let_o h
          refine ev_iinc (v := x52) (ls' := [some (.ref 94), none, some (.int x44), some (.int x52), some (.int x46), none, none, none]) 62 dX11_termOf_59 rfl (by rw [ex52]; rfl) (Nat.le_of_ble_eq_true rfl) rfl rfl ?_
          refine ev_goto 159 dX11_termOf_62 rfl ?_
          obtain ⟨x53, ex53, h⟩ := rx_let_o h
          refine ev_iinc (v := x53) (ls' := [some (.ref 94), none, some (.int x44), some (.int x52), some (.int x53), none, none, none]) 162 dX11_termOf_159 rfl (by rw [ex53]; rfl) (Nat.le_of_ble_eq_true rfl) rfl rfl ?_
          refine ev_goto 5 dX11_termOf_162 rfl ?_
          exact (ih _ _ _ _ h).fewer (rx_le_s (rx_le_n (rx_le_s (rx_le_s (rx_le_s (rx_le_n (rx_le_n (rx_le_n rx_le_0))))))))
        refine ev_if_ne 46 36 dX11_termOf_33 rfl rfl (fun c54 => ?_) (fun c54 => ?_)
        · replace h := rx_if_f c54 h
          refine ev_aload_n (i := 0) 47 dX11_termOf_46 rfl rfl rfl ?_
          refine ev_get (v := .ref 124) 50 dX11_termOf_47 dk_94 fl_11_107 (by decide) rfl rfl rfl ?_
          refine ev_aload_n (i := 0) 51 dX11_termOf_50 rfl rfl rfl ?_
          refine ev_get (v := .ref 122) 54 dX11_termOf_51 dk_94 fl_11_101 (by decide) rfl rfl rfl ?_
          refine ev_iload 56 dX11_termOf_54 rfl rfl ?_
          obtain ⟨g55, h⟩ := rx_gd_o h
          refine ex_iald _ 57 dX11_termOf_56 dk_122 g55 rfl rfl ?_
          obtain ⟨g56, h⟩ := rx_gd_o h
          refine ex_iald _ 58 dX11_termOf_57 dk_124 g56 rfl rfl ?_
          exact (hJ58_5 _ _ _ _ _ _ h).fewer (rx_le_s (rx_le_n (rx_le_s (rx_le_s (rx_le_s (rx_le_n (rx_le_n (rx_le_n rx_le_0))))))))
        · replace h := rx_if_t c54 h
          refine ev_aload_n (i := 0) 37 dX11_termOf_36 rfl rfl rfl ?_
          refine ev_get (v := .ref 122) 40 dX11_termOf_37 dk_94 fl_11_101 (by decide) rfl rfl rfl ?_
          refine ev_iload 42 dX11_termOf_40 rfl rfl ?_
          obtain ⟨g57, h⟩ := rx_gd_o h
          refine ex_iald _ 43 dX11_termOf_42 dk_122 g57 rfl rfl ?_
          refine ev_goto 58 dX11_termOf_43 rfl ?_
          exact (hJ58_5 _ _ _ _ _ _ h).fewer (rx_le_s (rx_le_n (rx_le_s (rx_le_s (rx_le_s (rx_le_n (rx_le_n (rx_le_n rx_le_0))))))))

set_option maxHeartbeats 4000000 in
set_option maxRecDepth 20000 in
theorem em_X11_termOf {d N : Nat} {x1 : Int32} {x2 : Int32} {S0 : rx_S} {zr : Int32} {zS : rx_S} (h : f_X11_termOf N x1 x2 S0 = some (zr, zS)) : EM gM d mX11_termOf [.ref 94, .int x1, .int x2] S0 (rx_pi zr zS) := by
  unfold f_X11_termOf at h
  show EV gM d mX11_termOf 0 [some (.ref 94), some (.int x1), some (.int x2), none, none, none, none, none] [] S0 (rx_pi zr zS)
  refine ev_iconst (v := 0) 1 dX11_termOf_0 (by decide) rfl ?_
  refine ev_istore_n (ls' := [some (.ref 94), some (.int x1), some (.int x2), some (.int 0), none, none, none, none]) 2 dX11_termOf_1 rfl (Nat.le_of_ble_eq_true rfl) rfl rfl ?_
  refine ev_iload_n (i := 1) 3 dX11_termOf_2 rfl rfl rfl ?_
  refine ev_istore (ls' := [some (.ref 94), some (.int x1), some (.int x2), some (.int 0), some (.int x1), none, none, none]) 5 dX11_termOf_3 (Nat.le_of_ble_eq_true rfl) rfl rfl ?_
  obtain ⟨J165_1, eJ165_1, h⟩ := rx_let_o h
  have hJ165_1 : ∀ (S4 : rx_S), J165_1 S4 = some (zr, zS) → EV gM d mX11_termOf 165 [some (.ref 94), none, none, none, none, none, none, none] [] S4 (rx_pi zr zS) := by
    intro S4 h
    subst eJ165_1
    refine ev_aload_n (i := 0) 166 dX11_termOf_165 rfl rfl rfl ?_
    refine ev_get (v := .ref 125) 169 dX11_termOf_166 dk_94 fl_11_110 (by decide) rfl rfl rfl ?_
    refine ev_iconst (v := 0) 170 dX11_termOf_169 (by decide) rfl ?_
    refine ex_iald 0 171 dX11_termOf_170 dk_125 (rx_vin (by decide)) (by decide) rfl ?_
    exact ev_ireturn dX11_termOf_171 rfl (rx_ret_i h)
  obtain ⟨J97_2, eJ97_2, h⟩ := rx_let_o h
  have hJ97_2 : ∀ (S5 : rx_S), J97_2 S5 = some (zr, zS) → EV gM d mX11_termOf 97 [some (.ref 94), none, none, none, none, none, none, none] [] S5 (rx_pi zr zS) := by
    intro S5 h
    subst eJ97_2
    refine ev_aload_n (i := 0) 98 dX11_termOf_97 rfl rfl rfl ?_
    refine ev_iconst (v := 1) 99 dX11_termOf_98 (by decide) rfl ?_
    obtain ⟨S6, eS6, h⟩ := rx_let_o h
    refine ex_put 102 dX11_termOf_99 dk_94 fl_11_312 pp_11_48 (by decide) rfl (by decide) (by decide) rfl eS6 ?_
    refine ev_iconst (v := 0) 103 dX11_termOf_102 (by decide) rfl ?_
    exact ev_ireturn dX11_termOf_103 rfl (rx_ret_i h)
  exact (em_X11_termOf_L5 hJ97_2 hJ165_1 _ _ _ _ _ h).fewer (rx_le_s (rx_le_n (rx_le_s (rx_le_s (rx_le_s (rx_le_n (rx_le_n (rx_le_n rx_le_0))))))))

def f_X11_in (x0 : Int32) (x1 : Int32) (x2 : Int32) (S0 : rx_S) : Option (Int32 × rx_S) := if x0 < x1 then (some (0, S0)) else (if x2 < x0 then (some (0, S0)) else (some (1, S0)))
set_option maxHeartbeats 4000000 in
set_option maxRecDepth 20000 in
theorem em_X11_in {G : Nat × Nat} {d : Nat} {x0 : Int32} {x1 : Int32} {x2 : Int32} {S0 : rx_S} {zr : Int32} {zS : rx_S} (h : f_X11_in x0 x1 x2 S0 = some (zr, zS)) : EM G d mX11_in [.int x0, .int x1, .int x2] S0 (rx_pi zr zS) := by
  unfold f_X11_in at h
  show EV G d mX11_in 0 [some (.int x0), some (.int x1), some (.int x2)] [] S0 (rx_pi zr zS)
  refine ev_iload_n (i := 0) 1 dX11_in_0 rfl rfl rfl ?_
  refine ev_iload_n (i := 1) 2 dX11_in_1 rfl rfl rfl ?_
  refine ev_icmp_lt 14 5 dX11_in_2 rfl rfl (fun c4 => ?_) (fun c4 => ?_)
  · replace h := rx_if_t c4 h
    refine ev_iconst (v := 0) 15 dX11_in_14 (by decide) rfl ?_
    exact ev_zreturn dX11_in_15 rfl (by decide) (rx_ret_i h)
  · replace h := rx_if_f c4 h
    refine ev_iload_n (i := 0) 6 dX11_in_5 rfl rfl rfl ?_
    refine ev_iload_n (i := 2) 7 dX11_in_6 rfl rfl rfl ?_
    refine ev_icmp_gt 14 10 dX11_in_7 rfl rfl (fun c5 => ?_) (fun c5 => ?_)
    · replace h := rx_if_t c5 h
      refine ev_iconst (v := 0) 15 dX11_in_14 (by decide) rfl ?_
      exact ev_zreturn dX11_in_15 rfl (by decide) (rx_ret_i h)
    · replace h := rx_if_f c5 h
      refine ev_iconst (v := 1) 11 dX11_in_10 (by decide) rfl ?_
      refine ev_goto 15 dX11_in_11 rfl ?_
      exact ev_zreturn dX11_in_15 rfl (by decide) (rx_ret_i h)

def f_X11_held (x0 : Int32) (x1 : Int32) (x2 : Int32) (S0 : rx_S) : Option (Int32 × rx_S) := if x1 ≤ x0 then (if x0 ≤ x2 then (some (x0, S0)) else (some (x2, S0))) else (some (x1, S0))
set_option maxHeartbeats 4000000 in
set_option maxRecDepth 20000 in
theorem em_X11_held {G : Nat × Nat} {d : Nat} {x0 : Int32} {x1 : Int32} {x2 : Int32} {S0 : rx_S} {zr : Int32} {zS : rx_S} (h : f_X11_held x0 x1 x2 S0 = some (zr, zS)) : EM G d mX11_held [.int x0, .int x1, .int x2] S0 (rx_pi zr zS) := by
  unfold f_X11_held at h
  show EV G d mX11_held 0 [some (.int x0), some (.int x1), some (.int x2)] [] S0 (rx_pi zr zS)
  refine ev_iload_n (i := 0) 1 dX11_held_0 rfl rfl rfl ?_
  refine ev_iload_n (i := 1) 2 dX11_held_1 rfl rfl rfl ?_
  refine ev_icmp_ge 9 5 dX11_held_2 rfl rfl (fun c4 => ?_) (fun c4 => ?_)
  · replace h := rx_if_t c4 h
    refine ev_iload_n (i := 0) 10 dX11_held_9 rfl rfl rfl ?_
    refine ev_iload_n (i := 2) 11 dX11_held_10 rfl rfl rfl ?_
    refine ev_icmp_le 18 14 dX11_held_11 rfl rfl (fun c5 => ?_) (fun c5 => ?_)
    · replace h := rx_if_t c5 h
      refine ev_iload_n (i := 0) 19 dX11_held_18 rfl rfl rfl ?_
      exact ev_ireturn dX11_held_19 rfl (rx_ret_i h)
    · replace h := rx_if_f c5 h
      refine ev_iload_n (i := 2) 15 dX11_held_14 rfl rfl rfl ?_
      refine ev_goto 19 dX11_held_15 rfl ?_
      exact ev_ireturn dX11_held_19 rfl (rx_ret_i h)
  · replace h := rx_if_f c4 h
    refine ev_iload_n (i := 1) 6 dX11_held_5 rfl rfl rfl ?_
    refine ev_goto 19 dX11_held_6 rfl ?_
    exact ev_ireturn dX11_held_19 rfl (rx_ret_i h)

def f_X11_isSpouse (x1 : Int32) (S0 : rx_S) : Option (Int32 × rx_S) := rx_gd (S0.1 94 18) 2 (rx_bd (f_X11_in x1 0 ((S0.1 104 (Int32.toNatClampNeg (S0.1 94 18))) - 1) S0) (fun x5 S4 => rx_bl x5 (some (x5, S4))))
set_option maxHeartbeats 4000000 in
set_option maxRecDepth 20000 in
theorem em_X11_isSpouse {d : Nat} {x1 : Int32} {S0 : rx_S} {zr : Int32} {zS : rx_S} (h : f_X11_isSpouse x1 S0 = some (zr, zS)) : EM gM (d + 1) mX11_isSpouse [.ref 94, .int x1] S0 (rx_pi zr zS) := by
  unfold f_X11_isSpouse at h
  show EV gM (d + 1) mX11_isSpouse 0 [some (.ref 94), some (.int x1)] [] S0 (rx_pi zr zS)
  refine ev_iload_n (i := 1) 1 dX11_isSpouse_0 rfl rfl rfl ?_
  refine ev_iconst (v := 0) 2 dX11_isSpouse_1 (by decide) rfl ?_
  refine ev_aload_n (i := 0) 3 dX11_isSpouse_2 rfl rfl rfl ?_
  refine ev_get (v := .ref 104) 6 dX11_isSpouse_3 dk_94 fl_11_46 (by decide) rfl rfl rfl ?_
  refine ev_aload_n (i := 0) 7 dX11_isSpouse_6 rfl rfl rfl ?_
  refine ev_get (v := .int (S0.1 94 18)) 10 dX11_isSpouse_7 dk_94 fl_11_233 (by decide) rfl rfl rfl ?_
  obtain ⟨g3, h⟩ := rx_gd_o h
  refine ex_iald _ 11 dX11_isSpouse_10 dk_104 g3 rfl rfl ?_
  refine ev_iconst (v := 1) 12 dX11_isSpouse_11 (by decide) rfl ?_
  refine ev_isub 13 dX11_isSpouse_12 rfl ?_
  obtain ⟨x5, S4, g6, h⟩ := rx_bd_o h
  refine ev_cSi3 16 dX11_isSpouse_13 (em_X11_in g6) mm_X11_in ms_X11_in lk_11_316 (Nat.le_of_ble_eq_true rfl) (Nat.le_of_ble_eq_true rfl) rfl ?_
  obtain ⟨g7, h⟩ := rx_bl_o h
  exact ev_zreturn dX11_isSpouse_16 rfl (rx_nb g7) (rx_ret_i h)

def f_X11_isCouple (x1 : Int32) (S0 : rx_S) : Option (Int32 × rx_S) := rx_gd (S0.1 94 18) 2 (rx_bd (f_X11_in x1 0 ((S0.1 107 (Int32.toNatClampNeg (S0.1 94 18))) - 1) S0) (fun x5 S4 => rx_bl x5 (some (x5, S4))))
set_option maxHeartbeats 4000000 in
set_option maxRecDepth 20000 in
theorem em_X11_isCouple {d : Nat} {x1 : Int32} {S0 : rx_S} {zr : Int32} {zS : rx_S} (h : f_X11_isCouple x1 S0 = some (zr, zS)) : EM gM (d + 1) mX11_isCouple [.ref 94, .int x1] S0 (rx_pi zr zS) := by
  unfold f_X11_isCouple at h
  show EV gM (d + 1) mX11_isCouple 0 [some (.ref 94), some (.int x1)] [] S0 (rx_pi zr zS)
  refine ev_iload_n (i := 1) 1 dX11_isCouple_0 rfl rfl rfl ?_
  refine ev_iconst (v := 0) 2 dX11_isCouple_1 (by decide) rfl ?_
  refine ev_aload_n (i := 0) 3 dX11_isCouple_2 rfl rfl rfl ?_
  refine ev_get (v := .ref 107) 6 dX11_isCouple_3 dk_94 fl_11_55 (by decide) rfl rfl rfl ?_
  refine ev_aload_n (i := 0) 7 dX11_isCouple_6 rfl rfl rfl ?_
  refine ev_get (v := .int (S0.1 94 18)) 10 dX11_isCouple_7 dk_94 fl_11_233 (by decide) rfl rfl rfl ?_
  obtain ⟨g3, h⟩ := rx_gd_o h
  refine ex_iald _ 11 dX11_isCouple_10 dk_107 g3 rfl rfl ?_
  refine ev_iconst (v := 1) 12 dX11_isCouple_11 (by decide) rfl ?_
  refine ev_isub 13 dX11_isCouple_12 rfl ?_
  obtain ⟨x5, S4, g6, h⟩ := rx_bd_o h
  refine ev_cSi3 16 dX11_isCouple_13 (em_X11_in g6) mm_X11_in ms_X11_in lk_11_316 (Nat.le_of_ble_eq_true rfl) (Nat.le_of_ble_eq_true rfl) rfl ?_
  obtain ⟨g7, h⟩ := rx_bl_o h
  exact ev_zreturn dX11_isCouple_16 rfl (rx_nb g7) (rx_ret_i h)

def f_X11_isThird (x1 : Int32) (S0 : rx_S) : Option (Int32 × rx_S) := rx_gd (S0.1 94 18) 2 (rx_bd (f_X11_in x1 0 ((S0.1 109 (Int32.toNatClampNeg (S0.1 94 18))) - 1) S0) (fun x5 S4 => rx_bl x5 (some (x5, S4))))
set_option maxHeartbeats 4000000 in
set_option maxRecDepth 20000 in
theorem em_X11_isThird {d : Nat} {x1 : Int32} {S0 : rx_S} {zr : Int32} {zS : rx_S} (h : f_X11_isThird x1 S0 = some (zr, zS)) : EM gM (d + 1) mX11_isThird [.ref 94, .int x1] S0 (rx_pi zr zS) := by
  unfold f_X11_isThird at h
  show EV gM (d + 1) mX11_isThird 0 [some (.ref 94), some (.int x1)] [] S0 (rx_pi zr zS)
  refine ev_iload_n (i := 1) 1 dX11_isThird_0 rfl rfl rfl ?_
  refine ev_iconst (v := 0) 2 dX11_isThird_1 (by decide) rfl ?_
  refine ev_aload_n (i := 0) 3 dX11_isThird_2 rfl rfl rfl ?_
  refine ev_get (v := .ref 109) 6 dX11_isThird_3 dk_94 fl_11_61 (by decide) rfl rfl rfl ?_
  refine ev_aload_n (i := 0) 7 dX11_isThird_6 rfl rfl rfl ?_
  refine ev_get (v := .int (S0.1 94 18)) 10 dX11_isThird_7 dk_94 fl_11_233 (by decide) rfl rfl rfl ?_
  obtain ⟨g3, h⟩ := rx_gd_o h
  refine ex_iald _ 11 dX11_isThird_10 dk_109 g3 rfl rfl ?_
  refine ev_iconst (v := 1) 12 dX11_isThird_11 (by decide) rfl ?_
  refine ev_isub 13 dX11_isThird_12 rfl ?_
  obtain ⟨x5, S4, g6, h⟩ := rx_bd_o h
  refine ev_cSi3 16 dX11_isThird_13 (em_X11_in g6) mm_X11_in ms_X11_in lk_11_316 (Nat.le_of_ble_eq_true rfl) (Nat.le_of_ble_eq_true rfl) rfl ?_
  obtain ⟨g7, h⟩ := rx_bl_o h
  exact ev_zreturn dX11_isThird_16 rfl (rx_nb g7) (rx_ret_i h)

def f_X11_copies_L2 (N : Nat) (K26 : rx_S → Option (Unit × rx_S)) : Nat → Int32 → rx_S → Option (Unit × rx_S)
  | 0, _, _ => none
  | n + 1, x5, S6 => if (48 : Int32) ≤ x5 then (K26 S6) else (rx_gd x5 48 (rx_gd x5 48 (rx_let (rx_ui S6 127 (Int32.toNatClampNeg x5) (S6.1 126 (Int32.toNatClampNeg x5))) (fun S11 => rx_let (x5 + 1) (fun x12 => f_X11_copies_L2 N K26 n x12 S11)))))
def f_X11_copies (N : Nat) (S0 : rx_S) : Option (Unit × rx_S) := rx_let (fun (S2 : rx_S) => rx_gd (S2.1 94 18) 2 (rx_let (rx_ui S2 94 51 (S2.1 113 (Int32.toNatClampNeg (S2.1 94 18)))) (fun S4 => some ((), S4)))) (fun J26_1 => f_X11_copies_L2 N J26_1 N 0 S0)
set_option maxHeartbeats 4000000 in
set_option maxRecDepth 20000 in
theorem em_X11_copies_L2 {d N : Nat} {K26 : rx_S → Option (Unit × rx_S)} {zr : Unit} {zS : rx_S} (hK26 : ∀ (S7 : rx_S), K26 S7 = some (zr, zS) → EV gM d mX11_copies 26 [some (.ref 94), none] [] S7 (rx_pv zS)) : ∀ (n : Nat) (x5 : Int32) (S6 : rx_S), f_X11_copies_L2 N K26 n x5 S6 = some (zr, zS) → EV gM d mX11_copies 2 [some (.ref 94), some (.int x5)] [] S6 (rx_pv zS) := by
  intro n
  induction n with
  | zero => intro x5 S6 h; cases h
  | succ n ih =>
    intro x5 S6 h
    rw [f_X11_copies_L2] at h
    refine ev_iload_n (i := 1) 3 dX11_copies_2 rfl rfl rfl ?_
    refine ev_bipush (v := 48) 5 dX11_copies_3 (by decide) rfl ?_
    refine ev_icmp_ge 26 8 dX11_copies_5 rfl rfl (fun c8 => ?_) (fun c8 => ?_)
    · replace h := rx_if_t c8 h
      exact (hK26 _ h).fewer (rx_le_s (rx_le_n rx_le_0))
    · replace h := rx_if_f c8 h
      refine ev_aload_n (i := 0) 9 dX11_copies_8 rfl rfl rfl ?_
      refine ev_get (v := .ref 127) 12 dX11_copies_9 dk_94 fl_11_116 (by decide) rfl rfl rfl ?_
      refine ev_iload_n (i := 1) 13 dX11_copies_12 rfl rfl rfl ?_
      refine ev_aload_n (i := 0) 14 dX11_copies_13 rfl rfl rfl ?_
      refine ev_get (v := .ref 126) 17 dX11_copies_14 dk_94 fl_11_113 (by decide) rfl rfl rfl ?_
      refine ev_iload_n (i := 1) 18 dX11_copies_17 rfl rfl rfl ?_
      obtain ⟨g9, h⟩ := rx_gd_o h
      refine ex_iald _ 19 dX11_copies_18 dk_126 g9 rfl rfl ?_
      obtain ⟨g10, h⟩ := rx_gd_o h
      obtain ⟨S11, eS11, h⟩ := rx_let_o h
      refine ex_iast _ 20 dX11_copies_19 dk_127 g10 rfl rfl eS11 ?_
      obtain ⟨x12, ex12, h⟩ := rx_let_o h
      refine ev_iinc (v := x12) (ls' := [some (.ref 94), some (.int x12)]) 23 dX11_copies_20 rfl (by rw [ex12]; rfl) (Nat.le_of_ble_eq_true rfl) rfl rfl ?_
      refine ev_goto 2 dX11_copies_23 rfl ?_
      exact (ih _ _ h).fewer (rx_le_s (rx_le_s rx_le_0))

set_option maxHeartbeats 4000000 in
set_option maxRecDepth 20000 in
theorem em_X11_copies {d N : Nat} {S0 : rx_S} {zr : Unit} {zS : rx_S} (h : f_X11_copies N S0 = some (zr, zS)) : EM gM d mX11_copies [.ref 94] S0 (rx_pv zS) := by
  unfold f_X11_copies at h
  show EV gM d mX11_copies 0 [some (.ref 94), none] [] S0 (rx_pv zS)
  refine ev_iconst (v := 0) 1 dX11_copies_0 (by decide) rfl ?_
  refine ev_istore_n (ls' := [some (.ref 94), some (.int 0)]) 2 dX11_copies_1 rfl (Nat.le_of_ble_eq_true rfl) rfl rfl ?_
  obtain ⟨J26_1, eJ26_1, h⟩ := rx_let_o h
  have hJ26_1 : ∀ (S2 : rx_S), J26_1 S2 = some (zr, zS) → EV gM d mX11_copies 26 [some (.ref 94), none] [] S2 (rx_pv zS) := by
    intro S2 h
    subst eJ26_1
    refine ev_aload_n (i := 0) 27 dX11_copies_26 rfl rfl rfl ?_
    refine ev_aload_n (i := 0) 28 dX11_copies_27 rfl rfl rfl ?_
    refine ev_get (v := .ref 113) 31 dX11_copies_28 dk_94 fl_11_73 (by decide) rfl rfl rfl ?_
    refine ev_aload_n (i := 0) 32 dX11_copies_31 rfl rfl rfl ?_
    refine ev_get (v := .int (S2.1 94 18)) 35 dX11_copies_32 dk_94 fl_11_233 (by decide) rfl rfl rfl ?_
    obtain ⟨g3, h⟩ := rx_gd_o h
    refine ex_iald _ 36 dX11_copies_35 dk_113 g3 rfl rfl ?_
    obtain ⟨S4, eS4, h⟩ := rx_let_o h
    refine ex_put 39 dX11_copies_36 dk_94 fl_11_320 pp_11_51 (by decide) rfl rfl rfl rfl eS4 ?_
    exact ev_return dX11_copies_39 rfl (rx_ret_v h)
  exact (em_X11_copies_L2 hJ26_1 _ _ _ h).fewer (rx_le_s (rx_le_s rx_le_0))

def f_X11_mixed (x0 : Int32) (x1 : Int32) (S0 : rx_S) : Option (Int32 × rx_S) := rx_let (((x0 ^^^ x1) * 1103515245) + 12345) (fun x3 => some ((x3 ^^^ (rx_ushr x3 15)), S0))
set_option maxHeartbeats 4000000 in
set_option maxRecDepth 20000 in
theorem em_X11_mixed {G : Nat × Nat} {d : Nat} {x0 : Int32} {x1 : Int32} {S0 : rx_S} {zr : Int32} {zS : rx_S} (h : f_X11_mixed x0 x1 S0 = some (zr, zS)) : EM G d mX11_mixed [.int x0, .int x1] S0 (rx_pi zr zS) := by
  unfold f_X11_mixed at h
  show EV G d mX11_mixed 0 [some (.int x0), some (.int x1), none] [] S0 (rx_pi zr zS)
  refine ev_iload_n (i := 0) 1 dX11_mixed_0 rfl rfl rfl ?_
  refine ev_iload_n (i := 1) 2 dX11_mixed_1 rfl rfl rfl ?_
  refine ev_ixor 3 dX11_mixed_2 rfl ?_
  refine ev_ldcw (v := 1103515245) 6 dX11_mixed_3 rfl ct_11_323 rfl ?_
  refine ev_imul 7 dX11_mixed_6 rfl ?_
  refine ev_sipush (v := 12345) 10 dX11_mixed_7 (by decide) rfl ?_
  refine ev_iadd 11 dX11_mixed_10 rfl ?_
  obtain ⟨x3, ex3, h⟩ := rx_let_o h
  refine ev_nm ex3 ?_
  refine ev_istore_n (ls' := [some (.int x0), some (.int x1), some (.int x3)]) 12 dX11_mixed_11 rfl (Nat.le_of_ble_eq_true rfl) rfl rfl ?_
  refine ev_iload_n (i := 2) 13 dX11_mixed_12 rfl rfl rfl ?_
  refine ev_iload_n (i := 2) 14 dX11_mixed_13 rfl rfl rfl ?_
  refine ev_bipush (v := 15) 16 dX11_mixed_14 (by decide) rfl ?_
  refine ev_ushr 17 dX11_mixed_16 rfl ?_
  refine ev_ixor 18 dX11_mixed_17 rfl ?_
  exact ev_ireturn dX11_mixed_18 rfl (rx_ret_i h)

def f_X11_lotOf (x1 : Int32) (S0 : rx_S) : Option (Int32 × rx_S) := rx_bd (f_X11_mixed (S0.1 94 51) 91 S0) (fun x4 S3 => rx_bd (f_X11_mixed x4 x1 S3) (fun x7 S6 => some ((rx_rem (rx_ushr x7 1) 100), S6)))
set_option maxHeartbeats 4000000 in
set_option maxRecDepth 20000 in
theorem em_X11_lotOf {d : Nat} {x1 : Int32} {S0 : rx_S} {zr : Int32} {zS : rx_S} (h : f_X11_lotOf x1 S0 = some (zr, zS)) : EM gM (d + 1) mX11_lotOf [.ref 94, .int x1] S0 (rx_pi zr zS) := by
  unfold f_X11_lotOf at h
  show EV gM (d + 1) mX11_lotOf 0 [some (.ref 94), some (.int x1)] [] S0 (rx_pi zr zS)
  refine ev_aload_n (i := 0) 1 dX11_lotOf_0 rfl rfl rfl ?_
  refine ev_get (v := .int (S0.1 94 51)) 4 dX11_lotOf_1 dk_94 fl_11_320 (by decide) rfl rfl rfl ?_
  refine ev_bipush (v := 91) 6 dX11_lotOf_4 (by decide) rfl ?_
  obtain ⟨x4, S3, g5, h⟩ := rx_bd_o h
  refine ev_cSi2 9 dX11_lotOf_6 (em_X11_mixed g5) mm_X11_mixed ms_X11_mixed lk_11_324 (Nat.le_of_ble_eq_true rfl) (Nat.le_of_ble_eq_true rfl) rfl ?_
  refine ev_iload_n (i := 1) 10 dX11_lotOf_9 rfl rfl rfl ?_
  obtain ⟨x7, S6, g8, h⟩ := rx_bd_o h
  refine ev_cSi2 13 dX11_lotOf_10 (em_X11_mixed g8) mm_X11_mixed ms_X11_mixed lk_11_324 (Nat.le_of_ble_eq_true rfl) (Nat.le_of_ble_eq_true rfl) rfl ?_
  refine ev_iconst (v := 1) 14 dX11_lotOf_13 (by decide) rfl ?_
  refine ev_ushr 15 dX11_lotOf_14 rfl ?_
  refine ev_bipush (v := 100) 17 dX11_lotOf_15 (by decide) rfl ?_
  refine ev_rem 18 dX11_lotOf_17 (by decide) rfl ?_
  exact ev_ireturn dX11_lotOf_18 rfl (rx_ret_i h)

def f_X11_looks_L2 (N : Nat) (K21 : rx_S → Option (Unit × rx_S)) : Nat → Int32 → rx_S → Option (Unit × rx_S)
  | 0, _, _ => none
  | n + 1, x4, S5 => if (9 : Int32) ≤ x4 then (K21 S5) else (rx_gd x4 9 (rx_let (rx_ui S5 124 (Int32.toNatClampNeg x4) 0) (fun S9 => rx_let (x4 + 1) (fun x10 => f_X11_looks_L2 N K21 n x10 S9))))
def f_X11_looks (N : Nat) (S0 : rx_S) : Option (Unit × rx_S) := rx_let (fun (S2 : rx_S) => rx_let (rx_ui S2 124 6 (S2.1 127 44)) (fun S3 => some ((), S3))) (fun J21_1 => f_X11_looks_L2 N J21_1 N 0 S0)
set_option maxHeartbeats 4000000 in
set_option maxRecDepth 20000 in
theorem em_X11_looks_L2 {d N : Nat} {K21 : rx_S → Option (Unit × rx_S)} {zr : Unit} {zS : rx_S} (hK21 : ∀ (S6 : rx_S), K21 S6 = some (zr, zS) → EV gM d mX11_looks 21 [some (.ref 94), none] [] S6 (rx_pv zS)) : ∀ (n : Nat) (x4 : Int32) (S5 : rx_S), f_X11_looks_L2 N K21 n x4 S5 = some (zr, zS) → EV gM d mX11_looks 2 [some (.ref 94), some (.int x4)] [] S5 (rx_pv zS) := by
  intro n
  induction n with
  | zero => intro x4 S5 h; cases h
  | succ n ih =>
    intro x4 S5 h
    rw [f_X11_looks_L2] at h
    refine ev_iload_n (i := 1) 3 dX11_looks_2 rfl rfl rfl ?_
    refine ev_bipush (v := 9) 5 dX11_looks_3 (by decide) rfl ?_
    refine ev_icmp_ge 21 8 dX11_looks_5 rfl rfl (fun c7 => ?_) (fun c7 => ?_)
    · replace h := rx_if_t c7 h
      exact (hK21 _ h).fewer (rx_le_s (rx_le_n rx_le_0))
    · replace h := rx_if_f c7 h
      refine ev_aload_n (i := 0) 9 dX11_looks_8 rfl rfl rfl ?_
      refine ev_get (v := .ref 124) 12 dX11_looks_9 dk_94 fl_11_107 (by decide) rfl rfl rfl ?_
      refine ev_iload_n (i := 1) 13 dX11_looks_12 rfl rfl rfl ?_
      refine ev_iconst (v := 0) 14 dX11_looks_13 (by decide) rfl ?_
      obtain ⟨g8, h⟩ := rx_gd_o h
      obtain ⟨S9, eS9, h⟩ := rx_let_o h
      refine ex_iast _ 15 dX11_looks_14 dk_124 g8 rfl rfl eS9 ?_
      obtain ⟨x10, ex10, h⟩ := rx_let_o h
      refine ev_iinc (v := x10) (ls' := [some (.ref 94), some (.int x10)]) 18 dX11_looks_15 rfl (by rw [ex10]; rfl) (Nat.le_of_ble_eq_true rfl) rfl rfl ?_
      refine ev_goto 2 dX11_looks_18 rfl ?_
      exact (ih _ _ h).fewer (rx_le_s (rx_le_s rx_le_0))

set_option maxHeartbeats 4000000 in
set_option maxRecDepth 20000 in
theorem em_X11_looks {d N : Nat} {S0 : rx_S} {zr : Unit} {zS : rx_S} (h : f_X11_looks N S0 = some (zr, zS)) : EM gM d mX11_looks [.ref 94] S0 (rx_pv zS) := by
  unfold f_X11_looks at h
  show EV gM d mX11_looks 0 [some (.ref 94), none] [] S0 (rx_pv zS)
  refine ev_iconst (v := 0) 1 dX11_looks_0 (by decide) rfl ?_
  refine ev_istore_n (ls' := [some (.ref 94), some (.int 0)]) 2 dX11_looks_1 rfl (Nat.le_of_ble_eq_true rfl) rfl rfl ?_
  obtain ⟨J21_1, eJ21_1, h⟩ := rx_let_o h
  have hJ21_1 : ∀ (S2 : rx_S), J21_1 S2 = some (zr, zS) → EV gM d mX11_looks 21 [some (.ref 94), none] [] S2 (rx_pv zS) := by
    intro S2 h
    subst eJ21_1
    refine ev_aload_n (i := 0) 22 dX11_looks_21 rfl rfl rfl ?_
    refine ev_get (v := .ref 124) 25 dX11_looks_22 dk_94 fl_11_107 (by decide) rfl rfl rfl ?_
    refine ev_bipush (v := 6) 27 dX11_looks_25 (by decide) rfl ?_
    refine ev_aload_n (i := 0) 28 dX11_looks_27 rfl rfl rfl ?_
    refine ev_get (v := .ref 127) 31 dX11_looks_28 dk_94 fl_11_116 (by decide) rfl rfl rfl ?_
    refine ev_bipush (v := 44) 33 dX11_looks_31 (by decide) rfl ?_
    refine ex_iald 44 34 dX11_looks_33 dk_127 (rx_vin (by decide)) (by decide) rfl ?_
    obtain ⟨S3, eS3, h⟩ := rx_let_o h
    refine ex_iast 6 35 dX11_looks_34 dk_124 (rx_vin (by decide)) (by decide) rfl eS3 ?_
    exact ev_return dX11_looks_35 rfl (rx_ret_v h)
  exact (em_X11_looks_L2 hJ21_1 _ _ _ h).fewer (rx_le_s (rx_le_s rx_le_0))

def f_X11_asks_L40 (N : Nat) (K120 : Int32 → rx_S → Option (Int32 × rx_S)) : Nat → Int32 → Int32 → rx_S → Option (Int32 × rx_S)
  | 0, _, _, _ => none
  | n + 1, x19, x20, S21 => rx_gd x19 14 (if (S21.1 115 (Int32.toNatClampNeg x19)) ≤ x20 then (some (0, S21)) else (rx_gd x20 260 (if (S21.1 116 (Int32.toNatClampNeg x20)) = 0 then (K120 x20 S21) else (rx_gd x20 260 (rx_gd x20 260 (rx_bd (f_X11_termOf N (S21.1 117 (Int32.toNatClampNeg x20)) (S21.1 118 (Int32.toNatClampNeg x20)) S21) (fun x31 S30 => rx_gd x20 260 (rx_gd x20 260 (rx_bd (f_X11_termOf N (S30.1 118 (Int32.toNatClampNeg x20)) (S30.1 119 (Int32.toNatClampNeg x20)) S30) (fun x36 S35 => if (S35.1 94 48) = 0 then (if x31 < x36 then (K120 x20 S35) else (rx_let (x20 + 1) (fun x40 => f_X11_asks_L40 N K120 n x19 x40 S35))) else (some (0, S35))))))))))))
def f_X11_asks (N : Nat) (x1 : Int32) (x2 : Int32) (S0 : rx_S) : Option (Int32 × rx_S) := rx_let (((7 : Int32) * (S0.1 94 18)) + x1) (fun x4 => rx_gd x4 14 (rx_gd x4 14 (if (S0.1 114 (Int32.toNatClampNeg x4)) = (S0.1 115 (Int32.toNatClampNeg x4)) then (some (x2, S0)) else (rx_let (rx_ui S0 94 48 0) (fun S8 => rx_gd x4 14 (rx_let (S8.1 114 (Int32.toNatClampNeg x4)) (fun x10 => rx_let (fun (x11 : Int32) (S12 : rx_S) => rx_gd x11 260 (rx_gd x11 260 (rx_bd (f_X11_termOf N (S12.1 119 (Int32.toNatClampNeg x11)) (S12.1 120 (Int32.toNatClampNeg x11)) S12) (fun x16 S15 => if (S15.1 94 48) = 0 then (some (x16, S15)) else (some (0, S15)))))) (fun J120_1 => f_X11_asks_L40 N J120_1 N x4 x10 S8))))))))
set_option maxHeartbeats 4000000 in
set_option maxRecDepth 20000 in
theorem em_X11_asks_L40 {d N : Nat} {K120 : Int32 → rx_S → Option (Int32 × rx_S)} {zr : Int32} {zS : rx_S} (hK120 : ∀ (x22 : Int32) (S23 : rx_S), K120 x22 S23 = some (zr, zS) → EV gM (d + 1) mX11_asks 120 [some (.ref 94), none, none, none, some (.int x22), none, none] [] S23 (rx_pi zr zS)) : ∀ (n : Nat) (x19 : Int32) (x20 : Int32) (S21 : rx_S), f_X11_asks_L40 N K120 n x19 x20 S21 = some (zr, zS) → EV gM (d + 1) mX11_asks 40 [some (.ref 94), none, none, some (.int x19), some (.int x20), none, none] [] S21 (rx_pi zr zS) := by
  intro n
  induction n with
  | zero => intro x19 x20 S21 h; cases h
  | succ n ih =>
    intro x19 x20 S21 h
    rw [f_X11_asks_L40] at h
    refine ev_iload 42 dX11_asks_40 rfl rfl ?_
    refine ev_aload_n (i := 0) 43 dX11_asks_42 rfl rfl rfl ?_
    refine ev_get (v := .ref 115) 46 dX11_asks_43 dk_94 fl_11_79 (by decide) rfl rfl rfl ?_
    refine ev_iload_n (i := 3) 47 dX11_asks_46 rfl rfl rfl ?_
    obtain ⟨g24, h⟩ := rx_gd_o h
    refine ex_iald _ 48 dX11_asks_47 dk_115 g24 rfl rfl ?_
    refine ev_icmp_ge 160 51 dX11_asks_48 rfl rfl (fun c25 => ?_) (fun c25 => ?_)
    · replace h := rx_if_t c25 h
      refine ev_iconst (v := 0) 161 dX11_asks_160 (by decide) rfl ?_
      exact ev_ireturn dX11_asks_161 rfl (rx_ret_i h)
    · replace h := rx_if_f c25 h
      refine ev_aload_n (i := 0) 52 dX11_asks_51 rfl rfl rfl ?_
      refine ev_get (v := .ref 116) 55 dX11_asks_52 dk_94 fl_11_82 (by decide) rfl rfl rfl ?_
      refine ev_iload 57 dX11_asks_55 rfl rfl ?_
      obtain ⟨g26, h⟩ := rx_gd_o h
      refine ex_zald _ 58 dX11_asks_57 dk_116 g26 rfl rfl ?_
      refine ev_if_eq 120 61 dX11_asks_58 rfl rfl (fun c27 => ?_) (fun c27 => ?_)
      · replace h := rx_if_t c27 h
        exact (hK120 _ _ h).fewer (rx_le_s (rx_le_n (rx_le_n (rx_le_n (rx_le_s (rx_le_n (rx_le_n rx_le_0)))))))
      · replace h := rx_if_f c27 h
        refine ev_aload_n (i := 0) 62 dX11_asks_61 rfl rfl rfl ?_
        refine ev_aload_n (i := 0) 63 dX11_asks_62 rfl rfl rfl ?_
        refine ev_get (v := .ref 117) 66 dX11_asks_63 dk_94 fl_11_86 (by decide) rfl rfl rfl ?_
        refine ev_iload 68 dX11_asks_66 rfl rfl ?_
        obtain ⟨g28, h⟩ := rx_gd_o h
        refine ex_iald _ 69 dX11_asks_68 dk_117 g28 rfl rfl ?_
        refine ev_aload_n (i := 0) 70 dX11_asks_69 rfl rfl rfl ?_
        refine ev_get (v := .ref 118) 73 dX11_asks_70 dk_94 fl_11_89 (by decide) rfl rfl rfl ?_
        refine ev_iload 75 dX11_asks_73 rfl rfl ?_
        obtain ⟨g29, h⟩ := rx_gd_o h
        refine ex_iald _ 76 dX11_asks_75 dk_118 g29 rfl rfl ?_
        obtain ⟨x31, S30, g32, h⟩ := rx_bd_o h
        refine ev_cVi2 79 dX11_asks_76 (em_X11_termOf g32) mm_X11_termOf mv_X11_termOf lk_11_327 dk_94 (by decide) rfl (Nat.le_of_ble_eq_true rfl) (Nat.le_of_ble_eq_true rfl) rfl ?_
        refine ev_istore (ls' := [some (.ref 94), none, none, some (.int x19), some (.int x20), some (.int x31), none]) 81 dX11_asks_79 (Nat.le_of_ble_eq_true rfl) rfl rfl ?_
        refine ev_aload_n (i := 0) 82 dX11_asks_81 rfl rfl rfl ?_
        refine ev_aload_n (i := 0) 83 dX11_asks_82 rfl rfl rfl ?_
        refine ev_get (v := .ref 118) 86 dX11_asks_83 dk_94 fl_11_89 (by decide) rfl rfl rfl ?_
        refine ev_iload 88 dX11_asks_86 rfl rfl ?_
        obtain ⟨g33, h⟩ := rx_gd_o h
        refine ex_iald _ 89 dX11_asks_88 dk_118 g33 rfl rfl ?_
        refine ev_aload_n (i := 0) 90 dX11_asks_89 rfl rfl rfl ?_
        refine ev_get (v := .ref 119) 93 dX11_asks_90 dk_94 fl_11_92 (by decide) rfl rfl rfl ?_
        refine ev_iload 95 dX11_asks_93 rfl rfl ?_
        obtain ⟨g34, h⟩ := rx_gd_o h
        refine ex_iald _ 96 dX11_asks_95 dk_119 g34 rfl rfl ?_
        obtain ⟨x36, S35, g37, h⟩ := rx_bd_o h
        refine ev_cVi2 99 dX11_asks_96 (em_X11_termOf g37) mm_X11_termOf mv_X11_termOf lk_11_327 dk_94 (by decide) rfl (Nat.le_of_ble_eq_true rfl) (Nat.le_of_ble_eq_true rfl) rfl ?_
        refine ev_istore (ls' := [some (.ref 94), none, none, some (.int x19), some (.int x20), some (.int x31), some (.int x36)]) 101 dX11_asks_99 (Nat.le_of_ble_eq_true rfl) rfl rfl ?_
        refine ev_aload_n (i := 0) 102 dX11_asks_101 rfl rfl rfl ?_
        refine ev_get (v := .int (S35.1 94 48)) 105 dX11_asks_102 dk_94 fl_11_312 (by decide) rfl rfl rfl ?_
        refine ev_if_eq 110 108 dX11_asks_105 rfl rfl (fun c38 => ?_) (fun c38 => ?_)
        · replace h := rx_if_t c38 h
          refine ev_iload 112 dX11_asks_110 rfl rfl ?_
          refine ev_iload 114 dX11_asks_112 rfl rfl ?_
          refine ev_icmp_lt 120 117 dX11_asks_114 rfl rfl (fun c39 => ?_) (fun c39 => ?_)
          · replace h := rx_if_t c39 h
            exact (hK120 _ _ h).fewer (rx_le_s (rx_le_n (rx_le_n (rx_le_n (rx_le_s (rx_le_n (rx_le_n rx_le_0)))))))
          · replace h := rx_if_f c39 h
            refine ev_goto 154 dX11_asks_117 rfl ?_
            obtain ⟨x40, ex40, h⟩ := rx_let_o h
            refine ev_iinc (v := x40) (ls' := [some (.ref 94), none, none, some (.int x19), some (.int x40), some (.int x31), some (.int x36)]) 157 dX11_asks_154 rfl (by rw [ex40]; rfl) (Nat.le_of_ble_eq_true rfl) rfl rfl ?_
            refine ev_goto 40 dX11_asks_157 rfl ?_
            exact (ih _ _ _ h).fewer (rx_le_s (rx_le_n (rx_le_n (rx_le_s (rx_le_s (rx_le_n (rx_le_n rx_le_0)))))))
        · replace h := rx_if_f c38 h
          refine ev_iconst (v := 0) 109 dX11_asks_108 (by decide) rfl ?_
          exact ev_ireturn dX11_asks_109 rfl (rx_ret_i h)

set_option maxHeartbeats 4000000 in
set_option maxRecDepth 20000 in
theorem em_X11_asks {d N : Nat} {x1 : Int32} {x2 : Int32} {S0 : rx_S} {zr : Int32} {zS : rx_S} (h : f_X11_asks N x1 x2 S0 = some (zr, zS)) : EM gM (d + 1) mX11_asks [.ref 94, .int x1, .int x2] S0 (rx_pi zr zS) := by
  unfold f_X11_asks at h
  show EV gM (d + 1) mX11_asks 0 [some (.ref 94), some (.int x1), some (.int x2), none, none, none, none] [] S0 (rx_pi zr zS)
  refine ev_bipush (v := 7) 2 dX11_asks_0 (by decide) rfl ?_
  refine ev_aload_n (i := 0) 3 dX11_asks_2 rfl rfl rfl ?_
  refine ev_get (v := .int (S0.1 94 18)) 6 dX11_asks_3 dk_94 fl_11_233 (by decide) rfl rfl rfl ?_
  refine ev_imul 7 dX11_asks_6 rfl ?_
  refine ev_iload_n (i := 1) 8 dX11_asks_7 rfl rfl rfl ?_
  refine ev_iadd 9 dX11_asks_8 rfl ?_
  obtain ⟨x4, ex4, h⟩ := rx_let_o h
  refine ev_nm ex4 ?_
  refine ev_istore_n (ls' := [some (.ref 94), some (.int x1), some (.int x2), some (.int x4), none, none, none]) 10 dX11_asks_9 rfl (Nat.le_of_ble_eq_true rfl) rfl rfl ?_
  refine ev_aload_n (i := 0) 11 dX11_asks_10 rfl rfl rfl ?_
  refine ev_get (v := .ref 114) 14 dX11_asks_11 dk_94 fl_11_76 (by decide) rfl rfl rfl ?_
  refine ev_iload_n (i := 3) 15 dX11_asks_14 rfl rfl rfl ?_
  obtain ⟨g5, h⟩ := rx_gd_o h
  refine ex_iald _ 16 dX11_asks_15 dk_114 g5 rfl rfl ?_
  refine ev_aload_n (i := 0) 17 dX11_asks_16 rfl rfl rfl ?_
  refine ev_get (v := .ref 115) 20 dX11_asks_17 dk_94 fl_11_79 (by decide) rfl rfl rfl ?_
  refine ev_iload_n (i := 3) 21 dX11_asks_20 rfl rfl rfl ?_
  obtain ⟨g6, h⟩ := rx_gd_o h
  refine ex_iald _ 22 dX11_asks_21 dk_115 g6 rfl rfl ?_
  refine ev_icmp_ne 27 25 dX11_asks_22 rfl rfl (fun c7 => ?_) (fun c7 => ?_)
  · replace h := rx_if_f c7 h
    refine ev_aload_n (i := 0) 28 dX11_asks_27 rfl rfl rfl ?_
    refine ev_iconst (v := 0) 29 dX11_asks_28 (by decide) rfl ?_
    obtain ⟨S8, eS8, h⟩ := rx_let_o h
    refine ex_put 32 dX11_asks_29 dk_94 fl_11_312 pp_11_48 (by decide) rfl (by decide) (by decide) rfl eS8 ?_
    refine ev_aload_n (i := 0) 33 dX11_asks_32 rfl rfl rfl ?_
    refine ev_get (v := .ref 114) 36 dX11_asks_33 dk_94 fl_11_76 (by decide) rfl rfl rfl ?_
    refine ev_iload_n (i := 3) 37 dX11_asks_36 rfl rfl rfl ?_
    obtain ⟨g9, h⟩ := rx_gd_o h
    refine ex_iald _ 38 dX11_asks_37 dk_114 g9 rfl rfl ?_
    obtain ⟨x10, ex10, h⟩ := rx_let_o h
    refine ev_nm ex10 ?_
    refine ev_istore (ls' := [some (.ref 94), some (.int x1), some (.int x2), some (.int x4), some (.int x10), none, none]) 40 dX11_asks_38 (Nat.le_of_ble_eq_true rfl) rfl rfl ?_
    obtain ⟨J120_1, eJ120_1, h⟩ := rx_let_o h
    have hJ120_1 : ∀ (x11 : Int32) (S12 : rx_S), J120_1 x11 S12 = some (zr, zS) → EV gM (d + 1) mX11_asks 120 [some (.ref 94), none, none, none, some (.int x11), none, none] [] S12 (rx_pi zr zS) := by
      intro x11 S12 h
      subst eJ120_1
      refine ev_aload_n (i := 0) 121 dX11_asks_120 rfl rfl rfl ?_
      refine ev_aload_n (i := 0) 122 dX11_asks_121 rfl rfl rfl ?_
      refine ev_get (v := .ref 119) 125 dX11_asks_122 dk_94 fl_11_92 (by decide) rfl rfl rfl ?_
      refine ev_iload 127 dX11_asks_125 rfl rfl ?_
      obtain ⟨g13, h⟩ := rx_gd_o h
      refine ex_iald _ 128 dX11_asks_127 dk_119 g13 rfl rfl ?_
      refine ev_aload_n (i := 0) 129 dX11_asks_128 rfl rfl rfl ?_
      refine ev_get (v := .ref 120) 132 dX11_asks_129 dk_94 fl_11_95 (by decide) rfl rfl rfl ?_
      refine ev_iload 134 dX11_asks_132 rfl rfl ?_
      obtain ⟨g14, h⟩ := rx_gd_o h
      refine ex_iald _ 135 dX11_asks_134 dk_120 g14 rfl rfl ?_
      obtain ⟨x16, S15, g17, h⟩ := rx_bd_o h
      refine ev_cVi2 138 dX11_asks_135 (em_X11_termOf g17) mm_X11_termOf mv_X11_termOf lk_11_327 dk_94 (by decide) rfl (Nat.le_of_ble_eq_true rfl) (Nat.le_of_ble_eq_true rfl) rfl ?_
      refine ev_istore (ls' := [some (.ref 94), none, none, none, some (.int x11), some (.int x16), none]) 140 dX11_asks_138 (Nat.le_of_ble_eq_true rfl) rfl rfl ?_
      refine ev_aload_n (i := 0) 141 dX11_asks_140 rfl rfl rfl ?_
      refine ev_get (v := .int (S15.1 94 48)) 144 dX11_asks_141 dk_94 fl_11_312 (by decide) rfl rfl rfl ?_
      refine ev_if_eq 151 147 dX11_asks_144 rfl rfl (fun c18 => ?_) (fun c18 => ?_)
      · replace h := rx_if_t c18 h
        refine ev_iload 153 dX11_asks_151 rfl rfl ?_
        exact ev_ireturn dX11_asks_153 rfl (rx_ret_i h)
      · replace h := rx_if_f c18 h
        refine ev_iconst (v := 0) 148 dX11_asks_147 (by decide) rfl ?_
        refine ev_goto 153 dX11_asks_148 rfl ?_
        exact ev_ireturn dX11_asks_153 rfl (rx_ret_i h)
    exact (em_X11_asks_L40 hJ120_1 _ _ _ _ h).fewer (rx_le_s (rx_le_n (rx_le_n (rx_le_s (rx_le_s (rx_le_n (rx_le_n rx_le_0)))))))
  · replace h := rx_if_t c7 h
    refine ev_iload_n (i := 2) 26 dX11_asks_25 rfl rfl rfl ?_
    exact ev_ireturn dX11_asks_26 rfl (rx_ret_i h)

def f_X11_wordsIn_L4 (N : Nat) : Nat → Int32 → Int32 → Int32 → rx_S → Option (Int32 × rx_S)
  | 0, _, _, _, _ => none
  | n + 1, x2, x3, x4, S5 => if (5 : Int32) < x4 then (some ((-1), S5)) else (rx_let (fun (x7 : Int32) (x8 : Int32) (x9 : Int32) (S10 : rx_S) => rx_let (x8 * 8) (fun x11 => rx_let (x9 + 1) (fun x12 => f_X11_wordsIn_L4 N n x7 x11 x12 S10))) (fun J23_1 => if x2 < x3 then (J23_1 x2 x3 x4 S5) else (if ((2 : Int32) * x3) ≤ x2 then (J23_1 x2 x3 x4 S5) else (some (x4, S5)))))
def f_X11_wordsIn (N : Nat) (x0 : Int32) (S0 : rx_S) : Option (Int32 × rx_S) := f_X11_wordsIn_L4 N N x0 1 0 S0
set_option maxHeartbeats 4000000 in
set_option maxRecDepth 20000 in
theorem em_X11_wordsIn_L4 {G : Nat × Nat} {d N : Nat} {zr : Int32} {zS : rx_S} : ∀ (n : Nat) (x2 : Int32) (x3 : Int32) (x4 : Int32) (S5 : rx_S), f_X11_wordsIn_L4 N n x2 x3 x4 S5 = some (zr, zS) → EV G d mX11_wordsIn 4 [some (.int x2), some (.int x3), some (.int x4)] [] S5 (rx_pi zr zS) := by
  intro n
  induction n with
  | zero => intro x2 x3 x4 S5 h; cases h
  | succ n ih =>
    intro x2 x3 x4 S5 h
    rw [f_X11_wordsIn_L4] at h
    refine ev_iload_n (i := 2) 5 dX11_wordsIn_4 rfl rfl rfl ?_
    refine ev_iconst (v := 5) 6 dX11_wordsIn_5 (by decide) rfl ?_
    refine ev_icmp_gt 34 9 dX11_wordsIn_6 rfl rfl (fun c6 => ?_) (fun c6 => ?_)
    · replace h := rx_if_t c6 h
      refine ev_iconst (v := (-1)) 35 dX11_wordsIn_34 (by decide) rfl ?_
      exact ev_ireturn dX11_wordsIn_35 rfl (rx_ret_i h)
    · replace h := rx_if_f c6 h
      refine ev_iload_n (i := 0) 10 dX11_wordsIn_9 rfl rfl rfl ?_
      refine ev_iload_n (i := 1) 11 dX11_wordsIn_10 rfl rfl rfl ?_
      obtain ⟨J23_1, eJ23_1, h⟩ := rx_let_o h
      have hJ23_1 : ∀ (x7 : Int32) (x8 : Int32) (x9 : Int32) (S10 : rx_S), J23_1 x7 x8 x9 S10 = some (zr, zS) → EV G d mX11_wordsIn 23 [some (.int x7), some (.int x8), some (.int x9)] [] S10 (rx_pi zr zS) := by
        intro x7 x8 x9 S10 h
        subst eJ23_1
        refine ev_iload_n (i := 1) 24 dX11_wordsIn_23 rfl rfl rfl ?_
        refine ev_bipush (v := 8) 26 dX11_wordsIn_24 (by decide) rfl ?_
        refine ev_imul 27 dX11_wordsIn_26 rfl ?_
        obtain ⟨x11, ex11, h⟩ := rx_let_o h
        refine ev_nm ex11 ?_
        refine ev_istore_n (ls' := [some (.int x7), some (.int x11), some (.int x9)]) 28 dX11_wordsIn_27 rfl (Nat.le_of_ble_eq_true rfl) rfl rfl ?_
        obtain ⟨x12, ex12, h⟩ := rx_let_o h
        refine ev_iinc (v := x12) (ls' := [some (.int x7), some (.int x11), some (.int x12)]) 31 dX11_wordsIn_28 rfl (by rw [ex12]; rfl) (Nat.le_of_ble_eq_true rfl) rfl rfl ?_
        refine ev_goto 4 dX11_wordsIn_31 rfl ?_
        exact (ih _ _ _ _ h).fewer (rx_le_s (rx_le_s (rx_le_s rx_le_0)))
      refine ev_icmp_lt 23 14 dX11_wordsIn_11 rfl rfl (fun c13 => ?_) (fun c13 => ?_)
      · replace h := rx_if_t c13 h
        exact (hJ23_1 _ _ _ _ h).fewer (rx_le_s (rx_le_s (rx_le_s rx_le_0)))
      · replace h := rx_if_f c13 h
        refine ev_iload_n (i := 0) 15 dX11_wordsIn_14 rfl rfl rfl ?_
        refine ev_iconst (v := 2) 16 dX11_wordsIn_15 (by decide) rfl ?_
        refine ev_iload_n (i := 1) 17 dX11_wordsIn_16 rfl rfl rfl ?_
        refine ev_imul 18 dX11_wordsIn_17 rfl ?_
        refine ev_icmp_ge 23 21 dX11_wordsIn_18 rfl rfl (fun c14 => ?_) (fun c14 => ?_)
        · replace h := rx_if_t c14 h
          exact (hJ23_1 _ _ _ _ h).fewer (rx_le_s (rx_le_s (rx_le_s rx_le_0)))
        · replace h := rx_if_f c14 h
          refine ev_iload_n (i := 2) 22 dX11_wordsIn_21 rfl rfl rfl ?_
          exact ev_ireturn dX11_wordsIn_22 rfl (rx_ret_i h)

set_option maxHeartbeats 4000000 in
set_option maxRecDepth 20000 in
theorem em_X11_wordsIn {G : Nat × Nat} {d N : Nat} {x0 : Int32} {S0 : rx_S} {zr : Int32} {zS : rx_S} (h : f_X11_wordsIn N x0 S0 = some (zr, zS)) : EM G d mX11_wordsIn [.int x0] S0 (rx_pi zr zS) := by
  unfold f_X11_wordsIn at h
  show EV G d mX11_wordsIn 0 [some (.int x0), none, none] [] S0 (rx_pi zr zS)
  refine ev_iconst (v := 1) 1 dX11_wordsIn_0 (by decide) rfl ?_
  refine ev_istore_n (ls' := [some (.int x0), some (.int 1), none]) 2 dX11_wordsIn_1 rfl (Nat.le_of_ble_eq_true rfl) rfl rfl ?_
  refine ev_iconst (v := 0) 3 dX11_wordsIn_2 (by decide) rfl ?_
  refine ev_istore_n (ls' := [some (.int x0), some (.int 1), some (.int 0)]) 4 dX11_wordsIn_3 rfl (Nat.le_of_ble_eq_true rfl) rfl rfl ?_
  exact (em_X11_wordsIn_L4 _ _ _ _ _ h).fewer (rx_le_s (rx_le_s (rx_le_s rx_le_0)))

def f_X11_eights_L4 (N : Nat) : Nat → Int32 → Int32 → Int32 → rx_S → Option (Int32 × rx_S)
  | 0, _, _, _, _ => none
  | n + 1, x2, x3, x4, S5 => if x2 ≤ x4 then (some (x3, S5)) else (rx_let (x3 * 8) (fun x7 => rx_let (x4 + 1) (fun x8 => f_X11_eights_L4 N n x2 x7 x8 S5)))
def f_X11_eights (N : Nat) (x0 : Int32) (S0 : rx_S) : Option (Int32 × rx_S) := f_X11_eights_L4 N N x0 1 0 S0
set_option maxHeartbeats 4000000 in
set_option maxRecDepth 20000 in
theorem em_X11_eights_L4 {G : Nat × Nat} {d N : Nat} {zr : Int32} {zS : rx_S} : ∀ (n : Nat) (x2 : Int32) (x3 : Int32) (x4 : Int32) (S5 : rx_S), f_X11_eights_L4 N n x2 x3 x4 S5 = some (zr, zS) → EV G d mX11_eights 4 [some (.int x2), some (.int x3), some (.int x4)] [] S5 (rx_pi zr zS) := by
  intro n
  induction n with
  | zero => intro x2 x3 x4 S5 h; cases h
  | succ n ih =>
    intro x2 x3 x4 S5 h
    rw [f_X11_eights_L4] at h
    refine ev_iload_n (i := 2) 5 dX11_eights_4 rfl rfl rfl ?_
    refine ev_iload_n (i := 0) 6 dX11_eights_5 rfl rfl rfl ?_
    refine ev_icmp_ge 20 9 dX11_eights_6 rfl rfl (fun c6 => ?_) (fun c6 => ?_)
    · replace h := rx_if_t c6 h
      refine ev_iload_n (i := 1) 21 dX11_eights_20 rfl rfl rfl ?_
      exact ev_ireturn dX11_eights_21 rfl (rx_ret_i h)
    · replace h := rx_if_f c6 h
      refine ev_iload_n (i := 1) 10 dX11_eights_9 rfl rfl rfl ?_
      refine ev_bipush (v := 8) 12 dX11_eights_10 (by decide) rfl ?_
      refine ev_imul 13 dX11_eights_12 rfl ?_
      obtain ⟨x7, ex7, h⟩ := rx_let_o h
      refine ev_nm ex7 ?_
      refine ev_istore_n (ls' := [some (.int x2), some (.int x7), some (.int x4)]) 14 dX11_eights_13 rfl (Nat.le_of_ble_eq_true rfl) rfl rfl ?_
      obtain ⟨x8, ex8, h⟩ := rx_let_o h
      refine ev_iinc (v := x8) (ls' := [some (.int x2), some (.int x7), some (.int x8)]) 17 dX11_eights_14 rfl (by rw [ex8]; rfl) (Nat.le_of_ble_eq_true rfl) rfl rfl ?_
      refine ev_goto 4 dX11_eights_17 rfl ?_
      exact (ih _ _ _ _ h).fewer (rx_le_s (rx_le_s (rx_le_s rx_le_0)))

set_option maxHeartbeats 4000000 in
set_option maxRecDepth 20000 in
theorem em_X11_eights {G : Nat × Nat} {d N : Nat} {x0 : Int32} {S0 : rx_S} {zr : Int32} {zS : rx_S} (h : f_X11_eights N x0 S0 = some (zr, zS)) : EM G d mX11_eights [.int x0] S0 (rx_pi zr zS) := by
  unfold f_X11_eights at h
  show EV G d mX11_eights 0 [some (.int x0), none, none] [] S0 (rx_pi zr zS)
  refine ev_iconst (v := 1) 1 dX11_eights_0 (by decide) rfl ?_
  refine ev_istore_n (ls' := [some (.int x0), some (.int 1), none]) 2 dX11_eights_1 rfl (Nat.le_of_ble_eq_true rfl) rfl rfl ?_
  refine ev_iconst (v := 0) 3 dX11_eights_2 (by decide) rfl ?_
  refine ev_istore_n (ls' := [some (.int x0), some (.int 1), some (.int 0)]) 4 dX11_eights_3 rfl (Nat.le_of_ble_eq_true rfl) rfl rfl ?_
  exact (em_X11_eights_L4 _ _ _ _ _ h).fewer (rx_le_s (rx_le_s (rx_le_s rx_le_0)))

def f_X11_wordIn (N : Nat) (x0 : Int32) (x1 : Int32) (x2 : Int32) (S0 : rx_S) : Option (Int32 × rx_S) := rx_bd (f_X11_eights N ((x1 - 1) - x2) S0) (fun x5 S4 => rx_nz x5 (some ((rx_rem (x0 / x5) 8), S4)))
set_option maxHeartbeats 4000000 in
set_option maxRecDepth 20000 in
theorem em_X11_wordIn {G : Nat × Nat} {d N : Nat} {x0 : Int32} {x1 : Int32} {x2 : Int32} {S0 : rx_S} {zr : Int32} {zS : rx_S} (h : f_X11_wordIn N x0 x1 x2 S0 = some (zr, zS)) : EM G (d + 1) mX11_wordIn [.int x0, .int x1, .int x2] S0 (rx_pi zr zS) := by
  unfold f_X11_wordIn at h
  show EV G (d + 1) mX11_wordIn 0 [some (.int x0), some (.int x1), some (.int x2)] [] S0 (rx_pi zr zS)
  refine ev_iload_n (i := 0) 1 dX11_wordIn_0 rfl rfl rfl ?_
  refine ev_iload_n (i := 1) 2 dX11_wordIn_1 rfl rfl rfl ?_
  refine ev_iconst (v := 1) 3 dX11_wordIn_2 (by decide) rfl ?_
  refine ev_isub 4 dX11_wordIn_3 rfl ?_
  refine ev_iload_n (i := 2) 5 dX11_wordIn_4 rfl rfl rfl ?_
  refine ev_isub 6 dX11_wordIn_5 rfl ?_
  obtain ⟨x5, S4, g6, h⟩ := rx_bd_o h
  refine ev_cSi1 9 dX11_wordIn_6 (em_X11_eights g6) mm_X11_eights ms_X11_eights lk_11_330 (Nat.le_of_ble_eq_true rfl) (Nat.le_of_ble_eq_true rfl) rfl ?_
  obtain ⟨g7, h⟩ := rx_nz_o h
  refine ev_idiv 10 dX11_wordIn_9 g7 rfl ?_
  refine ev_bipush (v := 8) 12 dX11_wordIn_10 (by decide) rfl ?_
  refine ev_rem 13 dX11_wordIn_12 (by decide) rfl ?_
  exact ev_ireturn dX11_wordIn_13 rfl (rx_ret_i h)

