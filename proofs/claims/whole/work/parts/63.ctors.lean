def rx_S0 : rx_S := (fun _ _ => 0, fun _ _ => 0)
theorem rx_vin_0 {x : Int32} {n : Nat} (h : vp_in x n) : ¬ x < 0 := fun q => h (Or.inl q)
theorem rx_vin_lt {x : Int32} {n : Nat} (hn : n < 2 ^ 31) (h : vp_in x n) : x < Int32.ofNat n := by
  obtain ⟨j, hj, e⟩ := vp_in_of h hn
  rw [e]
  exact nI_lt hj hn
set_option maxRecDepth 20000 in
theorem w_obj : Cond.instanceMethod Lib.objectInit ∈ rx_T ∧ Cond.code Lib.objectInit ⟨#[0xb1]⟩ 1 none ∈ rx_T := ⟨(rx_c1 26 rfl rfl), (rx_c1 27 rfl rfl)⟩
theorem dkT_14 : rx_at (14, 5) 14 (9, 0, [some 15, some 16, some 17, some 18, none]) := ⟨⟨by decide, by decide⟩, rfl⟩
theorem dkT_15 : rx_at (14, 5) 15 (14, 24, []) := ⟨⟨by decide, by decide⟩, rfl⟩
theorem dkT_16 : rx_at (14, 5) 16 (13, 401, []) := ⟨⟨by decide, by decide⟩, rfl⟩
theorem dkT_17 : rx_at (14, 5) 17 (13, 401, []) := ⟨⟨by decide, by decide⟩, rfl⟩
theorem dkT_18 : rx_at (14, 5) 18 (14, 401, []) := ⟨⟨by decide, by decide⟩, rfl⟩
abbrev zc1 : rx_S := rx_ui rx_S0 0 2 (-1)
abbrev zm1 : rx_S := rx_ui rx_S0 94 17 (-1)
theorem zc1_z : ∀ k, 0 < k → zc1.1 k = (fun _ => 0) ∧ zc1.2 k = (fun _ => 0) := fun k hk => ⟨(rx_ur_o k (by omega)).1, rfl⟩
def f_X9_init_39_L46 (N : Nat) : Nat → Int64 → Int32 → Int32 → rx_S → Option (Unit × rx_S)
  | 0, _, _, _, _ => none
  | n + 1, x1, x2, x3, S4 => if (135 : Int32) ≤ x3 then (some ((), S4)) else (rx_gd x3 135 (rx_let (rx_ch 0 (Int32.toNatClampNeg x3)) (fun x7 => if x7 = 32 then (if (24 : Int32) ≤ x2 then (rx_let (x3 + 1) (fun x10 => f_X9_init_39_L46 N n x1 x2 x10 S4)) else (rx_gd x2 24 (rx_let (rx_uj S4 15 (Int32.toNatClampNeg x2) x1) (fun S12 => rx_let (x2 + 1) (fun x13 => rx_let (x3 + 1) (fun x14 => f_X9_init_39_L46 N n (0 : Int64) x13 x14 S12)))))) else (rx_bd (f_X9_withLetter x1 x7 S4) (fun x16 S15 => rx_let (x3 + 1) (fun x18 => f_X9_init_39_L46 N n x16 x2 x18 S15))))))
def f_X9_init_39 (N : Nat) (S0 : rx_S) : Option (Unit × rx_S) := f_X9_init_39_L46 N N (0 : Int64) 0 0 S0
set_option maxHeartbeats 4000000 in
set_option maxRecDepth 20000 in
theorem em_X9_init_39_L46 {d N : Nat} {zr : Unit} {zS : rx_S} : ∀ (n : Nat) (x1 : Int64) (x2 : Int32) (x3 : Int32) (S4 : rx_S), f_X9_init_39_L46 N n x1 x2 x3 S4 = some (zr, zS) → EV (14, 5) (d + 4) mX9_init 46 [some (.ref 14), some (.long x1), none, some (.int x2), some (.int x3), none] [] S4 (rx_pv zS) := by
  intro n
  induction n with
  | zero => intro x1 x2 x3 S4 h; cases h
  | succ n ih =>
    intro x1 x2 x3 S4 h
    rw [f_X9_init_39_L46] at h
    refine ev_iload 48 dX9_init_46 rfl rfl ?_
    refine ev_ldcs0 50 dX9_init_48 rfl rfl ?_
    refine ev_cT0 0 53 (by decide) dX9_init_50 (em_length (n := 135) 0 (by decide) (by decide)) mm_J0_length_8abf5 mv_J0_length_8abf5 lk_9_27 rfl (Nat.le_of_ble_eq_true rfl) (Nat.le_of_ble_eq_true rfl) rfl ?_
    refine ev_icmp_ge 106 56 dX9_init_53 rfl rfl (fun c5 => ?_) (fun c5 => ?_)
    · replace h := rx_if_t c5 h
      exact ev_return dX9_init_106 rfl (rx_ret_v h)
    · replace h := rx_if_f c5 h
      refine ev_ldcs0 58 dX9_init_56 rfl rfl ?_
      refine ev_iload 60 dX9_init_58 rfl rfl ?_
      obtain ⟨g6, h⟩ := rx_gd_o h
      refine ev_cT1 0 63 (by decide) dX9_init_60 (em_charAt 0 (by decide) g6 (rx_vin_0 g6) (rx_vin_lt (by decide) g6)) mm_J0_charAt_5068e mv_J0_charAt_5068e lk_9_33 rfl (Nat.le_of_ble_eq_true rfl) (Nat.le_of_ble_eq_true rfl) rfl ?_
      obtain ⟨x7, ex7, h⟩ := rx_let_o h
      refine ev_nm ex7 ?_
      refine ev_istore (ls' := [some (.ref 14), some (.long x1), none, some (.int x2), some (.int x3), some (.int x7)]) 65 dX9_init_63 (Nat.le_of_ble_eq_true rfl) rfl rfl ?_
      refine ev_iload 67 dX9_init_65 rfl rfl ?_
      refine ev_bipush (v := 32) 69 dX9_init_67 (by decide) rfl ?_
      refine ev_icmp_eq 82 72 dX9_init_69 rfl rfl (fun c8 => ?_) (fun c8 => ?_)
      · replace h := rx_if_t c8 h
        refine ev_iload_n (i := 3) 83 dX9_init_82 rfl rfl rfl ?_
        refine ev_bipush (v := 24) 85 dX9_init_83 (by decide) rfl ?_
        refine ev_icmp_ge 100 88 dX9_init_85 rfl rfl (fun c9 => ?_) (fun c9 => ?_)
        · replace h := rx_if_t c9 h
          obtain ⟨x10, ex10, h⟩ := rx_let_o h
          refine ev_iinc (v := x10) (ls' := [some (.ref 14), some (.long x1), none, some (.int x2), some (.int x10), some (.int x7)]) 103 dX9_init_100 rfl (by rw [ex10]; rfl) (Nat.le_of_ble_eq_true rfl) rfl rfl ?_
          refine ev_goto 46 dX9_init_103 rfl ?_
          exact (ih _ _ _ _ h).fewer (rx_le_s (rx_le_s (rx_le_n (rx_le_s (rx_le_s (rx_le_n rx_le_0))))))
        · replace h := rx_if_f c9 h
          refine ev_aload_n (i := 0) 89 dX9_init_88 rfl rfl rfl ?_
          refine ev_get (v := .ref 15) 92 dX9_init_89 dkT_14 fl_9_9 (by decide) rfl rfl rfl ?_
          refine ev_iload_n (i := 3) 93 dX9_init_92 rfl rfl rfl ?_
          refine ev_lload_n (i := 1) 94 dX9_init_93 rfl rfl rfl ?_
          obtain ⟨g11, h⟩ := rx_gd_o h
          obtain ⟨S12, eS12, h⟩ := rx_let_o h
          refine ex_last _ 95 dX9_init_94 dkT_15 g11 rfl rfl eS12 ?_
          obtain ⟨x13, ex13, h⟩ := rx_let_o h
          refine ev_iinc (v := x13) (ls' := [some (.ref 14), some (.long x1), none, some (.int x13), some (.int x3), some (.int x7)]) 98 dX9_init_95 rfl (by rw [ex13]; rfl) (Nat.le_of_ble_eq_true rfl) rfl rfl ?_
          refine ev_lconst (v := 0) 99 dX9_init_98 (by decide) rfl ?_
          refine ev_lstore_n (ls' := [some (.ref 14), some (.long (0 : Int64)), none, some (.int x13), some (.int x3), some (.int x7)]) 100 dX9_init_99 rfl (Nat.le_of_ble_eq_true rfl) rfl rfl ?_
          obtain ⟨x14, ex14, h⟩ := rx_let_o h
          refine ev_iinc (v := x14) (ls' := [some (.ref 14), some (.long (0 : Int64)), none, some (.int x13), some (.int x14), some (.int x7)]) 103 dX9_init_100 rfl (by rw [ex14]; rfl) (Nat.le_of_ble_eq_true rfl) rfl rfl ?_
          refine ev_goto 46 dX9_init_103 rfl ?_
          exact (ih _ _ _ _ h).fewer (rx_le_s (rx_le_s (rx_le_n (rx_le_s (rx_le_s (rx_le_n rx_le_0))))))
      · replace h := rx_if_f c8 h
        refine ev_lload_n (i := 1) 73 dX9_init_72 rfl rfl rfl ?_
        refine ev_iload 75 dX9_init_73 rfl rfl ?_
        obtain ⟨x16, S15, g17, h⟩ := rx_bd_o h
        refine ev_cSl2 78 dX9_init_75 (em_X9_withLetter g17) mm_X9_withLetter ms_X9_withLetter lk_9_37 (Nat.le_of_ble_eq_true rfl) (Nat.le_of_ble_eq_true rfl) rfl ?_
        refine ev_lstore_n (ls' := [some (.ref 14), some (.long x16), none, some (.int x2), some (.int x3), some (.int x7)]) 79 dX9_init_78 rfl (Nat.le_of_ble_eq_true rfl) rfl rfl ?_
        refine ev_goto 100 dX9_init_79 rfl ?_
        obtain ⟨x18, ex18, h⟩ := rx_let_o h
        refine ev_iinc (v := x18) (ls' := [some (.ref 14), some (.long x16), none, some (.int x2), some (.int x18), some (.int x7)]) 103 dX9_init_100 rfl (by rw [ex18]; rfl) (Nat.le_of_ble_eq_true rfl) rfl rfl ?_
        refine ev_goto 46 dX9_init_103 rfl ?_
        exact (ih _ _ _ _ h).fewer (rx_le_s (rx_le_s (rx_le_n (rx_le_s (rx_le_s (rx_le_n rx_le_0))))))

set_option maxHeartbeats 4000000 in
set_option maxRecDepth 20000 in
theorem ev_X9_init_39 {d N : Nat} {S0 : rx_S} {zr : Unit} {zS : rx_S} (h : f_X9_init_39 N S0 = some (zr, zS)) : EV (14, 5) (d + 4) mX9_init 39 [some (.ref 14), none, none, none, none, none] [] S0 (rx_pv zS) := by
  unfold f_X9_init_39 at h
  refine ev_lconst (v := 0) 40 dX9_init_39 (by decide) rfl ?_
  refine ev_lstore_n (ls' := [some (.ref 14), some (.long (0 : Int64)), none, none, none, none]) 41 dX9_init_40 rfl (Nat.le_of_ble_eq_true rfl) rfl rfl ?_
  refine ev_iconst (v := 0) 42 dX9_init_41 (by decide) rfl ?_
  refine ev_istore_n (ls' := [some (.ref 14), some (.long (0 : Int64)), none, some (.int 0), none, none]) 43 dX9_init_42 rfl (Nat.le_of_ble_eq_true rfl) rfl rfl ?_
  refine ev_iconst (v := 0) 44 dX9_init_43 (by decide) rfl ?_
  refine ev_istore (ls' := [some (.ref 14), some (.long (0 : Int64)), none, some (.int 0), some (.int 0), none]) 46 dX9_init_44 (Nat.le_of_ble_eq_true rfl) rfl rfl ?_
  exact (em_X9_init_39_L46 _ _ _ _ _ h).fewer (rx_le_s (rx_le_s (rx_le_n (rx_le_s (rx_le_s (rx_le_n rx_le_0))))))

def zc2 : rx_S := ((f_X9_init_39 200 zc1).getD ((), zc1)).2
theorem zc2_ok : f_X9_init_39 200 zc1 = some ((), zc2) := by
  have h : (f_X9_init_39 200 zc1).isSome = true := by decide +kernel
  unfold zc2
  cases hh : f_X9_init_39 200 zc1 with
  | none => rw [hh] at h; cases h
  | some p => rfl
theorem kw_keep {N : Nat} : ∀ (n : Nat) (x1 : Int64) (x2 x3 : Int32) (S z : rx_S) (u : Unit), f_X9_init_39_L46 N n x1 x2 x3 S = some (u, z) → z.1 = S.1 ∧ ∀ k, k ≠ 15 → z.2 k = S.2 k := by
  intro n
  induction n with
  | zero => intro x1 x2 x3 S z u h; cases h
  | succ n ih =>
    intro x1 x2 x3 S z u h
    rw [f_X9_init_39_L46] at h
    split at h
    · cases h; exact ⟨rfl, fun _ _ => rfl⟩
    · obtain ⟨-, h⟩ := rx_gd_o h
      obtain ⟨x7, -, h⟩ := rx_let_o h
      split at h
      · split at h
        · obtain ⟨x10, -, h⟩ := rx_let_o h
          exact ih _ _ _ _ _ _ h
        · obtain ⟨-, h⟩ := rx_gd_o h
          obtain ⟨S12, e12, h⟩ := rx_let_o h
          obtain ⟨x13, -, h⟩ := rx_let_o h
          obtain ⟨x14, -, h⟩ := rx_let_o h
          obtain ⟨a1, a2⟩ := ih _ _ _ _ _ _ h
          refine ⟨by rw [a1, e12]; rfl, fun k hk => ?_⟩
          rw [a2 k hk, e12]
          exact (rx_ul_o k hk).2
      · obtain ⟨x16, S15, g, h⟩ := rx_bd_o h
        obtain ⟨x18, -, h⟩ := rx_let_o h
        have e : S15 = S := by
          unfold f_X9_withLetter at g
          cases g
          rfl
        rw [e] at h
        exact ih _ _ _ _ _ _ h
theorem zc2_keep : zc2.1 = zc1.1 ∧ ∀ k, k ≠ 15 → zc2.2 k = zc1.2 k := kw_keep 200 0 0 0 zc1 zc2 () zc2_ok
theorem zc2_z : ∀ k, 15 < k → zc2.1 k = (fun _ => 0) ∧ zc2.2 k = (fun _ => 0) := fun k hk => ⟨by rw [zc2_keep.1]; exact (zc1_z k (by omega)).1, by rw [zc2_keep.2 k (by omega)]; exact (zc1_z k (by omega)).2⟩
def f_X10_init_131 (N : Nat) (S0 : rx_S) : Option (Unit × rx_S) := rx_bd (f_X8_clear 2 N S0) (fun x2 S1 => rx_bd (f_X8_begin N S1) (fun x5 S4 => some ((), S4)))
set_option maxHeartbeats 4000000 in
set_option maxRecDepth 20000 in
theorem ev_X10_init_131 {d N : Nat} {S0 : rx_S} {zr : Unit} {zS : rx_S} (h : f_X10_init_131 N S0 = some (zr, zS)) : EV gC (d + 3) mX10_init 131 [some (.ref 0)] [] S0 (rx_pv zS) := by
  unfold f_X10_init_131 at h
  refine ev_aload_n (i := 0) 132 dX10_init_131 rfl rfl rfl ?_
  refine ev_get (v := .ref 2) 135 dX10_init_132 dk_0 fl_10_20 (by decide) rfl rfl rfl ?_
  obtain ⟨x2, S1, g3, h⟩ := rx_bd_o h
  refine ev_cVv0 138 dX10_init_135 (em_X8_clear_2 g3) mm_X8_clear mv_X8_clear lk_10_74 dk_2 (by decide) rfl (Nat.le_of_ble_eq_true rfl) (Nat.le_of_ble_eq_true rfl) rfl ?_
  refine ev_aload_n (i := 0) 139 dX10_init_138 rfl rfl rfl ?_
  refine ev_get (v := .ref 2) 142 dX10_init_139 dk_0 fl_10_20 (by decide) rfl rfl rfl ?_
  refine ev_aload_n (i := 0) 143 dX10_init_142 rfl rfl rfl ?_
  refine ev_get (v := .ref 32) 146 dX10_init_143 dk_0 fl_10_31 (by decide) rfl rfl rfl ?_
  obtain ⟨x5, S4, g6, h⟩ := rx_bd_o h
  refine ev_cVv1 149 dX10_init_146 (em_X8_begin g6) mm_X8_begin mv_X8_begin lk_10_77 dk_2 (by decide) rfl (Nat.le_of_ble_eq_true rfl) (Nat.le_of_ble_eq_true rfl) rfl ?_
  exact ev_return dX10_init_149 rfl (rx_ret_v h)

def zC : rx_S := ((f_X10_init_131 1000 zc2).getD ((), zc2)).2
theorem zC_ok : f_X10_init_131 1000 zc2 = some ((), zC) := by
  have h : (f_X10_init_131 1000 zc2).isSome = true := by decide +kernel
  unfold zC
  cases hh : f_X10_init_131 1000 zc2 with
  | none => rw [hh] at h; cases h
  | some p => rfl
def f_X11_init_370 (N : Nat) (S0 : rx_S) : Option (Unit × rx_S) := rx_bd (f_X11_plain N 0 S0) (fun x2 S1 => rx_bd (f_X11_word 115 112 111 117 115 101 0 S1) (fun x5 S4 => rx_let (rx_uj S4 101 0 x5) (fun S7 => rx_bd (f_X11_word 99 111 117 112 108 101 0 S7) (fun x9 S8 => rx_let (rx_uj S8 101 1 x9) (fun S11 => rx_bd (f_X11_word 116 104 105 114 100 0 0 S11) (fun x13 S12 => rx_let (rx_uj S12 101 2 x13) (fun S15 => rx_bd (f_X11_word 108 101 110 103 116 104 0 S15) (fun x17 S16 => rx_let (rx_uj S16 101 3 x17) (fun S19 => rx_bd (f_X11_word 115 97 121 115 0 0 0 S19) (fun x21 S20 => rx_let (rx_uj S20 101 4 x21) (fun S23 => rx_bd (f_X11_word 98 101 110 100 115 0 0 S23) (fun x25 S24 => rx_let (rx_uj S24 101 5 x25) (fun S27 => rx_bd (f_X11_word 100 114 111 112 115 0 0 S27) (fun x29 S28 => rx_let (rx_uj S28 101 6 x29) (fun S31 => rx_bd (f_X11_word 116 97 107 101 115 0 0 S31) (fun x33 S32 => rx_let (rx_uj S32 101 7 x33) (fun S35 => rx_bd (f_X11_word 108 111 118 101 115 0 0 S35) (fun x37 S36 => rx_let (rx_uj S36 101 8 x37) (fun S39 => rx_bd (f_X11_word 100 97 114 101 115 0 0 S39) (fun x41 S40 => rx_let (rx_uj S40 101 9 x41) (fun S43 => rx_bd (f_X11_word 102 105 110 101 0 0 0 S43) (fun x45 S44 => rx_let (rx_uj S44 101 10 x45) (fun S47 => rx_bd (f_X11_word 115 101 101 100 0 0 0 S47) (fun x49 S48 => rx_let (rx_uj S48 101 11 x49) (fun S51 => rx_bd (f_X11_word 105 102 0 0 0 0 0 S51) (fun x53 S52 => rx_let (rx_uj S52 101 12 x53) (fun S55 => rx_bd (f_X11_word 116 104 101 110 0 0 0 S55) (fun x57 S56 => rx_let (rx_uj S56 101 13 x57) (fun S59 => rx_bd (f_X11_word 101 108 115 101 0 0 0 S59) (fun x61 S60 => rx_let (rx_uj S60 101 14 x61) (fun S63 => rx_bd (f_X11_word 119 111 114 100 0 0 0 S63) (fun x65 S64 => rx_let (rx_uj S64 101 15 x65) (fun S67 => rx_bd (f_X11_word 112 108 97 99 101 0 0 S67) (fun x69 S68 => rx_let (rx_uj S68 101 16 x69) (fun S71 => rx_bd (f_X11_word 109 111 111 100 0 0 0 S71) (fun x73 S72 => rx_let (rx_uj S72 101 17 x73) (fun S75 => rx_bd (f_X11_word 116 105 114 101 100 0 0 S75) (fun x77 S76 => rx_let (rx_uj S76 101 18 x77) (fun S79 => rx_bd (f_X11_word 108 111 118 101 0 0 0 S79) (fun x81 S80 => rx_let (rx_uj S80 101 19 x81) (fun S83 => rx_bd (f_X11_word 119 104 105 99 104 0 0 S83) (fun x85 S84 => rx_let (rx_uj S84 101 20 x85) (fun S87 => rx_bd (f_X11_word 119 101 101 107 0 0 0 S87) (fun x89 S88 => rx_let (rx_uj S88 101 21 x89) (fun S91 => rx_bd (f_X11_word 112 114 105 99 101 0 0 S91) (fun x93 S92 => rx_let (rx_uj S92 101 22 x93) (fun S95 => rx_bd (f_X11_word 102 105 110 101 115 0 0 S95) (fun x97 S96 => rx_let (rx_uj S96 101 23 x97) (fun S99 => rx_bd (f_X11_begins N S99) (fun x101 S100 => rx_bd (f_X11_keepsRow N S100) (fun x104 S103 => some ((), S103))))))))))))))))))))))))))))))))))))))))))))))))))))
set_option maxHeartbeats 4000000 in
set_option maxRecDepth 20000 in
theorem ev_X11_init_370 {d N : Nat} {S0 : rx_S} {zr : Unit} {zS : rx_S} (h : f_X11_init_370 N S0 = some (zr, zS)) : EV gM (d + 2) mX11_init 370 [some (.ref 94)] [] S0 (rx_pv zS) := by
  unfold f_X11_init_370 at h
  refine ev_aload_n (i := 0) 371 dX11_init_370 rfl rfl rfl ?_
  refine ev_iconst (v := 0) 372 dX11_init_371 (by decide) rfl ?_
  obtain ⟨x2, S1, g3, h⟩ := rx_bd_o h
  refine ev_cVv1 375 dX11_init_372 (em_X11_plain g3) mm_X11_plain mv_X11_plain lk_11_152 dk_94 (by decide) rfl (Nat.le_of_ble_eq_true rfl) (Nat.le_of_ble_eq_true rfl) rfl ?_
  refine ev_aload_n (i := 0) 376 dX11_init_375 rfl rfl rfl ?_
  refine ev_get (v := .ref 101) 379 dX11_init_376 dk_94 fl_11_34 (by decide) rfl rfl rfl ?_
  refine ev_iconst (v := 0) 380 dX11_init_379 (by decide) rfl ?_
  refine ev_bipush (v := 115) 382 dX11_init_380 (by decide) rfl ?_
  refine ev_bipush (v := 112) 384 dX11_init_382 (by decide) rfl ?_
  refine ev_bipush (v := 111) 386 dX11_init_384 (by decide) rfl ?_
  refine ev_bipush (v := 117) 388 dX11_init_386 (by decide) rfl ?_
  refine ev_bipush (v := 115) 390 dX11_init_388 (by decide) rfl ?_
  refine ev_bipush (v := 101) 392 dX11_init_390 (by decide) rfl ?_
  refine ev_iconst (v := 0) 393 dX11_init_392 (by decide) rfl ?_
  obtain ⟨x5, S4, g6, h⟩ := rx_bd_o h
  refine ev_cSl7 396 dX11_init_393 (em_X11_word g6) mm_X11_word ms_X11_word lk_11_156 (Nat.le_of_ble_eq_true rfl) (Nat.le_of_ble_eq_true rfl) rfl ?_
  obtain ⟨S7, eS7, h⟩ := rx_let_o h
  refine ex_last 0 397 dX11_init_396 dk_101 (rx_vin (by decide)) (by decide) rfl eS7 ?_
  refine ev_aload_n (i := 0) 398 dX11_init_397 rfl rfl rfl ?_
  refine ev_get (v := .ref 101) 401 dX11_init_398 dk_94 fl_11_34 (by decide) rfl rfl rfl ?_
  refine ev_iconst (v := 1) 402 dX11_init_401 (by decide) rfl ?_
  refine ev_bipush (v := 99) 404 dX11_init_402 (by decide) rfl ?_
  refine ev_bipush (v := 111) 406 dX11_init_404 (by decide) rfl ?_
  refine ev_bipush (v := 117) 408 dX11_init_406 (by decide) rfl ?_
  refine ev_bipush (v := 112) 410 dX11_init_408 (by decide) rfl ?_
  refine ev_bipush (v := 108) 412 dX11_init_410 (by decide) rfl ?_
  refine ev_bipush (v := 101) 414 dX11_init_412 (by decide) rfl ?_
  refine ev_iconst (v := 0) 415 dX11_init_414 (by decide) rfl ?_
  obtain ⟨x9, S8, g10, h⟩ := rx_bd_o h
  refine ev_cSl7 418 dX11_init_415 (em_X11_word g10) mm_X11_word ms_X11_word lk_11_156 (Nat.le_of_ble_eq_true rfl) (Nat.le_of_ble_eq_true rfl) rfl ?_
  obtain ⟨S11, eS11, h⟩ := rx_let_o h
  refine ex_last 1 419 dX11_init_418 dk_101 (rx_vin (by decide)) (by decide) rfl eS11 ?_
  refine ev_aload_n (i := 0) 420 dX11_init_419 rfl rfl rfl ?_
  refine ev_get (v := .ref 101) 423 dX11_init_420 dk_94 fl_11_34 (by decide) rfl rfl rfl ?_
  refine ev_iconst (v := 2) 424 dX11_init_423 (by decide) rfl ?_
  refine ev_bipush (v := 116) 426 dX11_init_424 (by decide) rfl ?_
  refine ev_bipush (v := 104) 428 dX11_init_426 (by decide) rfl ?_
  refine ev_bipush (v := 105) 430 dX11_init_428 (by decide) rfl ?_
  refine ev_bipush (v := 114) 432 dX11_init_430 (by decide) rfl ?_
  refine ev_bipush (v := 100) 434 dX11_init_432 (by decide) rfl ?_
  refine ev_iconst (v := 0) 435 dX11_init_434 (by decide) rfl ?_
  refine ev_iconst (v := 0) 436 dX11_init_435 (by decide) rfl ?_
  obtain ⟨x13, S12, g14, h⟩ := rx_bd_o h
  refine ev_cSl7 439 dX11_init_436 (em_X11_word g14) mm_X11_word ms_X11_word lk_11_156 (Nat.le_of_ble_eq_true rfl) (Nat.le_of_ble_eq_true rfl) rfl ?_
  obtain ⟨S15, eS15, h⟩ := rx_let_o h
  refine ex_last 2 440 dX11_init_439 dk_101 (rx_vin (by decide)) (by decide) rfl eS15 ?_
  refine ev_aload_n (i := 0) 441 dX11_init_440 rfl rfl rfl ?_
  refine ev_get (v := .ref 101) 444 dX11_init_441 dk_94 fl_11_34 (by decide) rfl rfl rfl ?_
  refine ev_iconst (v := 3) 445 dX11_init_444 (by decide) rfl ?_
  refine ev_bipush (v := 108) 447 dX11_init_445 (by decide) rfl ?_
  refine ev_bipush (v := 101) 449 dX11_init_447 (by decide) rfl ?_
  refine ev_bipush (v := 110) 451 dX11_init_449 (by decide) rfl ?_
  refine ev_bipush (v := 103) 453 dX11_init_451 (by decide) rfl ?_
  refine ev_bipush (v := 116) 455 dX11_init_453 (by decide) rfl ?_
  refine ev_bipush (v := 104) 457 dX11_init_455 (by decide) rfl ?_
  refine ev_iconst (v := 0) 458 dX11_init_457 (by decide) rfl ?_
  obtain ⟨x17, S16, g18, h⟩ := rx_bd_o h
  refine ev_cSl7 461 dX11_init_458 (em_X11_word g18) mm_X11_word ms_X11_word lk_11_156 (Nat.le_of_ble_eq_true rfl) (Nat.le_of_ble_eq_true rfl) rfl ?_
  obtain ⟨S19, eS19, h⟩ := rx_let_o h
  refine ex_last 3 462 dX11_init_461 dk_101 (rx_vin (by decide)) (by decide) rfl eS19 ?_
  refine ev_aload_n (i := 0) 463 dX11_init_462 rfl rfl rfl ?_
  refine ev_get (v := .ref 101) 466 dX11_init_463 dk_94 fl_11_34 (by decide) rfl rfl rfl ?_
  refine ev_iconst (v := 4) 467 dX11_init_466 (by decide) rfl ?_
  refine ev_bipush (v := 115) 469 dX11_init_467 (by decide) rfl ?_
  refine ev_bipush (v := 97) 471 dX11_init_469 (by decide) rfl ?_
  refine ev_bipush (v := 121) 473 dX11_init_471 (by decide) rfl ?_
  refine ev_bipush (v := 115) 475 dX11_init_473 (by decide) rfl ?_
  refine ev_iconst (v := 0) 476 dX11_init_475 (by decide) rfl ?_
  refine ev_iconst (v := 0) 477 dX11_init_476 (by decide) rfl ?_
  refine ev_iconst (v := 0) 478 dX11_init_477 (by decide) rfl ?_
  obtain ⟨x21, S20, g22, h⟩ := rx_bd_o h
  refine ev_cSl7 481 dX11_init_478 (em_X11_word g22) mm_X11_word ms_X11_word lk_11_156 (Nat.le_of_ble_eq_true rfl) (Nat.le_of_ble_eq_true rfl) rfl ?_
  obtain ⟨S23, eS23, h⟩ := rx_let_o h
  refine ex_last 4 482 dX11_init_481 dk_101 (rx_vin (by decide)) (by decide) rfl eS23 ?_
  refine ev_aload_n (i := 0) 483 dX11_init_482 rfl rfl rfl ?_
  refine ev_get (v := .ref 101) 486 dX11_init_483 dk_94 fl_11_34 (by decide) rfl rfl rfl ?_
  refine ev_iconst (v := 5) 487 dX11_init_486 (by decide) rfl ?_
  refine ev_bipush (v := 98) 489 dX11_init_487 (by decide) rfl ?_
  refine ev_bipush (v := 101) 491 dX11_init_489 (by decide) rfl ?_
  refine ev_bipush (v := 110) 493 dX11_init_491 (by decide) rfl ?_
  refine ev_bipush (v := 100) 495 dX11_init_493 (by decide) rfl ?_
  refine ev_bipush (v := 115) 497 dX11_init_495 (by decide) rfl ?_
  refine ev_iconst (v := 0) 498 dX11_init_497 (by decide) rfl ?_
  refine ev_iconst (v := 0) 499 dX11_init_498 (by decide) rfl ?_
  obtain ⟨x25, S24, g26, h⟩ := rx_bd_o h
  refine ev_cSl7 502 dX11_init_499 (em_X11_word g26) mm_X11_word ms_X11_word lk_11_156 (Nat.le_of_ble_eq_true rfl) (Nat.le_of_ble_eq_true rfl) rfl ?_
  obtain ⟨S27, eS27, h⟩ := rx_let_o h
  refine ex_last 5 503 dX11_init_502 dk_101 (rx_vin (by decide)) (by decide) rfl eS27 ?_
  refine ev_aload_n (i := 0) 504 dX11_init_503 rfl rfl rfl ?_
  refine ev_get (v := .ref 101) 507 dX11_init_504 dk_94 fl_11_34 (by decide) rfl rfl rfl ?_
  refine ev_bipush (v := 6) 509 dX11_init_507 (by decide) rfl ?_
  refine ev_bipush (v := 100) 511 dX11_init_509 (by decide) rfl ?_
  refine ev_bipush (v := 114) 513 dX11_init_511 (by decide) rfl ?_
  refine ev_bipush (v := 111) 515 dX11_init_513 (by decide) rfl ?_
  refine ev_bipush (v := 112) 517 dX11_init_515 (by decide) rfl ?_
  refine ev_bipush (v := 115) 519 dX11_init_517 (by decide) rfl ?_
  refine ev_iconst (v := 0) 520 dX11_init_519 (by decide) rfl ?_
  refine ev_iconst (v := 0) 521 dX11_init_520 (by decide) rfl ?_
  obtain ⟨x29, S28, g30, h⟩ := rx_bd_o h
  refine ev_cSl7 524 dX11_init_521 (em_X11_word g30) mm_X11_word ms_X11_word lk_11_156 (Nat.le_of_ble_eq_true rfl) (Nat.le_of_ble_eq_true rfl) rfl ?_
  obtain ⟨S31, eS31, h⟩ := rx_let_o h
  refine ex_last 6 525 dX11_init_524 dk_101 (rx_vin (by decide)) (by decide) rfl eS31 ?_
  refine ev_aload_n (i := 0) 526 dX11_init_525 rfl rfl rfl ?_
  refine ev_get (v := .ref 101) 529 dX11_init_526 dk_94 fl_11_34 (by decide) rfl rfl rfl ?_
  refine ev_bipush (v := 7) 531 dX11_init_529 (by decide) rfl ?_
  refine ev_bipush (v := 116) 533 dX11_init_531 (by decide) rfl ?_
  refine ev_bipush (v := 97) 535 dX11_init_533 (by decide) rfl ?_
  refine ev_bipush (v := 107) 537 dX11_init_535 (by decide) rfl ?_
  refine ev_bipush (v := 101) 539 dX11_init_537 (by decide) rfl ?_
  refine ev_bipush (v := 115) 541 dX11_init_539 (by decide) rfl ?_
  refine ev_iconst (v := 0) 542 dX11_init_541 (by decide) rfl ?_
  refine ev_iconst (v := 0) 543 dX11_init_542 (by decide) rfl ?_
  obtain ⟨x33, S32, g34, h⟩ := rx_bd_o h
  refine ev_cSl7 546 dX11_init_543 (em_X11_word g34) mm_X11_word ms_X11_word lk_11_156 (Nat.le_of_ble_eq_true rfl) (Nat.le_of_ble_eq_true rfl) rfl ?_
  obtain ⟨S35, eS35, h⟩ := rx_let_o h
  refine ex_last 7 547 dX11_init_546 dk_101 (rx_vin (by decide)) (by decide) rfl eS35 ?_
  refine ev_aload_n (i := 0) 548 dX11_init_547 rfl rfl rfl ?_
  refine ev_get (v := .ref 101) 551 dX11_init_548 dk_94 fl_11_34 (by decide) rfl rfl rfl ?_
  refine ev_bipush (v := 8) 553 dX11_init_551 (by decide) rfl ?_
  refine ev_bipush (v := 108) 555 dX11_init_553 (by decide) rfl ?_
  refine ev_bipush (v := 111) 557 dX11_init_555 (by decide) rfl ?_
  refine ev_bipush (v := 118) 559 dX11_init_557 (by decide) rfl ?_
  refine ev_bipush (v := 101) 561 dX11_init_559 (by decide) rfl ?_
  refine ev_bipush (v := 115) 563 dX11_init_561 (by decide) rfl ?_
  refine ev_iconst (v := 0) 564 dX11_init_563 (by decide) rfl ?_
  refine ev_iconst (v := 0) 565 dX11_init_564 (by decide) rfl ?_
  obtain ⟨x37, S36, g38, h⟩ := rx_bd_o h
  refine ev_cSl7 568 dX11_init_565 (em_X11_word g38) mm_X11_word ms_X11_word lk_11_156 (Nat.le_of_ble_eq_true rfl) (Nat.le_of_ble_eq_true rfl) rfl ?_
  obtain ⟨S39, eS39, h⟩ := rx_let_o h
  refine ex_last 8 569 dX11_init_568 dk_101 (rx_vin (by decide)) (by decide) rfl eS39 ?_
  refine ev_aload_n (i := 0) 570 dX11_init_569 rfl rfl rfl ?_
  refine ev_get (v := .ref 101) 573 dX11_init_570 dk_94 fl_11_34 (by decide) rfl rfl rfl ?_
  refine ev_bipush (v := 9) 575 dX11_init_573 (by decide) rfl ?_
  refine ev_bipush (v := 100) 577 dX11_init_575 (by decide) rfl ?_
  refine ev_bipush (v := 97) 579 dX11_init_577 (by decide) rfl ?_
  refine ev_bipush (v := 114) 581 dX11_init_579 (by decide) rfl ?_
  refine ev_bipush (v := 101) 583 dX11_init_581 (by decide) rfl ?_
  refine ev_bipush (v := 115) 585 dX11_init_583 (by decide) rfl ?_
  refine ev_iconst (v := 0) 586 dX11_init_585 (by decide) rfl ?_
  refine ev_iconst (v := 0) 587 dX11_init_586 (by decide) rfl ?_
  obtain ⟨x41, S40, g42, h⟩ := rx_bd_o h
  refine ev_cSl7 590 dX11_init_587 (em_X11_word g42) mm_X11_word ms_X11_word lk_11_156 (Nat.le_of_ble_eq_true rfl) (Nat.le_of_ble_eq_true rfl) rfl ?_
  obtain ⟨S43, eS43, h⟩ := rx_let_o h
  refine ex_last 9 591 dX11_init_590 dk_101 (rx_vin (by decide)) (by decide) rfl eS43 ?_
  refine ev_aload_n (i := 0) 592 dX11_init_591 rfl rfl rfl ?_
  refine ev_get (v := .ref 101) 595 dX11_init_592 dk_94 fl_11_34 (by decide) rfl rfl rfl ?_
  refine ev_bipush (v := 10) 597 dX11_init_595 (by decide) rfl ?_
  refine ev_bipush (v := 102) 599 dX11_init_597 (by decide) rfl ?_
  refine ev_bipush (v := 105) 601 dX11_init_599 (by decide) rfl ?_
  refine ev_bipush (v := 110) 603 dX11_init_601 (by decide) rfl ?_
  refine ev_bipush (v := 101) 605 dX11_init_603 (by decide) rfl ?_
  refine ev_iconst (v := 0) 606 dX11_init_605 (by decide) rfl ?_
  refine ev_iconst (v := 0) 607 dX11_init_606 (by decide) rfl ?_
  refine ev_iconst (v := 0) 608 dX11_init_607 (by decide) rfl ?_
  obtain ⟨x45, S44, g46, h⟩ := rx_bd_o h
  refine ev_cSl7 611 dX11_init_608 (em_X11_word g46) mm_X11_word ms_X11_word lk_11_156 (Nat.le_of_ble_eq_true rfl) (Nat.le_of_ble_eq_true rfl) rfl ?_
  obtain ⟨S47, eS47, h⟩ := rx_let_o h
  refine ex_last 10 612 dX11_init_611 dk_101 (rx_vin (by decide)) (by decide) rfl eS47 ?_
  refine ev_aload_n (i := 0) 613 dX11_init_612 rfl rfl rfl ?_
  refine ev_get (v := .ref 101) 616 dX11_init_613 dk_94 fl_11_34 (by decide) rfl rfl rfl ?_
  refine ev_bipush (v := 11) 618 dX11_init_616 (by decide) rfl ?_
  refine ev_bipush (v := 115) 620 dX11_init_618 (by decide) rfl ?_
  refine ev_bipush (v := 101) 622 dX11_init_620 (by decide) rfl ?_
  refine ev_bipush (v := 101) 624 dX11_init_622 (by decide) rfl ?_
  refine ev_bipush (v := 100) 626 dX11_init_624 (by decide) rfl ?_
  refine ev_iconst (v := 0) 627 dX11_init_626 (by decide) rfl ?_
  refine ev_iconst (v := 0) 628 dX11_init_627 (by decide) rfl ?_
  refine ev_iconst (v := 0) 629 dX11_init_628 (by decide) rfl ?_
  obtain ⟨x49, S48, g50, h⟩ := rx_bd_o h
  refine ev_cSl7 632 dX11_init_629 (em_X11_word g50) mm_X11_word ms_X11_word lk_11_156 (Nat.le_of_ble_eq_true rfl) (Nat.le_of_ble_eq_true rfl) rfl ?_
  obtain ⟨S51, eS51, h⟩ := rx_let_o h
  refine ex_last 11 633 dX11_init_632 dk_101 (rx_vin (by decide)) (by decide) rfl eS51 ?_
  refine ev_aload_n (i := 0) 634 dX11_init_633 rfl rfl rfl ?_
  refine ev_get (v := .ref 101) 637 dX11_init_634 dk_94 fl_11_34 (by decide) rfl rfl rfl ?_
  refine ev_bipush (v := 12) 639 dX11_init_637 (by decide) rfl ?_
  refine ev_bipush (v := 105) 641 dX11_init_639 (by decide) rfl ?_
  refine ev_bipush (v := 102) 643 dX11_init_641 (by decide) rfl ?_
  refine ev_iconst (v := 0) 644 dX11_init_643 (by decide) rfl ?_
  refine ev_iconst (v := 0) 645 dX11_init_644 (by decide) rfl ?_
  refine ev_iconst (v := 0) 646 dX11_init_645 (by decide) rfl ?_
  refine ev_iconst (v := 0) 647 dX11_init_646 (by decide) rfl ?_
  refine ev_iconst (v := 0) 648 dX11_init_647 (by decide) rfl ?_
  obtain ⟨x53, S52, g54, h⟩ := rx_bd_o h
  refine ev_cSl7 651 dX11_init_648 (em_X11_word g54) mm_X11_word ms_X11_word lk_11_156 (Nat.le_of_ble_eq_true rfl) (Nat.le_of_ble_eq_true rfl) rfl ?_
  obtain ⟨S55, eS55, h⟩ := rx_let_o h
  refine ex_last 12 652 dX11_init_651 dk_101 (rx_vin (by decide)) (by decide) rfl eS55 ?_
  refine ev_aload_n (i := 0) 653 dX11_init_652 rfl rfl rfl ?_
  refine ev_get (v := .ref 101) 656 dX11_init_653 dk_94 fl_11_34 (by decide) rfl rfl rfl ?_
  refine ev_bipush (v := 13) 658 dX11_init_656 (by decide) rfl ?_
  refine ev_bipush (v := 116) 660 dX11_init_658 (by decide) rfl ?_
  refine ev_bipush (v := 104) 662 dX11_init_660 (by decide) rfl ?_
  refine ev_bipush (v := 101) 664 dX11_init_662 (by decide) rfl ?_
  refine ev_bipush (v := 110) 666 dX11_init_664 (by decide) rfl ?_
  refine ev_iconst (v := 0) 667 dX11_init_666 (by decide) rfl ?_
  refine ev_iconst (v := 0) 668 dX11_init_667 (by decide) rfl ?_
  refine ev_iconst (v := 0) 669 dX11_init_668 (by decide) rfl ?_
  obtain ⟨x57, S56, g58, h⟩ := rx_bd_o h
  refine ev_cSl7 672 dX11_init_669 (em_X11_word g58) mm_X11_word ms_X11_word lk_11_156 (Nat.le_of_ble_eq_true rfl) (Nat.le_of_ble_eq_true rfl) rfl ?_
  obtain ⟨S59, eS59, h⟩ := rx_let_o h
  refine ex_last 13 673 dX11_init_672 dk_101 (rx_vin (by decide)) (by decide) rfl eS59 ?_
  refine ev_aload_n (i := 0) 674 dX11_init_673 rfl rfl rfl ?_
  refine ev_get (v := .ref 101) 677 dX11_init_674 dk_94 fl_11_34 (by decide) rfl rfl rfl ?_
  refine ev_bipush (v := 14) 679 dX11_init_677 (by decide) rfl ?_
  refine ev_bipush (v := 101) 681 dX11_init_679 (by decide) rfl ?_
  refine ev_bipush (v := 108) 683 dX11_init_681 (by decide) rfl ?_
  refine ev_bipush (v := 115) 685 dX11_init_683 (by decide) rfl ?_
  refine ev_bipush (v := 101) 687 dX11_init_685 (by decide) rfl ?_
  refine ev_iconst (v := 0) 688 dX11_init_687 (by decide) rfl ?_
  refine ev_iconst (v := 0) 689 dX11_init_688 (by decide) rfl ?_
  refine ev_iconst (v := 0) 690 dX11_init_689 (by decide) rfl ?_
  obtain ⟨x61, S60, g62, h⟩ := rx_bd_o h
  refine ev_cSl7 693 dX11_init_690 (em_X11_word g62) mm_X11_word ms_X11_word lk_11_156 (Nat.le_of_ble_eq_true rfl) (Nat.le_of_ble_eq_true rfl) rfl ?_
  obtain ⟨S63, eS63, h⟩ := rx_let_o h
  refine ex_last 14 694 dX11_init_693 dk_101 (rx_vin (by decide)) (by decide) rfl eS63 ?_
  refine ev_aload_n (i := 0) 695 dX11_init_694 rfl rfl rfl ?_
  refine ev_get (v := .ref 101) 698 dX11_init_695 dk_94 fl_11_34 (by decide) rfl rfl rfl ?_
  refine ev_bipush (v := 15) 700 dX11_init_698 (by decide) rfl ?_
  refine ev_bipush (v := 119) 702 dX11_init_700 (by decide) rfl ?_
  refine ev_bipush (v := 111) 704 dX11_init_702 (by decide) rfl ?_
  refine ev_bipush (v := 114) 706 dX11_init_704 (by decide) rfl ?_
  refine ev_bipush (v := 100) 708 dX11_init_706 (by decide) rfl ?_
  refine ev_iconst (v := 0) 709 dX11_init_708 (by decide) rfl ?_
  refine ev_iconst (v := 0) 710 dX11_init_709 (by decide) rfl ?_
  refine ev_iconst (v := 0) 711 dX11_init_710 (by decide) rfl ?_
  obtain ⟨x65, S64, g66, h⟩ := rx_bd_o h
  refine ev_cSl7 714 dX11_init_711 (em_X11_word g66) mm_X11_word ms_X11_word lk_11_156 (Nat.le_of_ble_eq_true rfl) (Nat.le_of_ble_eq_true rfl) rfl ?_
  obtain ⟨S67, eS67, h⟩ := rx_let_o h
  refine ex_last 15 715 dX11_init_714 dk_101 (rx_vin (by decide)) (by decide) rfl eS67 ?_
  refine ev_aload_n (i := 0) 716 dX11_init_715 rfl rfl rfl ?_
  refine ev_get (v := .ref 101) 719 dX11_init_716 dk_94 fl_11_34 (by decide) rfl rfl rfl ?_
  refine ev_bipush (v := 16) 721 dX11_init_719 (by decide) rfl ?_
  refine ev_bipush (v := 112) 723 dX11_init_721 (by decide) rfl ?_
  refine ev_bipush (v := 108) 725 dX11_init_723 (by decide) rfl ?_
  refine ev_bipush (v := 97) 727 dX11_init_725 (by decide) rfl ?_
  refine ev_bipush (v := 99) 729 dX11_init_727 (by decide) rfl ?_
  refine ev_bipush (v := 101) 731 dX11_init_729 (by decide) rfl ?_
  refine ev_iconst (v := 0) 732 dX11_init_731 (by decide) rfl ?_
  refine ev_iconst (v := 0) 733 dX11_init_732 (by decide) rfl ?_
  obtain ⟨x69, S68, g70, h⟩ := rx_bd_o h
  refine ev_cSl7 736 dX11_init_733 (em_X11_word g70) mm_X11_word ms_X11_word lk_11_156 (Nat.le_of_ble_eq_true rfl) (Nat.le_of_ble_eq_true rfl) rfl ?_
  obtain ⟨S71, eS71, h⟩ := rx_let_o h
  refine ex_last 16 737 dX11_init_736 dk_101 (rx_vin (by decide)) (by decide) rfl eS71 ?_
  refine ev_aload_n (i := 0) 738 dX11_init_737 rfl rfl rfl ?_
  refine ev_get (v := .ref 101) 741 dX11_init_738 dk_94 fl_11_34 (by decide) rfl rfl rfl ?_
  refine ev_bipush (v := 17) 743 dX11_init_741 (by decide) rfl ?_
  refine ev_bipush (v := 109) 745 dX11_init_743 (by decide) rfl ?_
  refine ev_bipush (v := 111) 747 dX11_init_745 (by decide) rfl ?_
  refine ev_bipush (v := 111) 749 dX11_init_747 (by decide) rfl ?_
  refine ev_bipush (v := 100) 751 dX11_init_749 (by decide) rfl ?_
  refine ev_iconst (v := 0) 752 dX11_init_751 (by decide) rfl ?_
  refine ev_iconst (v := 0) 753 dX11_init_752 (by decide) rfl ?_
  refine ev_iconst (v := 0) 754 dX11_init_753 (by decide) rfl ?_
  obtain ⟨x73, S72, g74, h⟩ := rx_bd_o h
  refine ev_cSl7 757 dX11_init_754 (em_X11_word g74) mm_X11_word ms_X11_word lk_11_156 (Nat.le_of_ble_eq_true rfl) (Nat.le_of_ble_eq_true rfl) rfl ?_
  obtain ⟨S75, eS75, h⟩ := rx_let_o h
  refine ex_last 17 758 dX11_init_757 dk_101 (rx_vin (by decide)) (by decide) rfl eS75 ?_
  refine ev_aload_n (i := 0) 759 dX11_init_758 rfl rfl rfl ?_
  refine ev_get (v := .ref 101) 762 dX11_init_759 dk_94 fl_11_34 (by decide) rfl rfl rfl ?_
  refine ev_bipush (v := 18) 764 dX11_init_762 (by decide) rfl ?_
  refine ev_bipush (v := 116) 766 dX11_init_764 (by decide) rfl ?_
  refine ev_bipush (v := 105) 768 dX11_init_766 (by decide) rfl ?_
  refine ev_bipush (v := 114) 770 dX11_init_768 (by decide) rfl ?_
  refine ev_bipush (v := 101) 772 dX11_init_770 (by decide) rfl ?_
  refine ev_bipush (v := 100) 774 dX11_init_772 (by decide) rfl ?_
  refine ev_iconst (v := 0) 775 dX11_init_774 (by decide) rfl ?_
  refine ev_iconst (v := 0) 776 dX11_init_775 (by decide) rfl ?_
  obtain ⟨x77, S76, g78, h⟩ := rx_bd_o h
  refine ev_cSl7 779 dX11_init_776 (em_X11_word g78) mm_X11_word ms_X11_word lk_11_156 (Nat.le_of_ble_eq_true rfl) (Nat.le_of_ble_eq_true rfl) rfl ?_
  obtain ⟨S79, eS79, h⟩ := rx_let_o h
  refine ex_last 18 780 dX11_init_779 dk_101 (rx_vin (by decide)) (by decide) rfl eS79 ?_
  refine ev_aload_n (i := 0) 781 dX11_init_780 rfl rfl rfl ?_
  refine ev_get (v := .ref 101) 784 dX11_init_781 dk_94 fl_11_34 (by decide) rfl rfl rfl ?_
  refine ev_bipush (v := 19) 786 dX11_init_784 (by decide) rfl ?_
  refine ev_bipush (v := 108) 788 dX11_init_786 (by decide) rfl ?_
  refine ev_bipush (v := 111) 790 dX11_init_788 (by decide) rfl ?_
  refine ev_bipush (v := 118) 792 dX11_init_790 (by decide) rfl ?_
  refine ev_bipush (v := 101) 794 dX11_init_792 (by decide) rfl ?_
  refine ev_iconst (v := 0) 795 dX11_init_794 (by decide) rfl ?_
  refine ev_iconst (v := 0) 796 dX11_init_795 (by decide) rfl ?_
  refine ev_iconst (v := 0) 797 dX11_init_796 (by decide) rfl ?_
  obtain ⟨x81, S80, g82, h⟩ := rx_bd_o h
  refine ev_cSl7 800 dX11_init_797 (em_X11_word g82) mm_X11_word ms_X11_word lk_11_156 (Nat.le_of_ble_eq_true rfl) (Nat.le_of_ble_eq_true rfl) rfl ?_
  obtain ⟨S83, eS83, h⟩ := rx_let_o h
  refine ex_last 19 801 dX11_init_800 dk_101 (rx_vin (by decide)) (by decide) rfl eS83 ?_
  refine ev_aload_n (i := 0) 802 dX11_init_801 rfl rfl rfl ?_
  refine ev_get (v := .ref 101) 805 dX11_init_802 dk_94 fl_11_34 (by decide) rfl rfl rfl ?_
  refine ev_bipush (v := 20) 807 dX11_init_805 (by decide) rfl ?_
  refine ev_bipush (v := 119) 809 dX11_init_807 (by decide) rfl ?_
  refine ev_bipush (v := 104) 811 dX11_init_809 (by decide) rfl ?_
  refine ev_bipush (v := 105) 813 dX11_init_811 (by decide) rfl ?_
  refine ev_bipush (v := 99) 815 dX11_init_813 (by decide) rfl ?_
  refine ev_bipush (v := 104) 817 dX11_init_815 (by decide) rfl ?_
  refine ev_iconst (v := 0) 818 dX11_init_817 (by decide) rfl ?_
  refine ev_iconst (v := 0) 819 dX11_init_818 (by decide) rfl ?_
  obtain ⟨x85, S84, g86, h⟩ := rx_bd_o h
  refine ev_cSl7 822 dX11_init_819 (em_X11_word g86) mm_X11_word ms_X11_word lk_11_156 (Nat.le_of_ble_eq_true rfl) (Nat.le_of_ble_eq_true rfl) rfl ?_
  obtain ⟨S87, eS87, h⟩ := rx_let_o h
  refine ex_last 20 823 dX11_init_822 dk_101 (rx_vin (by decide)) (by decide) rfl eS87 ?_
  refine ev_aload_n (i := 0) 824 dX11_init_823 rfl rfl rfl ?_
  refine ev_get (v := .ref 101) 827 dX11_init_824 dk_94 fl_11_34 (by decide) rfl rfl rfl ?_
  refine ev_bipush (v := 21) 829 dX11_init_827 (by decide) rfl ?_
  refine ev_bipush (v := 119) 831 dX11_init_829 (by decide) rfl ?_
  refine ev_bipush (v := 101) 833 dX11_init_831 (by decide) rfl ?_
  refine ev_bipush (v := 101) 835 dX11_init_833 (by decide) rfl ?_
  refine ev_bipush (v := 107) 837 dX11_init_835 (by decide) rfl ?_
  refine ev_iconst (v := 0) 838 dX11_init_837 (by decide) rfl ?_
  refine ev_iconst (v := 0) 839 dX11_init_838 (by decide) rfl ?_
  refine ev_iconst (v := 0) 840 dX11_init_839 (by decide) rfl ?_
  obtain ⟨x89, S88, g90, h⟩ := rx_bd_o h
  refine ev_cSl7 843 dX11_init_840 (em_X11_word g90) mm_X11_word ms_X11_word lk_11_156 (Nat.le_of_ble_eq_true rfl) (Nat.le_of_ble_eq_true rfl) rfl ?_
  obtain ⟨S91, eS91, h⟩ := rx_let_o h
  refine ex_last 21 844 dX11_init_843 dk_101 (rx_vin (by decide)) (by decide) rfl eS91 ?_
  refine ev_aload_n (i := 0) 845 dX11_init_844 rfl rfl rfl ?_
  refine ev_get (v := .ref 101) 848 dX11_init_845 dk_94 fl_11_34 (by decide) rfl rfl rfl ?_
  refine ev_bipush (v := 22) 850 dX11_init_848 (by decide) rfl ?_
  refine ev_bipush (v := 112) 852 dX11_init_850 (by decide) rfl ?_
  refine ev_bipush (v := 114) 854 dX11_init_852 (by decide) rfl ?_
  refine ev_bipush (v := 105) 856 dX11_init_854 (by decide) rfl ?_
  refine ev_bipush (v := 99) 858 dX11_init_856 (by decide) rfl ?_
  refine ev_bipush (v := 101) 860 dX11_init_858 (by decide) rfl ?_
  refine ev_iconst (v := 0) 861 dX11_init_860 (by decide) rfl ?_
  refine ev_iconst (v := 0) 862 dX11_init_861 (by decide) rfl ?_
  obtain ⟨x93, S92, g94, h⟩ := rx_bd_o h
  refine ev_cSl7 865 dX11_init_862 (em_X11_word g94) mm_X11_word ms_X11_word lk_11_156 (Nat.le_of_ble_eq_true rfl) (Nat.le_of_ble_eq_true rfl) rfl ?_
  obtain ⟨S95, eS95, h⟩ := rx_let_o h
  refine ex_last 22 866 dX11_init_865 dk_101 (rx_vin (by decide)) (by decide) rfl eS95 ?_
  refine ev_aload_n (i := 0) 867 dX11_init_866 rfl rfl rfl ?_
  refine ev_get (v := .ref 101) 870 dX11_init_867 dk_94 fl_11_34 (by decide) rfl rfl rfl ?_
  refine ev_bipush (v := 23) 872 dX11_init_870 (by decide) rfl ?_
  refine ev_bipush (v := 102) 874 dX11_init_872 (by decide) rfl ?_
  refine ev_bipush (v := 105) 876 dX11_init_874 (by decide) rfl ?_
  refine ev_bipush (v := 110) 878 dX11_init_876 (by decide) rfl ?_
  refine ev_bipush (v := 101) 880 dX11_init_878 (by decide) rfl ?_
  refine ev_bipush (v := 115) 882 dX11_init_880 (by decide) rfl ?_
  refine ev_iconst (v := 0) 883 dX11_init_882 (by decide) rfl ?_
  refine ev_iconst (v := 0) 884 dX11_init_883 (by decide) rfl ?_
  obtain ⟨x97, S96, g98, h⟩ := rx_bd_o h
  refine ev_cSl7 887 dX11_init_884 (em_X11_word g98) mm_X11_word ms_X11_word lk_11_156 (Nat.le_of_ble_eq_true rfl) (Nat.le_of_ble_eq_true rfl) rfl ?_
  obtain ⟨S99, eS99, h⟩ := rx_let_o h
  refine ex_last 23 888 dX11_init_887 dk_101 (rx_vin (by decide)) (by decide) rfl eS99 ?_
  refine ev_aload_n (i := 0) 889 dX11_init_888 rfl rfl rfl ?_
  obtain ⟨x101, S100, g102, h⟩ := rx_bd_o h
  refine ev_cVv0 892 dX11_init_889 (em_X11_begins g102) mm_X11_begins mv_X11_begins lk_11_160 dk_94 (by decide) rfl (Nat.le_of_ble_eq_true rfl) (Nat.le_of_ble_eq_true rfl) rfl ?_
  refine ev_aload_n (i := 0) 893 dX11_init_892 rfl rfl rfl ?_
  obtain ⟨x104, S103, g105, h⟩ := rx_bd_o h
  refine ev_cVv0 896 dX11_init_893 (em_X11_keepsRow g105) mm_X11_keepsRow mv_X11_keepsRow lk_11_163 dk_94 (by decide) rfl (Nat.le_of_ble_eq_true rfl) (Nat.le_of_ble_eq_true rfl) rfl ?_
  exact ev_return dX11_init_896 rfl (rx_ret_v h)

def zM : rx_S := ((f_X11_init_370 1000 zm1).getD ((), zm1)).2
theorem zM_ok : f_X11_init_370 1000 zm1 = some ((), zM) := by
  have h : (f_X11_init_370 1000 zm1).isSome = true := by decide +kernel
  unfold zM
  cases hh : f_X11_init_370 1000 zm1 with
  | none => rw [hh] at h; cases h
  | some p => rfl
