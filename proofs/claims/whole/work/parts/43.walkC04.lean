def f_X7_goThroughWeek_L2 (k : Nat) (N : Nat) (K77 : rx_S → Option (Unit × rx_S)) : Nat → Int32 → Int32 → rx_S → Option (Unit × rx_S)
  | 0, _, _, _ => none
  | n + 1, x9, x10, S11 => if (S11.1 2 7) ≤ x10 then (K77 S11) else (if (3 : Int32) ≤ x10 then (K77 S11) else (rx_gd ((19 : Int32) + x10) 48 (if (S11.1 k (Int32.toNatClampNeg ((19 : Int32) + x10))) = 0 then (rx_gd ((16 : Int32) + x10) 48 (rx_let (S11.1 k (Int32.toNatClampNeg ((16 : Int32) + x10))) (fun x19 => rx_bd (f_X8_hasThird 2 x19 S11) (fun x21 S20 => rx_let (fun (x23 : Int32) (x24 : Int32) (S25 : rx_S) => rx_bd (f_X7_partIfSad k x24 S25) (fun x27 S26 => rx_let (x24 + 1) (fun x29 => f_X7_goThroughWeek_L2 k N K77 n x23 x29 S26))) (fun J65_2 => if x21 = 0 then (rx_bd (f_X7_keepSilent k x10 S20) (fun x32 S31 => J65_2 x9 x10 S31)) else (rx_bd (f_X7_speak k N x10 x19 x9 S20) (fun x35 S34 => J65_2 x9 x10 S34))))))) else (rx_let (x10 + 1) (fun x17 => f_X7_goThroughWeek_L2 k N K77 n x9 x17 S11)))))
def f_X7_goThroughWeek (k : Nat) (N : Nat) (x2 : Int32) (S0 : rx_S) : Option (Unit × rx_S) := rx_let (fun (S4 : rx_S) => rx_bd (f_X7_restThirds k N S4) (fun x6 S5 => rx_let (rx_ui S5 k 0 ((S5.1 k 0) + 1)) (fun S8 => some ((), S8)))) (fun J77_1 => f_X7_goThroughWeek_L2 k N J77_1 N x2 0 S0)
set_option maxHeartbeats 4000000 in
set_option maxRecDepth 20000 in
theorem em_X7_goThroughWeek_L2_32 {d N : Nat} {K77 : rx_S → Option (Unit × rx_S)} {zr : Unit} {zS : rx_S} (hK77 : ∀ (S12 : rx_S), K77 S12 = some (zr, zS) → EV gC (d + 5) mX7_goThroughWeek 77 [some (.ref 80), some (.ref 32), none, none, none] [] S12 (rx_pv zS)) : ∀ (n : Nat) (x9 : Int32) (x10 : Int32) (S11 : rx_S), f_X7_goThroughWeek_L2 32 N K77 n x9 x10 S11 = some (zr, zS) → EV gC (d + 5) mX7_goThroughWeek 2 [some (.ref 80), some (.ref 32), some (.int x9), some (.int x10), none] [] S11 (rx_pv zS) := by
  intro n
  induction n with
  | zero => intro x9 x10 S11 h; cases h
  | succ n ih =>
    intro x9 x10 S11 h
    rw [f_X7_goThroughWeek_L2] at h
    refine ev_iload_n (i := 3) 3 dX7_goThroughWeek_2 rfl rfl rfl ?_
    refine ev_aload_n (i := 0) 4 dX7_goThroughWeek_3 rfl rfl rfl ?_
    refine ev_get (v := .ref 2) 7 dX7_goThroughWeek_4 dk_80 fl_7_9 (by decide) rfl rfl rfl ?_
    refine ev_get (v := .int (S11.1 2 7)) 10 dX7_goThroughWeek_7 dk_2 fl_7_87 (by decide) rfl rfl rfl ?_
    refine ev_icmp_ge 77 13 dX7_goThroughWeek_10 rfl rfl (fun c13 => ?_) (fun c13 => ?_)
    · replace h := rx_if_t c13 h
      exact (hK77 _ h).fewer (rx_le_s (rx_le_s (rx_le_n (rx_le_n (rx_le_n rx_le_0)))))
    · replace h := rx_if_f c13 h
      refine ev_iload_n (i := 3) 14 dX7_goThroughWeek_13 rfl rfl rfl ?_
      refine ev_iconst (v := 3) 15 dX7_goThroughWeek_14 (by decide) rfl ?_
      refine ev_icmp_ge 77 18 dX7_goThroughWeek_15 rfl rfl (fun c14 => ?_) (fun c14 => ?_)
      · replace h := rx_if_t c14 h
        exact (hK77 _ h).fewer (rx_le_s (rx_le_s (rx_le_n (rx_le_n (rx_le_n rx_le_0)))))
      · replace h := rx_if_f c14 h
        refine ev_aload_n (i := 1) 19 dX7_goThroughWeek_18 rfl rfl rfl ?_
        refine ev_bipush (v := 19) 21 dX7_goThroughWeek_19 (by decide) rfl ?_
        refine ev_iload_n (i := 3) 22 dX7_goThroughWeek_21 rfl rfl rfl ?_
        refine ev_iadd 23 dX7_goThroughWeek_22 rfl ?_
        obtain ⟨g15, h⟩ := rx_gd_o h
        refine ex_iald _ 24 dX7_goThroughWeek_23 dk_32 g15 rfl rfl ?_
        refine ev_if_ne 71 27 dX7_goThroughWeek_24 rfl rfl (fun c16 => ?_) (fun c16 => ?_)
        · replace h := rx_if_f c16 h
          obtain ⟨x17, ex17, h⟩ := rx_let_o h
          refine ev_iinc (v := x17) (ls' := [some (.ref 80), some (.ref 32), some (.int x9), some (.int x17), none]) 74 dX7_goThroughWeek_71 rfl (by rw [ex17]; rfl) (Nat.le_of_ble_eq_true rfl) rfl rfl ?_
          refine ev_goto 2 dX7_goThroughWeek_74 rfl ?_
          exact (ih _ _ _ h).fewer (rx_le_s (rx_le_s (rx_le_s (rx_le_s (rx_le_n rx_le_0)))))
        · replace h := rx_if_t c16 h
          refine ev_aload_n (i := 1) 28 dX7_goThroughWeek_27 rfl rfl rfl ?_
          refine ev_bipush (v := 16) 30 dX7_goThroughWeek_28 (by decide) rfl ?_
          refine ev_iload_n (i := 3) 31 dX7_goThroughWeek_30 rfl rfl rfl ?_
          refine ev_iadd 32 dX7_goThroughWeek_31 rfl ?_
          obtain ⟨g18, h⟩ := rx_gd_o h
          refine ex_iald _ 33 dX7_goThroughWeek_32 dk_32 g18 rfl rfl ?_
          obtain ⟨x19, ex19, h⟩ := rx_let_o h
          refine ev_nm ex19 ?_
          refine ev_istore (ls' := [some (.ref 80), some (.ref 32), some (.int x9), some (.int x10), some (.int x19)]) 35 dX7_goThroughWeek_33 (Nat.le_of_ble_eq_true rfl) rfl rfl ?_
          refine ev_aload_n (i := 0) 36 dX7_goThroughWeek_35 rfl rfl rfl ?_
          refine ev_get (v := .ref 2) 39 dX7_goThroughWeek_36 dk_80 fl_7_9 (by decide) rfl rfl rfl ?_
          refine ev_iload 41 dX7_goThroughWeek_39 rfl rfl ?_
          obtain ⟨x21, S20, g22, h⟩ := rx_bd_o h
          refine ev_cVi1 44 dX7_goThroughWeek_41 (em_X8_hasThird_2 g22) mm_X8_hasThird mv_X8_hasThird lk_7_91 dk_2 (by decide) rfl (Nat.le_of_ble_eq_true rfl) (Nat.le_of_ble_eq_true rfl) rfl ?_
          obtain ⟨J65_2, eJ65_2, h⟩ := rx_let_o h
          have hJ65_2 : ∀ (x23 : Int32) (x24 : Int32) (S25 : rx_S), J65_2 x23 x24 S25 = some (zr, zS) → EV gC (d + 5) mX7_goThroughWeek 65 [some (.ref 80), some (.ref 32), some (.int x23), some (.int x24), none] [] S25 (rx_pv zS) := by
            intro x23 x24 S25 h
            subst eJ65_2
            refine ev_aload_n (i := 0) 66 dX7_goThroughWeek_65 rfl rfl rfl ?_
            refine ev_aload_n (i := 1) 67 dX7_goThroughWeek_66 rfl rfl rfl ?_
            refine ev_iload_n (i := 3) 68 dX7_goThroughWeek_67 rfl rfl rfl ?_
            obtain ⟨x27, S26, g28, h⟩ := rx_bd_o h
            refine ev_cVv2 71 dX7_goThroughWeek_68 (em_X7_partIfSad_32 g28) mm_X7_partIfSad mv_X7_partIfSad lk_7_102 dk_80 (by decide) rfl (Nat.le_of_ble_eq_true rfl) (Nat.le_of_ble_eq_true rfl) rfl ?_
            obtain ⟨x29, ex29, h⟩ := rx_let_o h
            refine ev_iinc (v := x29) (ls' := [some (.ref 80), some (.ref 32), some (.int x23), some (.int x29), none]) 74 dX7_goThroughWeek_71 rfl (by rw [ex29]; rfl) (Nat.le_of_ble_eq_true rfl) rfl rfl ?_
            refine ev_goto 2 dX7_goThroughWeek_74 rfl ?_
            exact (ih _ _ _ h).fewer (rx_le_s (rx_le_s (rx_le_s (rx_le_s (rx_le_n rx_le_0)))))
          refine ev_if_eq 59 47 dX7_goThroughWeek_44 rfl rfl (fun c30 => ?_) (fun c30 => ?_)
          · replace h := rx_if_t c30 h
            refine ev_aload_n (i := 0) 60 dX7_goThroughWeek_59 rfl rfl rfl ?_
            refine ev_aload_n (i := 1) 61 dX7_goThroughWeek_60 rfl rfl rfl ?_
            refine ev_iload_n (i := 3) 62 dX7_goThroughWeek_61 rfl rfl rfl ?_
            obtain ⟨x32, S31, g33, h⟩ := rx_bd_o h
            refine ev_cVv2 65 dX7_goThroughWeek_62 (em_X7_keepSilent_32 g33) mm_X7_keepSilent mv_X7_keepSilent lk_7_99 dk_80 (by decide) rfl (Nat.le_of_ble_eq_true rfl) (Nat.le_of_ble_eq_true rfl) rfl ?_
            exact (hJ65_2 _ _ _ h).fewer (rx_le_s (rx_le_s (rx_le_s (rx_le_s (rx_le_n rx_le_0)))))
          · replace h := rx_if_f c30 h
            refine ev_aload_n (i := 0) 48 dX7_goThroughWeek_47 rfl rfl rfl ?_
            refine ev_aload_n (i := 1) 49 dX7_goThroughWeek_48 rfl rfl rfl ?_
            refine ev_iload_n (i := 3) 50 dX7_goThroughWeek_49 rfl rfl rfl ?_
            refine ev_iload 52 dX7_goThroughWeek_50 rfl rfl ?_
            refine ev_iload_n (i := 2) 53 dX7_goThroughWeek_52 rfl rfl rfl ?_
            obtain ⟨x35, S34, g36, h⟩ := rx_bd_o h
            refine ev_cVv4 56 dX7_goThroughWeek_53 (em_X7_speak_32 g36) mm_X7_speak mv_X7_speak lk_7_95 dk_80 (by decide) rfl (Nat.le_of_ble_eq_true rfl) (Nat.le_of_ble_eq_true rfl) rfl ?_
            refine ev_goto 65 dX7_goThroughWeek_56 rfl ?_
            exact (hJ65_2 _ _ _ h).fewer (rx_le_s (rx_le_s (rx_le_s (rx_le_s (rx_le_n rx_le_0)))))

set_option maxHeartbeats 4000000 in
set_option maxRecDepth 20000 in
theorem em_X7_goThroughWeek_32 {d N : Nat} {x2 : Int32} {S0 : rx_S} {zr : Unit} {zS : rx_S} (h : f_X7_goThroughWeek 32 N x2 S0 = some (zr, zS)) : EM gC (d + 5) mX7_goThroughWeek [.ref 80, .ref 32, .int x2] S0 (rx_pv zS) := by
  unfold f_X7_goThroughWeek at h
  show EV gC (d + 5) mX7_goThroughWeek 0 [some (.ref 80), some (.ref 32), some (.int x2), none, none] [] S0 (rx_pv zS)
  refine ev_iconst (v := 0) 1 dX7_goThroughWeek_0 (by decide) rfl ?_
  refine ev_istore_n (ls' := [some (.ref 80), some (.ref 32), some (.int x2), some (.int 0), none]) 2 dX7_goThroughWeek_1 rfl (Nat.le_of_ble_eq_true rfl) rfl rfl ?_
  obtain ⟨J77_1, eJ77_1, h⟩ := rx_let_o h
  have hJ77_1 : ∀ (S4 : rx_S), J77_1 S4 = some (zr, zS) → EV gC (d + 5) mX7_goThroughWeek 77 [some (.ref 80), some (.ref 32), none, none, none] [] S4 (rx_pv zS) := by
    intro S4 h
    subst eJ77_1
    refine ev_aload_n (i := 0) 78 dX7_goThroughWeek_77 rfl rfl rfl ?_
    refine ev_aload_n (i := 1) 79 dX7_goThroughWeek_78 rfl rfl rfl ?_
    obtain ⟨x6, S5, g7, h⟩ := rx_bd_o h
    refine ev_cVv1 82 dX7_goThroughWeek_79 (em_X7_restThirds_32 g7) mm_X7_restThirds mv_X7_restThirds lk_7_105 dk_80 (by decide) rfl (Nat.le_of_ble_eq_true rfl) (Nat.le_of_ble_eq_true rfl) rfl ?_
    refine ev_aload_n (i := 1) 83 dX7_goThroughWeek_82 rfl rfl rfl ?_
    refine ev_iconst (v := 0) 84 dX7_goThroughWeek_83 (by decide) rfl ?_
    refine ev_dup2 85 dX7_goThroughWeek_84 rfl rfl rfl ?_
    refine ex_iald 0 86 dX7_goThroughWeek_85 dk_32 (rx_vin (by decide)) (by decide) rfl ?_
    refine ev_iconst (v := 1) 87 dX7_goThroughWeek_86 (by decide) rfl ?_
    refine ev_iadd 88 dX7_goThroughWeek_87 rfl ?_
    obtain ⟨S8, eS8, h⟩ := rx_let_o h
    refine ex_iast 0 89 dX7_goThroughWeek_88 dk_32 (rx_vin (by decide)) (by decide) rfl eS8 ?_
    exact ev_return dX7_goThroughWeek_89 rfl (rx_ret_v h)
  exact (em_X7_goThroughWeek_L2_32 hJ77_1 _ _ _ _ h).fewer (rx_le_s (rx_le_s (rx_le_s (rx_le_s (rx_le_n rx_le_0)))))

set_option maxHeartbeats 4000000 in
set_option maxRecDepth 20000 in
theorem em_X7_goThroughWeek_L2_89 {d N : Nat} {K77 : rx_S → Option (Unit × rx_S)} {zr : Unit} {zS : rx_S} (hK77 : ∀ (S12 : rx_S), K77 S12 = some (zr, zS) → EV gC (d + 5) mX7_goThroughWeek 77 [some (.ref 80), some (.ref 89), none, none, none] [] S12 (rx_pv zS)) : ∀ (n : Nat) (x9 : Int32) (x10 : Int32) (S11 : rx_S), f_X7_goThroughWeek_L2 89 N K77 n x9 x10 S11 = some (zr, zS) → EV gC (d + 5) mX7_goThroughWeek 2 [some (.ref 80), some (.ref 89), some (.int x9), some (.int x10), none] [] S11 (rx_pv zS) := by
  intro n
  induction n with
  | zero => intro x9 x10 S11 h; cases h
  | succ n ih =>
    intro x9 x10 S11 h
    rw [f_X7_goThroughWeek_L2] at h
    refine ev_iload_n (i := 3) 3 dX7_goThroughWeek_2 rfl rfl rfl ?_
    refine ev_aload_n (i := 0) 4 dX7_goThroughWeek_3 rfl rfl rfl ?_
    refine ev_get (v := .ref 2) 7 dX7_goThroughWeek_4 dk_80 fl_7_9 (by decide) rfl rfl rfl ?_
    refine ev_get (v := .int (S11.1 2 7)) 10 dX7_goThroughWeek_7 dk_2 fl_7_87 (by decide) rfl rfl rfl ?_
    refine ev_icmp_ge 77 13 dX7_goThroughWeek_10 rfl rfl (fun c13 => ?_) (fun c13 => ?_)
    · replace h := rx_if_t c13 h
      exact (hK77 _ h).fewer (rx_le_s (rx_le_s (rx_le_n (rx_le_n (rx_le_n rx_le_0)))))
    · replace h := rx_if_f c13 h
      refine ev_iload_n (i := 3) 14 dX7_goThroughWeek_13 rfl rfl rfl ?_
      refine ev_iconst (v := 3) 15 dX7_goThroughWeek_14 (by decide) rfl ?_
      refine ev_icmp_ge 77 18 dX7_goThroughWeek_15 rfl rfl (fun c14 => ?_) (fun c14 => ?_)
      · replace h := rx_if_t c14 h
        exact (hK77 _ h).fewer (rx_le_s (rx_le_s (rx_le_n (rx_le_n (rx_le_n rx_le_0)))))
      · replace h := rx_if_f c14 h
        refine ev_aload_n (i := 1) 19 dX7_goThroughWeek_18 rfl rfl rfl ?_
        refine ev_bipush (v := 19) 21 dX7_goThroughWeek_19 (by decide) rfl ?_
        refine ev_iload_n (i := 3) 22 dX7_goThroughWeek_21 rfl rfl rfl ?_
        refine ev_iadd 23 dX7_goThroughWeek_22 rfl ?_
        obtain ⟨g15, h⟩ := rx_gd_o h
        refine ex_iald _ 24 dX7_goThroughWeek_23 dk_89 g15 rfl rfl ?_
        refine ev_if_ne 71 27 dX7_goThroughWeek_24 rfl rfl (fun c16 => ?_) (fun c16 => ?_)
        · replace h := rx_if_f c16 h
          obtain ⟨x17, ex17, h⟩ := rx_let_o h
          refine ev_iinc (v := x17) (ls' := [some (.ref 80), some (.ref 89), some (.int x9), some (.int x17), none]) 74 dX7_goThroughWeek_71 rfl (by rw [ex17]; rfl) (Nat.le_of_ble_eq_true rfl) rfl rfl ?_
          refine ev_goto 2 dX7_goThroughWeek_74 rfl ?_
          exact (ih _ _ _ h).fewer (rx_le_s (rx_le_s (rx_le_s (rx_le_s (rx_le_n rx_le_0)))))
        · replace h := rx_if_t c16 h
          refine ev_aload_n (i := 1) 28 dX7_goThroughWeek_27 rfl rfl rfl ?_
          refine ev_bipush (v := 16) 30 dX7_goThroughWeek_28 (by decide) rfl ?_
          refine ev_iload_n (i := 3) 31 dX7_goThroughWeek_30 rfl rfl rfl ?_
          refine ev_iadd 32 dX7_goThroughWeek_31 rfl ?_
          obtain ⟨g18, h⟩ := rx_gd_o h
          refine ex_iald _ 33 dX7_goThroughWeek_32 dk_89 g18 rfl rfl ?_
          obtain ⟨x19, ex19, h⟩ := rx_let_o h
          refine ev_nm ex19 ?_
          refine ev_istore (ls' := [some (.ref 80), some (.ref 89), some (.int x9), some (.int x10), some (.int x19)]) 35 dX7_goThroughWeek_33 (Nat.le_of_ble_eq_true rfl) rfl rfl ?_
          refine ev_aload_n (i := 0) 36 dX7_goThroughWeek_35 rfl rfl rfl ?_
          refine ev_get (v := .ref 2) 39 dX7_goThroughWeek_36 dk_80 fl_7_9 (by decide) rfl rfl rfl ?_
          refine ev_iload 41 dX7_goThroughWeek_39 rfl rfl ?_
          obtain ⟨x21, S20, g22, h⟩ := rx_bd_o h
          refine ev_cVi1 44 dX7_goThroughWeek_41 (em_X8_hasThird_2 g22) mm_X8_hasThird mv_X8_hasThird lk_7_91 dk_2 (by decide) rfl (Nat.le_of_ble_eq_true rfl) (Nat.le_of_ble_eq_true rfl) rfl ?_
          obtain ⟨J65_2, eJ65_2, h⟩ := rx_let_o h
          have hJ65_2 : ∀ (x23 : Int32) (x24 : Int32) (S25 : rx_S), J65_2 x23 x24 S25 = some (zr, zS) → EV gC (d + 5) mX7_goThroughWeek 65 [some (.ref 80), some (.ref 89), some (.int x23), some (.int x24), none] [] S25 (rx_pv zS) := by
            intro x23 x24 S25 h
            subst eJ65_2
            refine ev_aload_n (i := 0) 66 dX7_goThroughWeek_65 rfl rfl rfl ?_
            refine ev_aload_n (i := 1) 67 dX7_goThroughWeek_66 rfl rfl rfl ?_
            refine ev_iload_n (i := 3) 68 dX7_goThroughWeek_67 rfl rfl rfl ?_
            obtain ⟨x27, S26, g28, h⟩ := rx_bd_o h
            refine ev_cVv2 71 dX7_goThroughWeek_68 (em_X7_partIfSad_89 g28) mm_X7_partIfSad mv_X7_partIfSad lk_7_102 dk_80 (by decide) rfl (Nat.le_of_ble_eq_true rfl) (Nat.le_of_ble_eq_true rfl) rfl ?_
            obtain ⟨x29, ex29, h⟩ := rx_let_o h
            refine ev_iinc (v := x29) (ls' := [some (.ref 80), some (.ref 89), some (.int x23), some (.int x29), none]) 74 dX7_goThroughWeek_71 rfl (by rw [ex29]; rfl) (Nat.le_of_ble_eq_true rfl) rfl rfl ?_
            refine ev_goto 2 dX7_goThroughWeek_74 rfl ?_
            exact (ih _ _ _ h).fewer (rx_le_s (rx_le_s (rx_le_s (rx_le_s (rx_le_n rx_le_0)))))
          refine ev_if_eq 59 47 dX7_goThroughWeek_44 rfl rfl (fun c30 => ?_) (fun c30 => ?_)
          · replace h := rx_if_t c30 h
            refine ev_aload_n (i := 0) 60 dX7_goThroughWeek_59 rfl rfl rfl ?_
            refine ev_aload_n (i := 1) 61 dX7_goThroughWeek_60 rfl rfl rfl ?_
            refine ev_iload_n (i := 3) 62 dX7_goThroughWeek_61 rfl rfl rfl ?_
            obtain ⟨x32, S31, g33, h⟩ := rx_bd_o h
            refine ev_cVv2 65 dX7_goThroughWeek_62 (em_X7_keepSilent_89 g33) mm_X7_keepSilent mv_X7_keepSilent lk_7_99 dk_80 (by decide) rfl (Nat.le_of_ble_eq_true rfl) (Nat.le_of_ble_eq_true rfl) rfl ?_
            exact (hJ65_2 _ _ _ h).fewer (rx_le_s (rx_le_s (rx_le_s (rx_le_s (rx_le_n rx_le_0)))))
          · replace h := rx_if_f c30 h
            refine ev_aload_n (i := 0) 48 dX7_goThroughWeek_47 rfl rfl rfl ?_
            refine ev_aload_n (i := 1) 49 dX7_goThroughWeek_48 rfl rfl rfl ?_
            refine ev_iload_n (i := 3) 50 dX7_goThroughWeek_49 rfl rfl rfl ?_
            refine ev_iload 52 dX7_goThroughWeek_50 rfl rfl ?_
            refine ev_iload_n (i := 2) 53 dX7_goThroughWeek_52 rfl rfl rfl ?_
            obtain ⟨x35, S34, g36, h⟩ := rx_bd_o h
            refine ev_cVv4 56 dX7_goThroughWeek_53 (em_X7_speak_89 g36) mm_X7_speak mv_X7_speak lk_7_95 dk_80 (by decide) rfl (Nat.le_of_ble_eq_true rfl) (Nat.le_of_ble_eq_true rfl) rfl ?_
            refine ev_goto 65 dX7_goThroughWeek_56 rfl ?_
            exact (hJ65_2 _ _ _ h).fewer (rx_le_s (rx_le_s (rx_le_s (rx_le_s (rx_le_n rx_le_0)))))

set_option maxHeartbeats 4000000 in
set_option maxRecDepth 20000 in
theorem em_X7_goThroughWeek_89 {d N : Nat} {x2 : Int32} {S0 : rx_S} {zr : Unit} {zS : rx_S} (h : f_X7_goThroughWeek 89 N x2 S0 = some (zr, zS)) : EM gC (d + 5) mX7_goThroughWeek [.ref 80, .ref 89, .int x2] S0 (rx_pv zS) := by
  unfold f_X7_goThroughWeek at h
  show EV gC (d + 5) mX7_goThroughWeek 0 [some (.ref 80), some (.ref 89), some (.int x2), none, none] [] S0 (rx_pv zS)
  refine ev_iconst (v := 0) 1 dX7_goThroughWeek_0 (by decide) rfl ?_
  refine ev_istore_n (ls' := [some (.ref 80), some (.ref 89), some (.int x2), some (.int 0), none]) 2 dX7_goThroughWeek_1 rfl (Nat.le_of_ble_eq_true rfl) rfl rfl ?_
  obtain ⟨J77_1, eJ77_1, h⟩ := rx_let_o h
  have hJ77_1 : ∀ (S4 : rx_S), J77_1 S4 = some (zr, zS) → EV gC (d + 5) mX7_goThroughWeek 77 [some (.ref 80), some (.ref 89), none, none, none] [] S4 (rx_pv zS) := by
    intro S4 h
    subst eJ77_1
    refine ev_aload_n (i := 0) 78 dX7_goThroughWeek_77 rfl rfl rfl ?_
    refine ev_aload_n (i := 1) 79 dX7_goThroughWeek_78 rfl rfl rfl ?_
    obtain ⟨x6, S5, g7, h⟩ := rx_bd_o h
    refine ev_cVv1 82 dX7_goThroughWeek_79 (em_X7_restThirds_89 g7) mm_X7_restThirds mv_X7_restThirds lk_7_105 dk_80 (by decide) rfl (Nat.le_of_ble_eq_true rfl) (Nat.le_of_ble_eq_true rfl) rfl ?_
    refine ev_aload_n (i := 1) 83 dX7_goThroughWeek_82 rfl rfl rfl ?_
    refine ev_iconst (v := 0) 84 dX7_goThroughWeek_83 (by decide) rfl ?_
    refine ev_dup2 85 dX7_goThroughWeek_84 rfl rfl rfl ?_
    refine ex_iald 0 86 dX7_goThroughWeek_85 dk_89 (rx_vin (by decide)) (by decide) rfl ?_
    refine ev_iconst (v := 1) 87 dX7_goThroughWeek_86 (by decide) rfl ?_
    refine ev_iadd 88 dX7_goThroughWeek_87 rfl ?_
    obtain ⟨S8, eS8, h⟩ := rx_let_o h
    refine ex_iast 0 89 dX7_goThroughWeek_88 dk_89 (rx_vin (by decide)) (by decide) rfl eS8 ?_
    exact ev_return dX7_goThroughWeek_89 rfl (rx_ret_v h)
  exact (em_X7_goThroughWeek_L2_89 hJ77_1 _ _ _ _ h).fewer (rx_le_s (rx_le_s (rx_le_s (rx_le_s (rx_le_n rx_le_0)))))

def f_X0_behind_L14 (N : Nat) : Nat → Int32 → Int32 → rx_S → Option (Unit × rx_S)
  | 0, _, _, _ => none
  | n + 1, x5, x6, S7 => if x5 ≤ x6 then (some ((), S7)) else (rx_bd (f_X7_goThroughWeek 89 N (S7.1 2 10) S7) (fun x10 S9 => rx_let (x6 + 1) (fun x12 => f_X0_behind_L14 N n x5 x12 S9)))
def f_X0_behind (N : Nat) (x2 : Int32) (S0 : rx_S) : Option (Unit × rx_S) := rx_let (rx_ur S0 89 (va_cpy (S0.1 32) (S0.1 89) 0 0 48)) (fun S4 => f_X0_behind_L14 N N x2 0 S4)
set_option maxHeartbeats 4000000 in
set_option maxRecDepth 20000 in
theorem em_X0_behind_L14 {d N : Nat} {zr : Unit} {zS : rx_S} : ∀ (n : Nat) (x5 : Int32) (x6 : Int32) (S7 : rx_S), f_X0_behind_L14 N n x5 x6 S7 = some (zr, zS) → EV gC (d + 6) mX0_behind 14 [some (.ref 88), some (.ref 32), some (.int x5), some (.int x6)] [] S7 (rx_pr 89 zS) := by
  intro n
  induction n with
  | zero => intro x5 x6 S7 h; cases h
  | succ n ih =>
    intro x5 x6 S7 h
    rw [f_X0_behind_L14] at h
    refine ev_iload_n (i := 3) 15 dX0_behind_14 rfl rfl rfl ?_
    refine ev_iload_n (i := 2) 16 dX0_behind_15 rfl rfl rfl ?_
    refine ev_icmp_ge 43 19 dX0_behind_16 rfl rfl (fun c8 => ?_) (fun c8 => ?_)
    · replace h := rx_if_t c8 h
      refine ev_aload_n (i := 0) 44 dX0_behind_43 rfl rfl rfl ?_
      refine ev_get (v := .ref 89) 47 dX0_behind_44 dk_88 fl_0_9 (by decide) rfl rfl rfl ?_
      exact ev_areturn dX0_behind_47 rfl (Or.inr ⟨_, rfl⟩) (rx_ret_r h)
    · replace h := rx_if_f c8 h
      refine ev_aload_n (i := 0) 20 dX0_behind_19 rfl rfl rfl ?_
      refine ev_get (v := .ref 80) 23 dX0_behind_20 dk_88 fl_0_22 (by decide) rfl rfl rfl ?_
      refine ev_aload_n (i := 0) 24 dX0_behind_23 rfl rfl rfl ?_
      refine ev_get (v := .ref 89) 27 dX0_behind_24 dk_88 fl_0_9 (by decide) rfl rfl rfl ?_
      refine ev_aload_n (i := 0) 28 dX0_behind_27 rfl rfl rfl ?_
      refine ev_get (v := .ref 2) 31 dX0_behind_28 dk_88 fl_0_18 (by decide) rfl rfl rfl ?_
      refine ev_get (v := .int (S7.1 2 10)) 34 dX0_behind_31 dk_2 fl_0_32 (by decide) rfl rfl rfl ?_
      obtain ⟨x10, S9, g11, h⟩ := rx_bd_o h
      refine ev_cVv2 37 dX0_behind_34 (em_X7_goThroughWeek_89 g11) mm_X7_goThroughWeek mv_X7_goThroughWeek lk_0_38 dk_80 (by decide) rfl (Nat.le_of_ble_eq_true rfl) (Nat.le_of_ble_eq_true rfl) rfl ?_
      obtain ⟨x12, ex12, h⟩ := rx_let_o h
      refine ev_iinc (v := x12) (ls' := [some (.ref 88), some (.ref 32), some (.int x5), some (.int x12)]) 40 dX0_behind_37 rfl (by rw [ex12]; rfl) (Nat.le_of_ble_eq_true rfl) rfl rfl ?_
      refine ev_goto 14 dX0_behind_40 rfl ?_
      exact (ih _ _ _ h).fewer (rx_le_s (rx_le_s (rx_le_s (rx_le_s rx_le_0))))

set_option maxHeartbeats 4000000 in
set_option maxRecDepth 20000 in
theorem em_X0_behind {d N : Nat} {x2 : Int32} {S0 : rx_S} {zr : Unit} {zS : rx_S} (h : f_X0_behind N x2 S0 = some (zr, zS)) : EM gC (d + 6) mX0_behind [.ref 88, .ref 32, .int x2] S0 (rx_pr 89 zS) := by
  unfold f_X0_behind at h
  show EV gC (d + 6) mX0_behind 0 [some (.ref 88), some (.ref 32), some (.int x2), none] [] S0 (rx_pr 89 zS)
  refine ev_aload_n (i := 1) 1 dX0_behind_0 rfl rfl rfl ?_
  refine ev_iconst (v := 0) 2 dX0_behind_1 (by decide) rfl ?_
  refine ev_aload_n (i := 0) 3 dX0_behind_2 rfl rfl rfl ?_
  refine ev_get (v := .ref 89) 6 dX0_behind_3 dk_88 fl_0_9 (by decide) rfl rfl rfl ?_
  refine ev_iconst (v := 0) 7 dX0_behind_6 (by decide) rfl ?_
  refine ev_bipush (v := 48) 9 dX0_behind_7 (by decide) rfl ?_
  obtain ⟨S4, eS4, h⟩ := rx_let_o h
  refine ex_cp 0 0 48 12 dX0_behind_9 lk_0_26 dk_32 dk_89 (by decide) (by decide) (by decide) (by decide) (by decide) (by decide) (by decide) (by decide) (Nat.le_of_ble_eq_true rfl) rfl eS4 ?_
  refine ev_iconst (v := 0) 13 dX0_behind_12 (by decide) rfl ?_
  refine ev_istore_n (ls' := [some (.ref 88), some (.ref 32), some (.int x2), some (.int 0)]) 14 dX0_behind_13 rfl (Nat.le_of_ble_eq_true rfl) rfl rfl ?_
  exact (em_X0_behind_L14 _ _ _ _ h).fewer (rx_le_s (rx_le_s (rx_le_s (rx_le_s rx_le_0))))

def f_X0_weeksToPart_L15 (N : Nat) (K55 : Int32 → Int32 → rx_S → Option (Int32 × rx_S)) : Nat → Int32 → Int32 → Int32 → Int32 → rx_S → Option (Int32 × rx_S)
  | 0, _, _, _, _, _ => none
  | n + 1, x12, x13, x14, x15, S16 => if x13 ≤ x15 then (K55 x12 x13 S16) else (rx_gd ((19 : Int32) + x12) 48 (if (S16.1 89 (Int32.toNatClampNeg ((19 : Int32) + x12))) = 0 then (rx_bd (f_X7_goThroughWeek 89 N x14 S16) (fun x24 S23 => rx_let (x15 + 1) (fun x26 => f_X0_weeksToPart_L15 N K55 n x12 x13 x14 x26 S23))) else (some (x15, S16))))
def f_X0_weeksToPart (N : Nat) (x2 : Int32) (x3 : Int32) (x4 : Int32) (S0 : rx_S) : Option (Int32 × rx_S) := rx_let (rx_ur S0 89 (va_cpy (S0.1 32) (S0.1 89) 0 0 48)) (fun S6 => rx_let (fun (x7 : Int32) (x8 : Int32) (S9 : rx_S) => rx_gd ((19 : Int32) + x7) 48 (if (S9.1 89 (Int32.toNatClampNeg ((19 : Int32) + x7))) = 0 then (some ((-2), S9)) else (some (x8, S9)))) (fun J55_1 => f_X0_weeksToPart_L15 N J55_1 N x2 x3 x4 0 S6))
set_option maxHeartbeats 4000000 in
set_option maxRecDepth 20000 in
theorem em_X0_weeksToPart_L15 {d N : Nat} {K55 : Int32 → Int32 → rx_S → Option (Int32 × rx_S)} {zr : Int32} {zS : rx_S} (hK55 : ∀ (x17 : Int32) (x18 : Int32) (S19 : rx_S), K55 x17 x18 S19 = some (zr, zS) → EV gC (d + 6) mX0_weeksToPart 55 [some (.ref 88), some (.ref 32), some (.int x17), some (.int x18), none, none] [] S19 (rx_pi zr zS)) : ∀ (n : Nat) (x12 : Int32) (x13 : Int32) (x14 : Int32) (x15 : Int32) (S16 : rx_S), f_X0_weeksToPart_L15 N K55 n x12 x13 x14 x15 S16 = some (zr, zS) → EV gC (d + 6) mX0_weeksToPart 15 [some (.ref 88), some (.ref 32), some (.int x12), some (.int x13), some (.int x14), some (.int x15)] [] S16 (rx_pi zr zS) := by
  intro n
  induction n with
  | zero => intro x12 x13 x14 x15 S16 h; cases h
  | succ n ih =>
    intro x12 x13 x14 x15 S16 h
    rw [f_X0_weeksToPart_L15] at h
    refine ev_iload 17 dX0_weeksToPart_15 rfl rfl ?_
    refine ev_iload_n (i := 3) 18 dX0_weeksToPart_17 rfl rfl rfl ?_
    refine ev_icmp_ge 55 21 dX0_weeksToPart_18 rfl rfl (fun c20 => ?_) (fun c20 => ?_)
    · replace h := rx_if_t c20 h
      exact (hK55 _ _ _ h).fewer (rx_le_s (rx_le_s (rx_le_s (rx_le_s (rx_le_n (rx_le_n rx_le_0))))))
    · replace h := rx_if_f c20 h
      refine ev_aload_n (i := 0) 22 dX0_weeksToPart_21 rfl rfl rfl ?_
      refine ev_get (v := .ref 89) 25 dX0_weeksToPart_22 dk_88 fl_0_9 (by decide) rfl rfl rfl ?_
      refine ev_bipush (v := 19) 27 dX0_weeksToPart_25 (by decide) rfl ?_
      refine ev_iload_n (i := 2) 28 dX0_weeksToPart_27 rfl rfl rfl ?_
      refine ev_iadd 29 dX0_weeksToPart_28 rfl ?_
      obtain ⟨g21, h⟩ := rx_gd_o h
      refine ex_iald _ 30 dX0_weeksToPart_29 dk_89 g21 rfl rfl ?_
      refine ev_if_eq 36 33 dX0_weeksToPart_30 rfl rfl (fun c22 => ?_) (fun c22 => ?_)
      · replace h := rx_if_t c22 h
        refine ev_aload_n (i := 0) 37 dX0_weeksToPart_36 rfl rfl rfl ?_
        refine ev_get (v := .ref 80) 40 dX0_weeksToPart_37 dk_88 fl_0_22 (by decide) rfl rfl rfl ?_
        refine ev_aload_n (i := 0) 41 dX0_weeksToPart_40 rfl rfl rfl ?_
        refine ev_get (v := .ref 89) 44 dX0_weeksToPart_41 dk_88 fl_0_9 (by decide) rfl rfl rfl ?_
        refine ev_iload 46 dX0_weeksToPart_44 rfl rfl ?_
        obtain ⟨x24, S23, g25, h⟩ := rx_bd_o h
        refine ev_cVv2 49 dX0_weeksToPart_46 (em_X7_goThroughWeek_89 g25) mm_X7_goThroughWeek mv_X7_goThroughWeek lk_0_38 dk_80 (by decide) rfl (Nat.le_of_ble_eq_true rfl) (Nat.le_of_ble_eq_true rfl) rfl ?_
        obtain ⟨x26, ex26, h⟩ := rx_let_o h
        refine ev_iinc (v := x26) (ls' := [some (.ref 88), some (.ref 32), some (.int x12), some (.int x13), some (.int x14), some (.int x26)]) 52 dX0_weeksToPart_49 rfl (by rw [ex26]; rfl) (Nat.le_of_ble_eq_true rfl) rfl rfl ?_
        refine ev_goto 15 dX0_weeksToPart_52 rfl ?_
        exact (ih _ _ _ _ _ h).fewer (rx_le_s (rx_le_s (rx_le_s (rx_le_s (rx_le_s (rx_le_s rx_le_0))))))
      · replace h := rx_if_f c22 h
        refine ev_iload 35 dX0_weeksToPart_33 rfl rfl ?_
        exact ev_ireturn dX0_weeksToPart_35 rfl (rx_ret_i h)

set_option maxHeartbeats 4000000 in
set_option maxRecDepth 20000 in
theorem em_X0_weeksToPart {d N : Nat} {x2 : Int32} {x3 : Int32} {x4 : Int32} {S0 : rx_S} {zr : Int32} {zS : rx_S} (h : f_X0_weeksToPart N x2 x3 x4 S0 = some (zr, zS)) : EM gC (d + 6) mX0_weeksToPart [.ref 88, .ref 32, .int x2, .int x3, .int x4] S0 (rx_pi zr zS) := by
  unfold f_X0_weeksToPart at h
  show EV gC (d + 6) mX0_weeksToPart 0 [some (.ref 88), some (.ref 32), some (.int x2), some (.int x3), some (.int x4), none] [] S0 (rx_pi zr zS)
  refine ev_aload_n (i := 1) 1 dX0_weeksToPart_0 rfl rfl rfl ?_
  refine ev_iconst (v := 0) 2 dX0_weeksToPart_1 (by decide) rfl ?_
  refine ev_aload_n (i := 0) 3 dX0_weeksToPart_2 rfl rfl rfl ?_
  refine ev_get (v := .ref 89) 6 dX0_weeksToPart_3 dk_88 fl_0_9 (by decide) rfl rfl rfl ?_
  refine ev_iconst (v := 0) 7 dX0_weeksToPart_6 (by decide) rfl ?_
  refine ev_bipush (v := 48) 9 dX0_weeksToPart_7 (by decide) rfl ?_
  obtain ⟨S6, eS6, h⟩ := rx_let_o h
  refine ex_cp 0 0 48 12 dX0_weeksToPart_9 lk_0_26 dk_32 dk_89 (by decide) (by decide) (by decide) (by decide) (by decide) (by decide) (by decide) (by decide) (Nat.le_of_ble_eq_true rfl) rfl eS6 ?_
  refine ev_iconst (v := 0) 13 dX0_weeksToPart_12 (by decide) rfl ?_
  refine ev_istore (ls' := [some (.ref 88), some (.ref 32), some (.int x2), some (.int x3), some (.int x4), some (.int 0)]) 15 dX0_weeksToPart_13 (Nat.le_of_ble_eq_true rfl) rfl rfl ?_
  obtain ⟨J55_1, eJ55_1, h⟩ := rx_let_o h
  have hJ55_1 : ∀ (x7 : Int32) (x8 : Int32) (S9 : rx_S), J55_1 x7 x8 S9 = some (zr, zS) → EV gC (d + 6) mX0_weeksToPart 55 [some (.ref 88), some (.ref 32), some (.int x7), some (.int x8), none, none] [] S9 (rx_pi zr zS) := by
    intro x7 x8 S9 h
    subst eJ55_1
    refine ev_aload_n (i := 0) 56 dX0_weeksToPart_55 rfl rfl rfl ?_
    refine ev_get (v := .ref 89) 59 dX0_weeksToPart_56 dk_88 fl_0_9 (by decide) rfl rfl rfl ?_
    refine ev_bipush (v := 19) 61 dX0_weeksToPart_59 (by decide) rfl ?_
    refine ev_iload_n (i := 2) 62 dX0_weeksToPart_61 rfl rfl rfl ?_
    refine ev_iadd 63 dX0_weeksToPart_62 rfl ?_
    obtain ⟨g10, h⟩ := rx_gd_o h
    refine ex_iald _ 64 dX0_weeksToPart_63 dk_89 g10 rfl rfl ?_
    refine ev_if_eq 71 67 dX0_weeksToPart_64 rfl rfl (fun c11 => ?_) (fun c11 => ?_)
    · replace h := rx_if_t c11 h
      refine ev_bipush (v := (-2)) 73 dX0_weeksToPart_71 (by decide) rfl ?_
      exact ev_ireturn dX0_weeksToPart_73 rfl (rx_ret_i h)
    · replace h := rx_if_f c11 h
      refine ev_iload_n (i := 3) 68 dX0_weeksToPart_67 rfl rfl rfl ?_
      refine ev_goto 73 dX0_weeksToPart_68 rfl ?_
      exact ev_ireturn dX0_weeksToPart_73 rfl (rx_ret_i h)
  exact (em_X0_weeksToPart_L15 hJ55_1 _ _ _ _ _ _ h).fewer (rx_le_s (rx_le_s (rx_le_s (rx_le_s (rx_le_s (rx_le_s rx_le_0))))))

def f_X0_tryOaths_L85 (N : Nat) : Nat → Int32 → Int32 → rx_S → Option (Unit × rx_S)
  | 0, _, _, _ => none
  | n + 1, x11, x12, S13 => if (S13.1 2 8) ≤ x12 then (some ((), S13)) else (rx_gd ((40 : Int32) + x12) 48 (rx_gd ((x11 * 4) + x12) 64 (rx_let (rx_ui S13 90 (Int32.toNatClampNeg ((x11 * 4) + x12)) (S13.1 89 (Int32.toNatClampNeg ((40 : Int32) + x12)))) (fun S17 => rx_let (x12 + 1) (fun x18 => f_X0_tryOaths_L85 N n x11 x18 S17)))))
def f_X0_tryOaths_L52 (N : Nat) (K82 : Int32 → rx_S → Option (Unit × rx_S)) : Nat → Int32 → Int32 → Int32 → rx_S → Option (Unit × rx_S)
  | 0, _, _, _, _ => none
  | n + 1, x19, x20, x21, S22 => if x19 ≤ x21 then (K82 x20 S22) else (rx_bd (f_X7_goThroughWeek 89 N (S22.1 2 10) S22) (fun x27 S26 => rx_let (x21 + 1) (fun x29 => f_X0_tryOaths_L52 N K82 n x19 x20 x29 S26)))
def f_X0_tryOaths_L15 (N : Nat) (K49 : Int32 → Int32 → rx_S → Option (Unit × rx_S)) : Nat → Int32 → Int32 → Int32 → rx_S → Option (Unit × rx_S)
  | 0, _, _, _, _ => none
  | n + 1, x30, x31, x32, S33 => if (S33.1 2 8) ≤ x32 then (K49 x30 x31 S33) else (rx_gd ((36 : Int32) + x32) 48 (rx_let (rx_ui S33 89 (Int32.toNatClampNeg ((36 : Int32) + x32)) ((rx_ushr x31 x32) &&& 1)) (fun S39 => rx_let (x32 + 1) (fun x40 => f_X0_tryOaths_L15 N K49 n x30 x31 x40 S39))))
def f_X0_tryOaths (N : Nat) (x2 : Int32) (x3 : Int32) (S0 : rx_S) : Option (Unit × rx_S) := rx_let (rx_ur S0 89 (va_cpy (S0.1 32) (S0.1 89) 0 0 48)) (fun S5 => rx_let (fun (x6 : Int32) (x7 : Int32) (S8 : rx_S) => rx_let (fun (x9 : Int32) (S10 : rx_S) => f_X0_tryOaths_L85 N N x9 0 S10) (fun J82_2 => f_X0_tryOaths_L52 N J82_2 N x6 x7 0 S8)) (fun J49_1 => f_X0_tryOaths_L15 N J49_1 N x2 x3 0 S5))
set_option maxHeartbeats 4000000 in
set_option maxRecDepth 20000 in
theorem em_X0_tryOaths_L85 {d N : Nat} {zr : Unit} {zS : rx_S} : ∀ (n : Nat) (x11 : Int32) (x12 : Int32) (S13 : rx_S), f_X0_tryOaths_L85 N n x11 x12 S13 = some (zr, zS) → EV gC (d + 6) mX0_tryOaths 85 [some (.ref 88), some (.ref 32), none, some (.int x11), some (.int x12)] [] S13 (rx_pv zS) := by
  intro n
  induction n with
  | zero => intro x11 x12 S13 h; cases h
  | succ n ih =>
    intro x11 x12 S13 h
    rw [f_X0_tryOaths_L85] at h
    refine ev_iload 87 dX0_tryOaths_85 rfl rfl ?_
    refine ev_aload_n (i := 0) 88 dX0_tryOaths_87 rfl rfl rfl ?_
    refine ev_get (v := .ref 2) 91 dX0_tryOaths_88 dk_88 fl_0_18 (by decide) rfl rfl rfl ?_
    refine ev_get (v := .int (S13.1 2 8)) 94 dX0_tryOaths_91 dk_2 fl_0_44 (by decide) rfl rfl rfl ?_
    refine ev_icmp_ge 124 97 dX0_tryOaths_94 rfl rfl (fun c14 => ?_) (fun c14 => ?_)
    · replace h := rx_if_t c14 h
      exact ev_return dX0_tryOaths_124 rfl (rx_ret_v h)
    · replace h := rx_if_f c14 h
      refine ev_aload_n (i := 0) 98 dX0_tryOaths_97 rfl rfl rfl ?_
      refine ev_get (v := .ref 90) 101 dX0_tryOaths_98 dk_88 fl_0_15 (by decide) rfl rfl rfl ?_
      refine ev_iload_n (i := 3) 102 dX0_tryOaths_101 rfl rfl rfl ?_
      refine ev_iconst (v := 4) 103 dX0_tryOaths_102 (by decide) rfl ?_
      refine ev_imul 104 dX0_tryOaths_103 rfl ?_
      refine ev_iload 106 dX0_tryOaths_104 rfl rfl ?_
      refine ev_iadd 107 dX0_tryOaths_106 rfl ?_
      refine ev_aload_n (i := 0) 108 dX0_tryOaths_107 rfl rfl rfl ?_
      refine ev_get (v := .ref 89) 111 dX0_tryOaths_108 dk_88 fl_0_9 (by decide) rfl rfl rfl ?_
      refine ev_bipush (v := 40) 113 dX0_tryOaths_111 (by decide) rfl ?_
      refine ev_iload 115 dX0_tryOaths_113 rfl rfl ?_
      refine ev_iadd 116 dX0_tryOaths_115 rfl ?_
      obtain ⟨g15, h⟩ := rx_gd_o h
      refine ex_iald _ 117 dX0_tryOaths_116 dk_89 g15 rfl rfl ?_
      obtain ⟨g16, h⟩ := rx_gd_o h
      obtain ⟨S17, eS17, h⟩ := rx_let_o h
      refine ex_iast _ 118 dX0_tryOaths_117 dk_90 g16 rfl rfl eS17 ?_
      obtain ⟨x18, ex18, h⟩ := rx_let_o h
      refine ev_iinc (v := x18) (ls' := [some (.ref 88), some (.ref 32), none, some (.int x11), some (.int x18)]) 121 dX0_tryOaths_118 rfl (by rw [ex18]; rfl) (Nat.le_of_ble_eq_true rfl) rfl rfl ?_
      refine ev_goto 85 dX0_tryOaths_121 rfl ?_
      exact (ih _ _ _ h).fewer (rx_le_s (rx_le_s (rx_le_n (rx_le_s (rx_le_s rx_le_0)))))

set_option maxHeartbeats 4000000 in
set_option maxRecDepth 20000 in
theorem em_X0_tryOaths_L52 {d N : Nat} {K82 : Int32 → rx_S → Option (Unit × rx_S)} {zr : Unit} {zS : rx_S} (hK82 : ∀ (x23 : Int32) (S24 : rx_S), K82 x23 S24 = some (zr, zS) → EV gC (d + 6) mX0_tryOaths 82 [some (.ref 88), some (.ref 32), none, some (.int x23), none] [] S24 (rx_pv zS)) : ∀ (n : Nat) (x19 : Int32) (x20 : Int32) (x21 : Int32) (S22 : rx_S), f_X0_tryOaths_L52 N K82 n x19 x20 x21 S22 = some (zr, zS) → EV gC (d + 6) mX0_tryOaths 52 [some (.ref 88), some (.ref 32), some (.int x19), some (.int x20), some (.int x21)] [] S22 (rx_pv zS) := by
  intro n
  induction n with
  | zero => intro x19 x20 x21 S22 h; cases h
  | succ n ih =>
    intro x19 x20 x21 S22 h
    rw [f_X0_tryOaths_L52] at h
    refine ev_iload 54 dX0_tryOaths_52 rfl rfl ?_
    refine ev_iload_n (i := 2) 55 dX0_tryOaths_54 rfl rfl rfl ?_
    refine ev_icmp_ge 82 58 dX0_tryOaths_55 rfl rfl (fun c25 => ?_) (fun c25 => ?_)
    · replace h := rx_if_t c25 h
      exact (hK82 _ _ h).fewer (rx_le_s (rx_le_s (rx_le_n (rx_le_s (rx_le_n rx_le_0)))))
    · replace h := rx_if_f c25 h
      refine ev_aload_n (i := 0) 59 dX0_tryOaths_58 rfl rfl rfl ?_
      refine ev_get (v := .ref 80) 62 dX0_tryOaths_59 dk_88 fl_0_22 (by decide) rfl rfl rfl ?_
      refine ev_aload_n (i := 0) 63 dX0_tryOaths_62 rfl rfl rfl ?_
      refine ev_get (v := .ref 89) 66 dX0_tryOaths_63 dk_88 fl_0_9 (by decide) rfl rfl rfl ?_
      refine ev_aload_n (i := 0) 67 dX0_tryOaths_66 rfl rfl rfl ?_
      refine ev_get (v := .ref 2) 70 dX0_tryOaths_67 dk_88 fl_0_18 (by decide) rfl rfl rfl ?_
      refine ev_get (v := .int (S22.1 2 10)) 73 dX0_tryOaths_70 dk_2 fl_0_32 (by decide) rfl rfl rfl ?_
      obtain ⟨x27, S26, g28, h⟩ := rx_bd_o h
      refine ev_cVv2 76 dX0_tryOaths_73 (em_X7_goThroughWeek_89 g28) mm_X7_goThroughWeek mv_X7_goThroughWeek lk_0_38 dk_80 (by decide) rfl (Nat.le_of_ble_eq_true rfl) (Nat.le_of_ble_eq_true rfl) rfl ?_
      obtain ⟨x29, ex29, h⟩ := rx_let_o h
      refine ev_iinc (v := x29) (ls' := [some (.ref 88), some (.ref 32), some (.int x19), some (.int x20), some (.int x29)]) 79 dX0_tryOaths_76 rfl (by rw [ex29]; rfl) (Nat.le_of_ble_eq_true rfl) rfl rfl ?_
      refine ev_goto 52 dX0_tryOaths_79 rfl ?_
      exact (ih _ _ _ _ h).fewer (rx_le_s (rx_le_s (rx_le_s (rx_le_s (rx_le_s rx_le_0)))))

set_option maxHeartbeats 4000000 in
set_option maxRecDepth 20000 in
theorem em_X0_tryOaths_L15 {d N : Nat} {K49 : Int32 → Int32 → rx_S → Option (Unit × rx_S)} {zr : Unit} {zS : rx_S} (hK49 : ∀ (x34 : Int32) (x35 : Int32) (S36 : rx_S), K49 x34 x35 S36 = some (zr, zS) → EV gC (d + 6) mX0_tryOaths 49 [some (.ref 88), some (.ref 32), some (.int x34), some (.int x35), none] [] S36 (rx_pv zS)) : ∀ (n : Nat) (x30 : Int32) (x31 : Int32) (x32 : Int32) (S33 : rx_S), f_X0_tryOaths_L15 N K49 n x30 x31 x32 S33 = some (zr, zS) → EV gC (d + 6) mX0_tryOaths 15 [some (.ref 88), some (.ref 32), some (.int x30), some (.int x31), some (.int x32)] [] S33 (rx_pv zS) := by
  intro n
  induction n with
  | zero => intro x30 x31 x32 S33 h; cases h
  | succ n ih =>
    intro x30 x31 x32 S33 h
    rw [f_X0_tryOaths_L15] at h
    refine ev_iload 17 dX0_tryOaths_15 rfl rfl ?_
    refine ev_aload_n (i := 0) 18 dX0_tryOaths_17 rfl rfl rfl ?_
    refine ev_get (v := .ref 2) 21 dX0_tryOaths_18 dk_88 fl_0_18 (by decide) rfl rfl rfl ?_
    refine ev_get (v := .int (S33.1 2 8)) 24 dX0_tryOaths_21 dk_2 fl_0_44 (by decide) rfl rfl rfl ?_
    refine ev_icmp_ge 49 27 dX0_tryOaths_24 rfl rfl (fun c37 => ?_) (fun c37 => ?_)
    · replace h := rx_if_t c37 h
      exact (hK49 _ _ _ h).fewer (rx_le_s (rx_le_s (rx_le_s (rx_le_s (rx_le_n rx_le_0)))))
    · replace h := rx_if_f c37 h
      refine ev_aload_n (i := 0) 28 dX0_tryOaths_27 rfl rfl rfl ?_
      refine ev_get (v := .ref 89) 31 dX0_tryOaths_28 dk_88 fl_0_9 (by decide) rfl rfl rfl ?_
      refine ev_bipush (v := 36) 33 dX0_tryOaths_31 (by decide) rfl ?_
      refine ev_iload 35 dX0_tryOaths_33 rfl rfl ?_
      refine ev_iadd 36 dX0_tryOaths_35 rfl ?_
      refine ev_iload_n (i := 3) 37 dX0_tryOaths_36 rfl rfl rfl ?_
      refine ev_iload 39 dX0_tryOaths_37 rfl rfl ?_
      refine ev_ushr 40 dX0_tryOaths_39 rfl ?_
      refine ev_iconst (v := 1) 41 dX0_tryOaths_40 (by decide) rfl ?_
      refine ev_iand 42 dX0_tryOaths_41 rfl ?_
      obtain ⟨g38, h⟩ := rx_gd_o h
      obtain ⟨S39, eS39, h⟩ := rx_let_o h
      refine ex_iast _ 43 dX0_tryOaths_42 dk_89 g38 rfl rfl eS39 ?_
      obtain ⟨x40, ex40, h⟩ := rx_let_o h
      refine ev_iinc (v := x40) (ls' := [some (.ref 88), some (.ref 32), some (.int x30), some (.int x31), some (.int x40)]) 46 dX0_tryOaths_43 rfl (by rw [ex40]; rfl) (Nat.le_of_ble_eq_true rfl) rfl rfl ?_
      refine ev_goto 15 dX0_tryOaths_46 rfl ?_
      exact (ih _ _ _ _ h).fewer (rx_le_s (rx_le_s (rx_le_s (rx_le_s (rx_le_s rx_le_0)))))

set_option maxHeartbeats 4000000 in
set_option maxRecDepth 20000 in
theorem em_X0_tryOaths {d N : Nat} {x2 : Int32} {x3 : Int32} {S0 : rx_S} {zr : Unit} {zS : rx_S} (h : f_X0_tryOaths N x2 x3 S0 = some (zr, zS)) : EM gC (d + 6) mX0_tryOaths [.ref 88, .ref 32, .int x2, .int x3] S0 (rx_pv zS) := by
  unfold f_X0_tryOaths at h
  show EV gC (d + 6) mX0_tryOaths 0 [some (.ref 88), some (.ref 32), some (.int x2), some (.int x3), none] [] S0 (rx_pv zS)
  refine ev_aload_n (i := 1) 1 dX0_tryOaths_0 rfl rfl rfl ?_
  refine ev_iconst (v := 0) 2 dX0_tryOaths_1 (by decide) rfl ?_
  refine ev_aload_n (i := 0) 3 dX0_tryOaths_2 rfl rfl rfl ?_
  refine ev_get (v := .ref 89) 6 dX0_tryOaths_3 dk_88 fl_0_9 (by decide) rfl rfl rfl ?_
  refine ev_iconst (v := 0) 7 dX0_tryOaths_6 (by decide) rfl ?_
  refine ev_bipush (v := 48) 9 dX0_tryOaths_7 (by decide) rfl ?_
  obtain ⟨S5, eS5, h⟩ := rx_let_o h
  refine ex_cp 0 0 48 12 dX0_tryOaths_9 lk_0_26 dk_32 dk_89 (by decide) (by decide) (by decide) (by decide) (by decide) (by decide) (by decide) (by decide) (Nat.le_of_ble_eq_true rfl) rfl eS5 ?_
  refine ev_iconst (v := 0) 13 dX0_tryOaths_12 (by decide) rfl ?_
  refine ev_istore (ls' := [some (.ref 88), some (.ref 32), some (.int x2), some (.int x3), some (.int 0)]) 15 dX0_tryOaths_13 (Nat.le_of_ble_eq_true rfl) rfl rfl ?_
  obtain ⟨J49_1, eJ49_1, h⟩ := rx_let_o h
  have hJ49_1 : ∀ (x6 : Int32) (x7 : Int32) (S8 : rx_S), J49_1 x6 x7 S8 = some (zr, zS) → EV gC (d + 6) mX0_tryOaths 49 [some (.ref 88), some (.ref 32), some (.int x6), some (.int x7), none] [] S8 (rx_pv zS) := by
    intro x6 x7 S8 h
    subst eJ49_1
    refine ev_iconst (v := 0) 50 dX0_tryOaths_49 (by decide) rfl ?_
    refine ev_istore (ls' := [some (.ref 88), some (.ref 32), some (.int x6), some (.int x7), some (.int 0)]) 52 dX0_tryOaths_50 (Nat.le_of_ble_eq_true rfl) rfl rfl ?_
    obtain ⟨J82_2, eJ82_2, h⟩ := rx_let_o h
    have hJ82_2 : ∀ (x9 : Int32) (S10 : rx_S), J82_2 x9 S10 = some (zr, zS) → EV gC (d + 6) mX0_tryOaths 82 [some (.ref 88), some (.ref 32), none, some (.int x9), none] [] S10 (rx_pv zS) := by
      intro x9 S10 h
      subst eJ82_2
      refine ev_iconst (v := 0) 83 dX0_tryOaths_82 (by decide) rfl ?_
      refine ev_istore (ls' := [some (.ref 88), some (.ref 32), none, some (.int x9), some (.int 0)]) 85 dX0_tryOaths_83 (Nat.le_of_ble_eq_true rfl) rfl rfl ?_
      exact (em_X0_tryOaths_L85 _ _ _ _ h).fewer (rx_le_s (rx_le_s (rx_le_n (rx_le_s (rx_le_s rx_le_0)))))
    exact (em_X0_tryOaths_L52 hJ82_2 _ _ _ _ _ h).fewer (rx_le_s (rx_le_s (rx_le_s (rx_le_s (rx_le_s rx_le_0)))))
  exact (em_X0_tryOaths_L15 hJ49_1 _ _ _ _ _ h).fewer (rx_le_s (rx_le_s (rx_le_s (rx_le_s (rx_le_s rx_le_0)))))

def f_X0_isResting_L2 (N : Nat) : Nat → Int32 → Int32 → rx_S → Option (Int32 × rx_S)
  | 0, _, _, _ => none
  | n + 1, x3, x4, S5 => if (S5.1 2 8) ≤ x4 then (some (1, S5)) else (rx_let (x3 ^^^ ((1 : Int32) <<< (x4 &&& 31))) (fun x7 => rx_gd ((x7 * 4) + x4) 64 (rx_gd ((x3 * 4) + x4) 64 (if (S5.1 90 (Int32.toNatClampNeg ((x7 * 4) + x4))) ≤ (S5.1 90 (Int32.toNatClampNeg ((x3 * 4) + x4))) then (rx_let (x4 + 1) (fun x11 => f_X0_isResting_L2 N n x3 x11 S5)) else (some (0, S5))))))
def f_X0_isResting (N : Nat) (x1 : Int32) (S0 : rx_S) : Option (Int32 × rx_S) := f_X0_isResting_L2 N N x1 0 S0
set_option maxHeartbeats 4000000 in
set_option maxRecDepth 20000 in
theorem em_X0_isResting_L2 {d N : Nat} {zr : Int32} {zS : rx_S} : ∀ (n : Nat) (x3 : Int32) (x4 : Int32) (S5 : rx_S), f_X0_isResting_L2 N n x3 x4 S5 = some (zr, zS) → EV gC d mX0_isResting 2 [some (.ref 88), some (.int x3), some (.int x4), none] [] S5 (rx_pi zr zS) := by
  intro n
  induction n with
  | zero => intro x3 x4 S5 h; cases h
  | succ n ih =>
    intro x3 x4 S5 h
    rw [f_X0_isResting_L2] at h
    refine ev_iload_n (i := 2) 3 dX0_isResting_2 rfl rfl rfl ?_
    refine ev_aload_n (i := 0) 4 dX0_isResting_3 rfl rfl rfl ?_
    refine ev_get (v := .ref 2) 7 dX0_isResting_4 dk_88 fl_0_18 (by decide) rfl rfl rfl ?_
    refine ev_get (v := .int (S5.1 2 8)) 10 dX0_isResting_7 dk_2 fl_0_44 (by decide) rfl rfl rfl ?_
    refine ev_icmp_ge 50 13 dX0_isResting_10 rfl rfl (fun c6 => ?_) (fun c6 => ?_)
    · replace h := rx_if_t c6 h
      refine ev_iconst (v := 1) 51 dX0_isResting_50 (by decide) rfl ?_
      exact ev_zreturn dX0_isResting_51 rfl (by decide) (rx_ret_i h)
    · replace h := rx_if_f c6 h
      refine ev_iload_n (i := 1) 14 dX0_isResting_13 rfl rfl rfl ?_
      refine ev_iconst (v := 1) 15 dX0_isResting_14 (by decide) rfl ?_
      refine ev_iload_n (i := 2) 16 dX0_isResting_15 rfl rfl rfl ?_
      refine ev_ishl 17 dX0_isResting_16 rfl ?_
      refine ev_ixor 18 dX0_isResting_17 rfl ?_
      obtain ⟨x7, ex7, h⟩ := rx_let_o h
      refine ev_nm ex7 ?_
      refine ev_istore_n (ls' := [some (.ref 88), some (.int x3), some (.int x4), some (.int x7)]) 19 dX0_isResting_18 rfl (Nat.le_of_ble_eq_true rfl) rfl rfl ?_
      refine ev_aload_n (i := 0) 20 dX0_isResting_19 rfl rfl rfl ?_
      refine ev_get (v := .ref 90) 23 dX0_isResting_20 dk_88 fl_0_15 (by decide) rfl rfl rfl ?_
      refine ev_iload_n (i := 3) 24 dX0_isResting_23 rfl rfl rfl ?_
      refine ev_iconst (v := 4) 25 dX0_isResting_24 (by decide) rfl ?_
      refine ev_imul 26 dX0_isResting_25 rfl ?_
      refine ev_iload_n (i := 2) 27 dX0_isResting_26 rfl rfl rfl ?_
      refine ev_iadd 28 dX0_isResting_27 rfl ?_
      obtain ⟨g8, h⟩ := rx_gd_o h
      refine ex_iald _ 29 dX0_isResting_28 dk_90 g8 rfl rfl ?_
      refine ev_aload_n (i := 0) 30 dX0_isResting_29 rfl rfl rfl ?_
      refine ev_get (v := .ref 90) 33 dX0_isResting_30 dk_88 fl_0_15 (by decide) rfl rfl rfl ?_
      refine ev_iload_n (i := 1) 34 dX0_isResting_33 rfl rfl rfl ?_
      refine ev_iconst (v := 4) 35 dX0_isResting_34 (by decide) rfl ?_
      refine ev_imul 36 dX0_isResting_35 rfl ?_
      refine ev_iload_n (i := 2) 37 dX0_isResting_36 rfl rfl rfl ?_
      refine ev_iadd 38 dX0_isResting_37 rfl ?_
      obtain ⟨g9, h⟩ := rx_gd_o h
      refine ex_iald _ 39 dX0_isResting_38 dk_90 g9 rfl rfl ?_
      refine ev_icmp_le 44 42 dX0_isResting_39 rfl rfl (fun c10 => ?_) (fun c10 => ?_)
      · replace h := rx_if_t c10 h
        obtain ⟨x11, ex11, h⟩ := rx_let_o h
        refine ev_iinc (v := x11) (ls' := [some (.ref 88), some (.int x3), some (.int x11), some (.int x7)]) 47 dX0_isResting_44 rfl (by rw [ex11]; rfl) (Nat.le_of_ble_eq_true rfl) rfl rfl ?_
        refine ev_goto 2 dX0_isResting_47 rfl ?_
        exact (ih _ _ _ h).fewer (rx_le_s (rx_le_s (rx_le_s (rx_le_n rx_le_0))))
      · replace h := rx_if_f c10 h
        refine ev_iconst (v := 0) 43 dX0_isResting_42 (by decide) rfl ?_
        exact ev_zreturn dX0_isResting_43 rfl (by decide) (rx_ret_i h)

set_option maxHeartbeats 4000000 in
set_option maxRecDepth 20000 in
theorem em_X0_isResting {d N : Nat} {x1 : Int32} {S0 : rx_S} {zr : Int32} {zS : rx_S} (h : f_X0_isResting N x1 S0 = some (zr, zS)) : EM gC d mX0_isResting [.ref 88, .int x1] S0 (rx_pi zr zS) := by
  unfold f_X0_isResting at h
  show EV gC d mX0_isResting 0 [some (.ref 88), some (.int x1), none, none] [] S0 (rx_pi zr zS)
  refine ev_iconst (v := 0) 1 dX0_isResting_0 (by decide) rfl ?_
  refine ev_istore_n (ls' := [some (.ref 88), some (.int x1), some (.int 0), none]) 2 dX0_isResting_1 rfl (Nat.le_of_ble_eq_true rfl) rfl rfl ?_
  exact (em_X0_isResting_L2 _ _ _ _ h).fewer (rx_le_s (rx_le_s (rx_le_s (rx_le_n rx_le_0))))

def f_X0_restingOaths_L4 (N : Nat) (K41 : Int32 → Int32 → rx_S → Option (Int32 × rx_S)) : Nat → Int32 → Int32 → Int32 → rx_S → Option (Int32 × rx_S)
  | 0, _, _, _, _ => none
  | n + 1, x7, x8, x9, S10 => if ((1 : Int32) <<< ((S10.1 2 8) &&& 31)) ≤ x9 then (K41 x7 x8 S10) else (rx_bd (f_X0_isResting N x9 S10) (fun x16 S15 => if x16 = 0 then (rx_let (x9 + 1) (fun x19 => f_X0_restingOaths_L4 N K41 n x7 x8 x19 S15)) else (if x8 = x7 then (some (x9, S15)) else (rx_let (x8 + 1) (fun x21 => rx_let (x9 + 1) (fun x22 => f_X0_restingOaths_L4 N K41 n x7 x21 x22 S15))))))
def f_X0_restingOaths (N : Nat) (x1 : Int32) (S0 : rx_S) : Option (Int32 × rx_S) := rx_let (fun (x3 : Int32) (x4 : Int32) (S5 : rx_S) => if x3 = (-1) then (some (x4, S5)) else (some ((-1), S5))) (fun J41_1 => f_X0_restingOaths_L4 N J41_1 N x1 0 0 S0)
set_option maxHeartbeats 4000000 in
set_option maxRecDepth 20000 in
theorem em_X0_restingOaths_L4 {d N : Nat} {K41 : Int32 → Int32 → rx_S → Option (Int32 × rx_S)} {zr : Int32} {zS : rx_S} (hK41 : ∀ (x11 : Int32) (x12 : Int32) (S13 : rx_S), K41 x11 x12 S13 = some (zr, zS) → EV gC (d + 1) mX0_restingOaths 41 [some (.ref 88), some (.int x11), some (.int x12), none] [] S13 (rx_pi zr zS)) : ∀ (n : Nat) (x7 : Int32) (x8 : Int32) (x9 : Int32) (S10 : rx_S), f_X0_restingOaths_L4 N K41 n x7 x8 x9 S10 = some (zr, zS) → EV gC (d + 1) mX0_restingOaths 4 [some (.ref 88), some (.int x7), some (.int x8), some (.int x9)] [] S10 (rx_pi zr zS) := by
  intro n
  induction n with
  | zero => intro x7 x8 x9 S10 h; cases h
  | succ n ih =>
    intro x7 x8 x9 S10 h
    rw [f_X0_restingOaths_L4] at h
    refine ev_iload_n (i := 3) 5 dX0_restingOaths_4 rfl rfl rfl ?_
    refine ev_iconst (v := 1) 6 dX0_restingOaths_5 (by decide) rfl ?_
    refine ev_aload_n (i := 0) 7 dX0_restingOaths_6 rfl rfl rfl ?_
    refine ev_get (v := .ref 2) 10 dX0_restingOaths_7 dk_88 fl_0_18 (by decide) rfl rfl rfl ?_
    refine ev_get (v := .int (S10.1 2 8)) 13 dX0_restingOaths_10 dk_2 fl_0_44 (by decide) rfl rfl rfl ?_
    refine ev_ishl 14 dX0_restingOaths_13 rfl ?_
    refine ev_icmp_ge 41 17 dX0_restingOaths_14 rfl rfl (fun c14 => ?_) (fun c14 => ?_)
    · replace h := rx_if_t c14 h
      exact (hK41 _ _ _ h).fewer (rx_le_s (rx_le_s (rx_le_s (rx_le_n rx_le_0))))
    · replace h := rx_if_f c14 h
      refine ev_aload_n (i := 0) 18 dX0_restingOaths_17 rfl rfl rfl ?_
      refine ev_iload_n (i := 3) 19 dX0_restingOaths_18 rfl rfl rfl ?_
      obtain ⟨x16, S15, g17, h⟩ := rx_bd_o h
      refine ev_cVi1 22 dX0_restingOaths_19 (em_X0_isResting g17) mm_X0_isResting mv_X0_isResting lk_0_47 dk_88 (by decide) rfl (Nat.le_of_ble_eq_true rfl) (Nat.le_of_ble_eq_true rfl) rfl ?_
      refine ev_if_eq 35 25 dX0_restingOaths_22 rfl rfl (fun c18 => ?_) (fun c18 => ?_)
      · replace h := rx_if_t c18 h
        obtain ⟨x19, ex19, h⟩ := rx_let_o h
        refine ev_iinc (v := x19) (ls' := [some (.ref 88), some (.int x7), some (.int x8), some (.int x19)]) 38 dX0_restingOaths_35 rfl (by rw [ex19]; rfl) (Nat.le_of_ble_eq_true rfl) rfl rfl ?_
        refine ev_goto 4 dX0_restingOaths_38 rfl ?_
        exact (ih _ _ _ _ h).fewer (rx_le_s (rx_le_s (rx_le_s (rx_le_s rx_le_0))))
      · replace h := rx_if_f c18 h
        refine ev_iload_n (i := 2) 26 dX0_restingOaths_25 rfl rfl rfl ?_
        refine ev_iload_n (i := 1) 27 dX0_restingOaths_26 rfl rfl rfl ?_
        refine ev_icmp_ne 32 30 dX0_restingOaths_27 rfl rfl (fun c20 => ?_) (fun c20 => ?_)
        · replace h := rx_if_f c20 h
          obtain ⟨x21, ex21, h⟩ := rx_let_o h
          refine ev_iinc (v := x21) (ls' := [some (.ref 88), some (.int x7), some (.int x21), some (.int x9)]) 35 dX0_restingOaths_32 rfl (by rw [ex21]; rfl) (Nat.le_of_ble_eq_true rfl) rfl rfl ?_
          obtain ⟨x22, ex22, h⟩ := rx_let_o h
          refine ev_iinc (v := x22) (ls' := [some (.ref 88), some (.int x7), some (.int x21), some (.int x22)]) 38 dX0_restingOaths_35 rfl (by rw [ex22]; rfl) (Nat.le_of_ble_eq_true rfl) rfl rfl ?_
          refine ev_goto 4 dX0_restingOaths_38 rfl ?_
          exact (ih _ _ _ _ h).fewer (rx_le_s (rx_le_s (rx_le_s (rx_le_s rx_le_0))))
        · replace h := rx_if_t c20 h
          refine ev_iload_n (i := 3) 31 dX0_restingOaths_30 rfl rfl rfl ?_
          exact ev_ireturn dX0_restingOaths_31 rfl (rx_ret_i h)

set_option maxHeartbeats 4000000 in
set_option maxRecDepth 20000 in
theorem em_X0_restingOaths {d N : Nat} {x1 : Int32} {S0 : rx_S} {zr : Int32} {zS : rx_S} (h : f_X0_restingOaths N x1 S0 = some (zr, zS)) : EM gC (d + 1) mX0_restingOaths [.ref 88, .int x1] S0 (rx_pi zr zS) := by
  unfold f_X0_restingOaths at h
  show EV gC (d + 1) mX0_restingOaths 0 [some (.ref 88), some (.int x1), none, none] [] S0 (rx_pi zr zS)
  refine ev_iconst (v := 0) 1 dX0_restingOaths_0 (by decide) rfl ?_
  refine ev_istore_n (ls' := [some (.ref 88), some (.int x1), some (.int 0), none]) 2 dX0_restingOaths_1 rfl (Nat.le_of_ble_eq_true rfl) rfl rfl ?_
  refine ev_iconst (v := 0) 3 dX0_restingOaths_2 (by decide) rfl ?_
  refine ev_istore_n (ls' := [some (.ref 88), some (.int x1), some (.int 0), some (.int 0)]) 4 dX0_restingOaths_3 rfl (Nat.le_of_ble_eq_true rfl) rfl rfl ?_
  obtain ⟨J41_1, eJ41_1, h⟩ := rx_let_o h
  have hJ41_1 : ∀ (x3 : Int32) (x4 : Int32) (S5 : rx_S), J41_1 x3 x4 S5 = some (zr, zS) → EV gC (d + 1) mX0_restingOaths 41 [some (.ref 88), some (.int x3), some (.int x4), none] [] S5 (rx_pi zr zS) := by
    intro x3 x4 S5 h
    subst eJ41_1
    refine ev_iload_n (i := 1) 42 dX0_restingOaths_41 rfl rfl rfl ?_
    refine ev_iconst (v := (-1)) 43 dX0_restingOaths_42 (by decide) rfl ?_
    refine ev_icmp_ne 50 46 dX0_restingOaths_43 rfl rfl (fun c6 => ?_) (fun c6 => ?_)
    · replace h := rx_if_f c6 h
      refine ev_iconst (v := (-1)) 51 dX0_restingOaths_50 (by decide) rfl ?_
      exact ev_ireturn dX0_restingOaths_51 rfl (rx_ret_i h)
    · replace h := rx_if_t c6 h
      refine ev_iload_n (i := 2) 47 dX0_restingOaths_46 rfl rfl rfl ?_
      refine ev_goto 51 dX0_restingOaths_47 rfl ?_
      exact ev_ireturn dX0_restingOaths_51 rfl (rx_ret_i h)
  exact (em_X0_restingOaths_L4 hJ41_1 _ _ _ _ _ h).fewer (rx_le_s (rx_le_s (rx_le_s (rx_le_s rx_le_0))))

def f_X1_clear (S0 : rx_S) : Option (Unit × rx_S) := rx_let (rx_ui S0 91 4 0) (fun S2 => some ((), S2))
set_option maxHeartbeats 4000000 in
set_option maxRecDepth 20000 in
theorem em_X1_clear {d : Nat} {S0 : rx_S} {zr : Unit} {zS : rx_S} (h : f_X1_clear S0 = some (zr, zS)) : EM gC d mX1_clear [.ref 91] S0 (rx_pv zS) := by
  unfold f_X1_clear at h
  show EV gC d mX1_clear 0 [some (.ref 91)] [] S0 (rx_pv zS)
  refine ev_aload_n (i := 0) 1 dX1_clear_0 rfl rfl rfl ?_
  refine ev_iconst (v := 0) 2 dX1_clear_1 (by decide) rfl ?_
  obtain ⟨S2, eS2, h⟩ := rx_let_o h
  refine ex_put 5 dX1_clear_2 dk_91 fl_1_26 pp_1_4 (by decide) rfl rfl rfl rfl eS2 ?_
  exact ev_return dX1_clear_5 rfl (rx_ret_v h)

def f_X1_add (x1 : Int32) (x2 : Int32) (S0 : rx_S) : Option (Int32 × rx_S) := if (S0.1 91 4) < 0 then (some ((-1), S0)) else (if (S0.1 91 4) < 20 then (rx_gd (S0.1 91 4) 20 (rx_let (rx_ui S0 92 (Int32.toNatClampNeg (S0.1 91 4)) x1) (fun S7 => rx_gd (S7.1 91 4) 20 (rx_let (rx_ui S7 93 (Int32.toNatClampNeg (S7.1 91 4)) x2) (fun S9 => rx_let (rx_ui S9 91 4 ((S9.1 91 4) + 1)) (fun S10 => some (((S10.1 91 4) - 1), S10))))))) else (some ((-1), S0)))
set_option maxHeartbeats 4000000 in
set_option maxRecDepth 20000 in
theorem em_X1_add {d : Nat} {x1 : Int32} {x2 : Int32} {S0 : rx_S} {zr : Int32} {zS : rx_S} (h : f_X1_add x1 x2 S0 = some (zr, zS)) : EM gC d mX1_add [.ref 91, .int x1, .int x2] S0 (rx_pi zr zS) := by
  unfold f_X1_add at h
  show EV gC d mX1_add 0 [some (.ref 91), some (.int x1), some (.int x2)] [] S0 (rx_pi zr zS)
  refine ev_aload_n (i := 0) 1 dX1_add_0 rfl rfl rfl ?_
  refine ev_get (v := .int (S0.1 91 4)) 4 dX1_add_1 dk_91 fl_1_26 (by decide) rfl rfl rfl ?_
  refine ev_if_lt 16 7 dX1_add_4 rfl rfl (fun c4 => ?_) (fun c4 => ?_)
  · replace h := rx_if_t c4 h
    refine ev_iconst (v := (-1)) 17 dX1_add_16 (by decide) rfl ?_
    exact ev_ireturn dX1_add_17 rfl (rx_ret_i h)
  · replace h := rx_if_f c4 h
    refine ev_aload_n (i := 0) 8 dX1_add_7 rfl rfl rfl ?_
    refine ev_get (v := .int (S0.1 91 4)) 11 dX1_add_8 dk_91 fl_1_26 (by decide) rfl rfl rfl ?_
    refine ev_bipush (v := 20) 13 dX1_add_11 (by decide) rfl ?_
    refine ev_icmp_lt 18 16 dX1_add_13 rfl rfl (fun c5 => ?_) (fun c5 => ?_)
    · replace h := rx_if_t c5 h
      refine ev_aload_n (i := 0) 19 dX1_add_18 rfl rfl rfl ?_
      refine ev_get (v := .ref 92) 22 dX1_add_19 dk_91 fl_1_9 (by decide) rfl rfl rfl ?_
      refine ev_aload_n (i := 0) 23 dX1_add_22 rfl rfl rfl ?_
      refine ev_get (v := .int (S0.1 91 4)) 26 dX1_add_23 dk_91 fl_1_26 (by decide) rfl rfl rfl ?_
      refine ev_iload_n (i := 1) 27 dX1_add_26 rfl rfl rfl ?_
      obtain ⟨g6, h⟩ := rx_gd_o h
      obtain ⟨S7, eS7, h⟩ := rx_let_o h
      refine ex_iast _ 28 dX1_add_27 dk_92 g6 rfl rfl eS7 ?_
      refine ev_aload_n (i := 0) 29 dX1_add_28 rfl rfl rfl ?_
      refine ev_get (v := .ref 93) 32 dX1_add_29 dk_91 fl_1_15 (by decide) rfl rfl rfl ?_
      refine ev_aload_n (i := 0) 33 dX1_add_32 rfl rfl rfl ?_
      refine ev_get (v := .int (S7.1 91 4)) 36 dX1_add_33 dk_91 fl_1_26 (by decide) rfl rfl rfl ?_
      refine ev_iload_n (i := 2) 37 dX1_add_36 rfl rfl rfl ?_
      obtain ⟨g8, h⟩ := rx_gd_o h
      obtain ⟨S9, eS9, h⟩ := rx_let_o h
      refine ex_iast _ 38 dX1_add_37 dk_93 g8 rfl rfl eS9 ?_
      refine ev_aload_n (i := 0) 39 dX1_add_38 rfl rfl rfl ?_
      refine ev_dup 40 dX1_add_39 rfl rfl ?_
      refine ev_get (v := .int (S9.1 91 4)) 43 dX1_add_40 dk_91 fl_1_26 (by decide) rfl rfl rfl ?_
      refine ev_iconst (v := 1) 44 dX1_add_43 (by decide) rfl ?_
      refine ev_iadd 45 dX1_add_44 rfl ?_
      obtain ⟨S10, eS10, h⟩ := rx_let_o h
      refine ex_put 48 dX1_add_45 dk_91 fl_1_26 pp_1_4 (by decide) rfl rfl rfl rfl eS10 ?_
      refine ev_aload_n (i := 0) 49 dX1_add_48 rfl rfl rfl ?_
      refine ev_get (v := .int (S10.1 91 4)) 52 dX1_add_49 dk_91 fl_1_26 (by decide) rfl rfl rfl ?_
      refine ev_iconst (v := 1) 53 dX1_add_52 (by decide) rfl ?_
      refine ev_isub 54 dX1_add_53 rfl ?_
      exact ev_ireturn dX1_add_54 rfl (rx_ret_i h)
    · replace h := rx_if_f c5 h
      refine ev_iconst (v := (-1)) 17 dX1_add_16 (by decide) rfl ?_
      exact ev_ireturn dX1_add_17 rfl (rx_ret_i h)

def f_X1_isKnown (x1 : Int32) (S0 : rx_S) : Option (Int32 × rx_S) := if x1 < 0 then (some (0, S0)) else (if (S0.1 91 4) < x1 then (some (0, S0)) else (some (1, S0)))
set_option maxHeartbeats 4000000 in
set_option maxRecDepth 20000 in
theorem em_X1_isKnown {d : Nat} {x1 : Int32} {S0 : rx_S} {zr : Int32} {zS : rx_S} (h : f_X1_isKnown x1 S0 = some (zr, zS)) : EM gC d mX1_isKnown [.ref 91, .int x1] S0 (rx_pi zr zS) := by
  unfold f_X1_isKnown at h
  show EV gC d mX1_isKnown 0 [some (.ref 91), some (.int x1)] [] S0 (rx_pi zr zS)
  refine ev_iload_n (i := 1) 1 dX1_isKnown_0 rfl rfl rfl ?_
  refine ev_if_lt 16 4 dX1_isKnown_1 rfl rfl (fun c3 => ?_) (fun c3 => ?_)
  · replace h := rx_if_t c3 h
    refine ev_iconst (v := 0) 17 dX1_isKnown_16 (by decide) rfl ?_
    exact ev_zreturn dX1_isKnown_17 rfl (by decide) (rx_ret_i h)
  · replace h := rx_if_f c3 h
    refine ev_iload_n (i := 1) 5 dX1_isKnown_4 rfl rfl rfl ?_
    refine ev_aload_n (i := 0) 6 dX1_isKnown_5 rfl rfl rfl ?_
    refine ev_get (v := .int (S0.1 91 4)) 9 dX1_isKnown_6 dk_91 fl_1_26 (by decide) rfl rfl rfl ?_
    refine ev_icmp_gt 16 12 dX1_isKnown_9 rfl rfl (fun c4 => ?_) (fun c4 => ?_)
    · replace h := rx_if_t c4 h
      refine ev_iconst (v := 0) 17 dX1_isKnown_16 (by decide) rfl ?_
      exact ev_zreturn dX1_isKnown_17 rfl (by decide) (rx_ret_i h)
    · replace h := rx_if_f c4 h
      refine ev_iconst (v := 1) 13 dX1_isKnown_12 (by decide) rfl ?_
      refine ev_goto 17 dX1_isKnown_13 rfl ?_
      exact ev_zreturn dX1_isKnown_17 rfl (by decide) (rx_ret_i h)

def f_X7_putWord (k : Nat) (N : Nat) (x2 : Int32) (x3 : Int32) (x4 : Int32) (S0 : rx_S) : Option (Int32 × rx_S) := rx_gd ((36 : Int32) + x2) 48 (rx_let (fun (x7 : Int32) (x8 : Int32) (x9 : Int32) (S10 : rx_S) => rx_bd (f_X7_askToBend k N x7 S10) (fun x12 S11 => rx_bd (f_X7_bentWord N x8 x9 S11) (fun x15 S14 => some (x15, S14)))) (fun J20_1 => if (S0.1 k (Int32.toNatClampNeg ((36 : Int32) + x2))) = 0 then (J20_1 x2 x3 x4 S0) else (rx_bd (f_X7_isDaring k N x2 S0) (fun x19 S18 => if x19 = 0 then (some (x3, S18)) else (J20_1 x2 x3 x4 S18)))))
set_option maxHeartbeats 4000000 in
set_option maxRecDepth 20000 in
theorem em_X7_putWord_32 {d N : Nat} {x2 : Int32} {x3 : Int32} {x4 : Int32} {S0 : rx_S} {zr : Int32} {zS : rx_S} (h : f_X7_putWord 32 N x2 x3 x4 S0 = some (zr, zS)) : EM gC (d + 3) mX7_putWord [.ref 80, .ref 32, .int x2, .int x3, .int x4] S0 (rx_pi zr zS) := by
  unfold f_X7_putWord at h
  show EV gC (d + 3) mX7_putWord 0 [some (.ref 80), some (.ref 32), some (.int x2), some (.int x3), some (.int x4)] [] S0 (rx_pi zr zS)
  refine ev_aload_n (i := 1) 1 dX7_putWord_0 rfl rfl rfl ?_
  refine ev_bipush (v := 36) 3 dX7_putWord_1 (by decide) rfl ?_
  refine ev_iload_n (i := 2) 4 dX7_putWord_3 rfl rfl rfl ?_
  refine ev_iadd 5 dX7_putWord_4 rfl ?_
  obtain ⟨g6, h⟩ := rx_gd_o h
  refine ex_iald _ 6 dX7_putWord_5 dk_32 g6 rfl rfl ?_
  obtain ⟨J20_1, eJ20_1, h⟩ := rx_let_o h
  have hJ20_1 : ∀ (x7 : Int32) (x8 : Int32) (x9 : Int32) (S10 : rx_S), J20_1 x7 x8 x9 S10 = some (zr, zS) → EV gC (d + 3) mX7_putWord 20 [some (.ref 80), some (.ref 32), some (.int x7), some (.int x8), some (.int x9)] [] S10 (rx_pi zr zS) := by
    intro x7 x8 x9 S10 h
    subst eJ20_1
    refine ev_aload_n (i := 0) 21 dX7_putWord_20 rfl rfl rfl ?_
    refine ev_aload_n (i := 1) 22 dX7_putWord_21 rfl rfl rfl ?_
    refine ev_iload_n (i := 2) 23 dX7_putWord_22 rfl rfl rfl ?_
    obtain ⟨x12, S11, g13, h⟩ := rx_bd_o h
    refine ev_cVv2 26 dX7_putWord_23 (em_X7_askToBend_32 g13) mm_X7_askToBend mv_X7_askToBend lk_7_61 dk_80 (by decide) rfl (Nat.le_of_ble_eq_true rfl) (Nat.le_of_ble_eq_true rfl) rfl ?_
    refine ev_aload_n (i := 0) 27 dX7_putWord_26 rfl rfl rfl ?_
    refine ev_iload_n (i := 3) 28 dX7_putWord_27 rfl rfl rfl ?_
    refine ev_iload 30 dX7_putWord_28 rfl rfl ?_
    obtain ⟨x15, S14, g16, h⟩ := rx_bd_o h
    refine ev_cVi2 33 dX7_putWord_30 (em_X7_bentWord g16) mm_X7_bentWord mv_X7_bentWord lk_7_64 dk_80 (by decide) rfl (Nat.le_of_ble_eq_true rfl) (Nat.le_of_ble_eq_true rfl) rfl ?_
    exact ev_ireturn dX7_putWord_33 rfl (rx_ret_i h)
  refine ev_if_eq 20 9 dX7_putWord_6 rfl rfl (fun c17 => ?_) (fun c17 => ?_)
  · replace h := rx_if_t c17 h
    exact (hJ20_1 _ _ _ _ h).fewer (rx_le_s (rx_le_s (rx_le_s (rx_le_s (rx_le_s rx_le_0)))))
  · replace h := rx_if_f c17 h
    refine ev_aload_n (i := 0) 10 dX7_putWord_9 rfl rfl rfl ?_
    refine ev_aload_n (i := 1) 11 dX7_putWord_10 rfl rfl rfl ?_
    refine ev_iload_n (i := 2) 12 dX7_putWord_11 rfl rfl rfl ?_
    obtain ⟨x19, S18, g20, h⟩ := rx_bd_o h
    refine ev_cVi2 15 dX7_putWord_12 (em_X7_isDaring_32 g20) mm_X7_isDaring mv_X7_isDaring lk_7_57 dk_80 (by decide) rfl (Nat.le_of_ble_eq_true rfl) (Nat.le_of_ble_eq_true rfl) rfl ?_
    refine ev_if_ne 20 18 dX7_putWord_15 rfl rfl (fun c21 => ?_) (fun c21 => ?_)
    · replace h := rx_if_f c21 h
      exact (hJ20_1 _ _ _ _ h).fewer (rx_le_s (rx_le_s (rx_le_s (rx_le_s (rx_le_s rx_le_0)))))
    · replace h := rx_if_t c21 h
      refine ev_iload_n (i := 3) 19 dX7_putWord_18 rfl rfl rfl ?_
      exact ev_ireturn dX7_putWord_19 rfl (rx_ret_i h)

set_option maxHeartbeats 4000000 in
set_option maxRecDepth 20000 in
theorem em_X7_putWord_89 {d N : Nat} {x2 : Int32} {x3 : Int32} {x4 : Int32} {S0 : rx_S} {zr : Int32} {zS : rx_S} (h : f_X7_putWord 89 N x2 x3 x4 S0 = some (zr, zS)) : EM gC (d + 3) mX7_putWord [.ref 80, .ref 89, .int x2, .int x3, .int x4] S0 (rx_pi zr zS) := by
  unfold f_X7_putWord at h
  show EV gC (d + 3) mX7_putWord 0 [some (.ref 80), some (.ref 89), some (.int x2), some (.int x3), some (.int x4)] [] S0 (rx_pi zr zS)
  refine ev_aload_n (i := 1) 1 dX7_putWord_0 rfl rfl rfl ?_
  refine ev_bipush (v := 36) 3 dX7_putWord_1 (by decide) rfl ?_
  refine ev_iload_n (i := 2) 4 dX7_putWord_3 rfl rfl rfl ?_
  refine ev_iadd 5 dX7_putWord_4 rfl ?_
  obtain ⟨g6, h⟩ := rx_gd_o h
  refine ex_iald _ 6 dX7_putWord_5 dk_89 g6 rfl rfl ?_
  obtain ⟨J20_1, eJ20_1, h⟩ := rx_let_o h
  have hJ20_1 : ∀ (x7 : Int32) (x8 : Int32) (x9 : Int32) (S10 : rx_S), J20_1 x7 x8 x9 S10 = some (zr, zS) → EV gC (d + 3) mX7_putWord 20 [some (.ref 80), some (.ref 89), some (.int x7), some (.int x8), some (.int x9)] [] S10 (rx_pi zr zS) := by
    intro x7 x8 x9 S10 h
    subst eJ20_1
    refine ev_aload_n (i := 0) 21 dX7_putWord_20 rfl rfl rfl ?_
    refine ev_aload_n (i := 1) 22 dX7_putWord_21 rfl rfl rfl ?_
    refine ev_iload_n (i := 2) 23 dX7_putWord_22 rfl rfl rfl ?_
    obtain ⟨x12, S11, g13, h⟩ := rx_bd_o h
    refine ev_cVv2 26 dX7_putWord_23 (em_X7_askToBend_89 g13) mm_X7_askToBend mv_X7_askToBend lk_7_61 dk_80 (by decide) rfl (Nat.le_of_ble_eq_true rfl) (Nat.le_of_ble_eq_true rfl) rfl ?_
    refine ev_aload_n (i := 0) 27 dX7_putWord_26 rfl rfl rfl ?_
    refine ev_iload_n (i := 3) 28 dX7_putWord_27 rfl rfl rfl ?_
    refine ev_iload 30 dX7_putWord_28 rfl rfl ?_
    obtain ⟨x15, S14, g16, h⟩ := rx_bd_o h
    refine ev_cVi2 33 dX7_putWord_30 (em_X7_bentWord g16) mm_X7_bentWord mv_X7_bentWord lk_7_64 dk_80 (by decide) rfl (Nat.le_of_ble_eq_true rfl) (Nat.le_of_ble_eq_true rfl) rfl ?_
    exact ev_ireturn dX7_putWord_33 rfl (rx_ret_i h)
  refine ev_if_eq 20 9 dX7_putWord_6 rfl rfl (fun c17 => ?_) (fun c17 => ?_)
  · replace h := rx_if_t c17 h
    exact (hJ20_1 _ _ _ _ h).fewer (rx_le_s (rx_le_s (rx_le_s (rx_le_s (rx_le_s rx_le_0)))))
  · replace h := rx_if_f c17 h
    refine ev_aload_n (i := 0) 10 dX7_putWord_9 rfl rfl rfl ?_
    refine ev_aload_n (i := 1) 11 dX7_putWord_10 rfl rfl rfl ?_
    refine ev_iload_n (i := 2) 12 dX7_putWord_11 rfl rfl rfl ?_
    obtain ⟨x19, S18, g20, h⟩ := rx_bd_o h
    refine ev_cVi2 15 dX7_putWord_12 (em_X7_isDaring_89 g20) mm_X7_isDaring mv_X7_isDaring lk_7_57 dk_80 (by decide) rfl (Nat.le_of_ble_eq_true rfl) (Nat.le_of_ble_eq_true rfl) rfl ?_
    refine ev_if_ne 20 18 dX7_putWord_15 rfl rfl (fun c21 => ?_) (fun c21 => ?_)
    · replace h := rx_if_f c21 h
      exact (hJ20_1 _ _ _ _ h).fewer (rx_le_s (rx_le_s (rx_le_s (rx_le_s (rx_le_s rx_le_0)))))
    · replace h := rx_if_t c21 h
      refine ev_iload_n (i := 3) 19 dX7_putWord_18 rfl rfl rfl ?_
      exact ev_ireturn dX7_putWord_19 rfl (rx_ret_i h)

def f_X1_mayHave_L3 (N : Nat) : Nat → Int32 → Int32 → Int32 → rx_S → Option (Int32 × rx_S)
  | 0, _, _, _, _ => none
  | n + 1, x5, x6, x7, S8 => if x6 ≤ x7 then (some (1, S8)) else (if (20 : Int32) ≤ x7 then (some (1, S8)) else (rx_gd x7 20 (rx_bd (f_X7_putWord 32 N x5 (S8.1 92 (Int32.toNatClampNeg x7)) 0 S8) (fun x13 S12 => rx_let (fun (x15 : Int32) (x16 : Int32) (x17 : Int32) (x18 : Int32) (S19 : rx_S) => rx_gd x17 20 (if x18 = (S19.1 93 (Int32.toNatClampNeg x17)) then (rx_let (x17 + 1) (fun x22 => f_X1_mayHave_L3 N n x15 x16 x22 S19)) else (some (0, S19)))) (fun J52_1 => if x13 = 8 then (J52_1 x5 x6 x7 1 S12) else (rx_bd (f_X5_with 1 x13 S12) (fun x25 S24 => J52_1 x5 x6 x7 x25 S24)))))))
def f_X1_mayHave (N : Nat) (x2 : Int32) (x3 : Int32) (S0 : rx_S) : Option (Int32 × rx_S) := f_X1_mayHave_L3 N N x2 x3 0 S0
set_option maxHeartbeats 4000000 in
set_option maxRecDepth 20000 in
theorem em_X1_mayHave_L3 {d N : Nat} {zr : Int32} {zS : rx_S} : ∀ (n : Nat) (x5 : Int32) (x6 : Int32) (x7 : Int32) (S8 : rx_S), f_X1_mayHave_L3 N n x5 x6 x7 S8 = some (zr, zS) → EV gC (d + 4) mX1_mayHave 3 [some (.ref 91), some (.ref 32), some (.int x5), some (.int x6), some (.int x7), none] [] S8 (rx_pi zr zS) := by
  intro n
  induction n with
  | zero => intro x5 x6 x7 S8 h; cases h
  | succ n ih =>
    intro x5 x6 x7 S8 h
    rw [f_X1_mayHave_L3] at h
    refine ev_iload 5 dX1_mayHave_3 rfl rfl ?_
    refine ev_iload_n (i := 3) 6 dX1_mayHave_5 rfl rfl rfl ?_
    refine ev_icmp_ge 70 9 dX1_mayHave_6 rfl rfl (fun c9 => ?_) (fun c9 => ?_)
    · replace h := rx_if_t c9 h
      refine ev_iconst (v := 1) 71 dX1_mayHave_70 (by decide) rfl ?_
      exact ev_zreturn dX1_mayHave_71 rfl (by decide) (rx_ret_i h)
    · replace h := rx_if_f c9 h
      refine ev_iload 11 dX1_mayHave_9 rfl rfl ?_
      refine ev_bipush (v := 20) 13 dX1_mayHave_11 (by decide) rfl ?_
      refine ev_icmp_ge 70 16 dX1_mayHave_13 rfl rfl (fun c10 => ?_) (fun c10 => ?_)
      · replace h := rx_if_t c10 h
        refine ev_iconst (v := 1) 71 dX1_mayHave_70 (by decide) rfl ?_
        exact ev_zreturn dX1_mayHave_71 rfl (by decide) (rx_ret_i h)
      · replace h := rx_if_f c10 h
        refine ev_aload_n (i := 0) 17 dX1_mayHave_16 rfl rfl rfl ?_
        refine ev_get (v := .ref 80) 20 dX1_mayHave_17 dk_91 fl_1_22 (by decide) rfl rfl rfl ?_
        refine ev_aload_n (i := 1) 21 dX1_mayHave_20 rfl rfl rfl ?_
        refine ev_iload_n (i := 2) 22 dX1_mayHave_21 rfl rfl rfl ?_
        refine ev_aload_n (i := 0) 23 dX1_mayHave_22 rfl rfl rfl ?_
        refine ev_get (v := .ref 92) 26 dX1_mayHave_23 dk_91 fl_1_9 (by decide) rfl rfl rfl ?_
        refine ev_iload 28 dX1_mayHave_26 rfl rfl ?_
        obtain ⟨g11, h⟩ := rx_gd_o h
        refine ex_iald _ 29 dX1_mayHave_28 dk_92 g11 rfl rfl ?_
        refine ev_iconst (v := 0) 30 dX1_mayHave_29 (by decide) rfl ?_
        obtain ⟨x13, S12, g14, h⟩ := rx_bd_o h
        refine ev_cVi4 33 dX1_mayHave_30 (em_X7_putWord_32 g14) mm_X7_putWord mv_X7_putWord lk_1_39 dk_80 (by decide) rfl (Nat.le_of_ble_eq_true rfl) (Nat.le_of_ble_eq_true rfl) rfl ?_
        refine ev_istore (ls' := [some (.ref 91), some (.ref 32), some (.int x5), some (.int x6), some (.int x7), some (.int x13)]) 35 dX1_mayHave_33 (Nat.le_of_ble_eq_true rfl) rfl rfl ?_
        refine ev_iload 37 dX1_mayHave_35 rfl rfl ?_
        refine ev_bipush (v := 8) 39 dX1_mayHave_37 (by decide) rfl ?_
        obtain ⟨J52_1, eJ52_1, h⟩ := rx_let_o h
        have hJ52_1 : ∀ (x15 : Int32) (x16 : Int32) (x17 : Int32) (x18 : Int32) (S19 : rx_S), J52_1 x15 x16 x17 x18 S19 = some (zr, zS) → EV gC (d + 4) mX1_mayHave 52 [some (.ref 91), some (.ref 32), some (.int x15), some (.int x16), some (.int x17), none] [.int x18] S19 (rx_pi zr zS) := by
          intro x15 x16 x17 x18 S19 h
          subst eJ52_1
          refine ev_aload_n (i := 0) 53 dX1_mayHave_52 rfl rfl rfl ?_
          refine ev_get (v := .ref 93) 56 dX1_mayHave_53 dk_91 fl_1_15 (by decide) rfl rfl rfl ?_
          refine ev_iload 58 dX1_mayHave_56 rfl rfl ?_
          obtain ⟨g20, h⟩ := rx_gd_o h
          refine ex_iald _ 59 dX1_mayHave_58 dk_93 g20 rfl rfl ?_
          refine ev_icmp_eq 64 62 dX1_mayHave_59 rfl rfl (fun c21 => ?_) (fun c21 => ?_)
          · replace h := rx_if_t c21 h
            obtain ⟨x22, ex22, h⟩ := rx_let_o h
            refine ev_iinc (v := x22) (ls' := [some (.ref 91), some (.ref 32), some (.int x15), some (.int x16), some (.int x22), none]) 67 dX1_mayHave_64 rfl (by rw [ex22]; rfl) (Nat.le_of_ble_eq_true rfl) rfl rfl ?_
            refine ev_goto 3 dX1_mayHave_67 rfl ?_
            exact (ih _ _ _ _ h).fewer (rx_le_s (rx_le_s (rx_le_s (rx_le_s (rx_le_s (rx_le_n rx_le_0))))))
          · replace h := rx_if_f c21 h
            refine ev_iconst (v := 0) 63 dX1_mayHave_62 (by decide) rfl ?_
            exact ev_zreturn dX1_mayHave_63 rfl (by decide) (rx_ret_i h)
        refine ev_icmp_ne 46 42 dX1_mayHave_39 rfl rfl (fun c23 => ?_) (fun c23 => ?_)
        · replace h := rx_if_f c23 h
          refine ev_iconst (v := 1) 47 dX1_mayHave_46 (by decide) rfl ?_
          refine ev_iload 49 dX1_mayHave_47 rfl rfl ?_
          obtain ⟨x25, S24, g26, h⟩ := rx_bd_o h
          refine ev_cSi2 52 dX1_mayHave_49 (em_X5_with g26) mm_X5_with ms_X5_with lk_1_45 (Nat.le_of_ble_eq_true rfl) (Nat.le_of_ble_eq_true rfl) rfl ?_
          exact (hJ52_1 _ _ _ _ _ h).fewer (rx_le_s (rx_le_s (rx_le_s (rx_le_s (rx_le_s (rx_le_n rx_le_0))))))
        · replace h := rx_if_t c23 h
          refine ev_iconst (v := 1) 43 dX1_mayHave_42 (by decide) rfl ?_
          refine ev_goto 52 dX1_mayHave_43 rfl ?_
          exact (hJ52_1 _ _ _ _ _ h).fewer (rx_le_s (rx_le_s (rx_le_s (rx_le_s (rx_le_s (rx_le_n rx_le_0))))))

set_option maxHeartbeats 4000000 in
set_option maxRecDepth 20000 in
theorem em_X1_mayHave {d N : Nat} {x2 : Int32} {x3 : Int32} {S0 : rx_S} {zr : Int32} {zS : rx_S} (h : f_X1_mayHave N x2 x3 S0 = some (zr, zS)) : EM gC (d + 4) mX1_mayHave [.ref 91, .ref 32, .int x2, .int x3] S0 (rx_pi zr zS) := by
  unfold f_X1_mayHave at h
  show EV gC (d + 4) mX1_mayHave 0 [some (.ref 91), some (.ref 32), some (.int x2), some (.int x3), none, none] [] S0 (rx_pi zr zS)
  refine ev_iconst (v := 0) 1 dX1_mayHave_0 (by decide) rfl ?_
  refine ev_istore (ls' := [some (.ref 91), some (.ref 32), some (.int x2), some (.int x3), some (.int 0), none]) 3 dX1_mayHave_1 (Nat.le_of_ble_eq_true rfl) rfl rfl ?_
  exact (em_X1_mayHave_L3 _ _ _ _ _ h).fewer (rx_le_s (rx_le_s (rx_le_s (rx_le_s (rx_le_s (rx_le_n rx_le_0))))))

def f_X1_candidates_L5 (N : Nat) : Nat → Int32 → Int32 → Int32 → rx_S → Option (Int32 × rx_S)
  | 0, _, _, _, _ => none
  | n + 1, x4, x5, x6, S7 => if (S7.1 2 8) ≤ x6 then (some (x5, S7)) else (rx_bd (f_X1_mayHave N x6 x4 S7) (fun x10 S9 => if x10 = 0 then (rx_let (x6 + 1) (fun x13 => f_X1_candidates_L5 N n x4 x5 x13 S9)) else (rx_let (x5 ||| ((1 : Int32) <<< (x6 &&& 31))) (fun x14 => rx_let (x6 + 1) (fun x15 => f_X1_candidates_L5 N n x4 x14 x15 S9)))))
def f_X1_candidates (N : Nat) (x2 : Int32) (S0 : rx_S) : Option (Int32 × rx_S) := f_X1_candidates_L5 N N x2 0 0 S0
set_option maxHeartbeats 4000000 in
set_option maxRecDepth 20000 in
theorem em_X1_candidates_L5 {d N : Nat} {zr : Int32} {zS : rx_S} : ∀ (n : Nat) (x4 : Int32) (x5 : Int32) (x6 : Int32) (S7 : rx_S), f_X1_candidates_L5 N n x4 x5 x6 S7 = some (zr, zS) → EV gC (d + 5) mX1_candidates 5 [some (.ref 91), some (.ref 32), some (.int x4), some (.int x5), some (.int x6)] [] S7 (rx_pi zr zS) := by
  intro n
  induction n with
  | zero => intro x4 x5 x6 S7 h; cases h
  | succ n ih =>
    intro x4 x5 x6 S7 h
    rw [f_X1_candidates_L5] at h
    refine ev_iload 7 dX1_candidates_5 rfl rfl ?_
    refine ev_aload_n (i := 0) 8 dX1_candidates_7 rfl rfl rfl ?_
    refine ev_get (v := .ref 2) 11 dX1_candidates_8 dk_91 fl_1_18 (by decide) rfl rfl rfl ?_
    refine ev_get (v := .int (S7.1 2 8)) 14 dX1_candidates_11 dk_2 fl_1_30 (by decide) rfl rfl rfl ?_
    refine ev_icmp_ge 41 17 dX1_candidates_14 rfl rfl (fun c8 => ?_) (fun c8 => ?_)
    · replace h := rx_if_t c8 h
      refine ev_iload_n (i := 3) 42 dX1_candidates_41 rfl rfl rfl ?_
      exact ev_ireturn dX1_candidates_42 rfl (rx_ret_i h)
    · replace h := rx_if_f c8 h
      refine ev_aload_n (i := 0) 18 dX1_candidates_17 rfl rfl rfl ?_
      refine ev_aload_n (i := 1) 19 dX1_candidates_18 rfl rfl rfl ?_
      refine ev_iload 21 dX1_candidates_19 rfl rfl ?_
      refine ev_iload_n (i := 2) 22 dX1_candidates_21 rfl rfl rfl ?_
      obtain ⟨x10, S9, g11, h⟩ := rx_bd_o h
      refine ev_cVi3 25 dX1_candidates_22 (em_X1_mayHave g11) mm_X1_mayHave mv_X1_mayHave lk_1_35 dk_91 (by decide) rfl (Nat.le_of_ble_eq_true rfl) (Nat.le_of_ble_eq_true rfl) rfl ?_
      refine ev_if_eq 35 28 dX1_candidates_25 rfl rfl (fun c12 => ?_) (fun c12 => ?_)
      · replace h := rx_if_t c12 h
        obtain ⟨x13, ex13, h⟩ := rx_let_o h
        refine ev_iinc (v := x13) (ls' := [some (.ref 91), some (.ref 32), some (.int x4), some (.int x5), some (.int x13)]) 38 dX1_candidates_35 rfl (by rw [ex13]; rfl) (Nat.le_of_ble_eq_true rfl) rfl rfl ?_
        refine ev_goto 5 dX1_candidates_38 rfl ?_
        exact (ih _ _ _ _ h).fewer (rx_le_s (rx_le_s (rx_le_s (rx_le_s (rx_le_s rx_le_0)))))
      · replace h := rx_if_f c12 h
        refine ev_iload_n (i := 3) 29 dX1_candidates_28 rfl rfl rfl ?_
        refine ev_iconst (v := 1) 30 dX1_candidates_29 (by decide) rfl ?_
        refine ev_iload 32 dX1_candidates_30 rfl rfl ?_
        refine ev_ishl 33 dX1_candidates_32 rfl ?_
        refine ev_ior 34 dX1_candidates_33 rfl ?_
        obtain ⟨x14, ex14, h⟩ := rx_let_o h
        refine ev_nm ex14 ?_
        refine ev_istore_n (ls' := [some (.ref 91), some (.ref 32), some (.int x4), some (.int x14), some (.int x6)]) 35 dX1_candidates_34 rfl (Nat.le_of_ble_eq_true rfl) rfl rfl ?_
        obtain ⟨x15, ex15, h⟩ := rx_let_o h
        refine ev_iinc (v := x15) (ls' := [some (.ref 91), some (.ref 32), some (.int x4), some (.int x14), some (.int x15)]) 38 dX1_candidates_35 rfl (by rw [ex15]; rfl) (Nat.le_of_ble_eq_true rfl) rfl rfl ?_
        refine ev_goto 5 dX1_candidates_38 rfl ?_
        exact (ih _ _ _ _ h).fewer (rx_le_s (rx_le_s (rx_le_s (rx_le_s (rx_le_s rx_le_0)))))

set_option maxHeartbeats 4000000 in
set_option maxRecDepth 20000 in
theorem em_X1_candidates {d N : Nat} {x2 : Int32} {S0 : rx_S} {zr : Int32} {zS : rx_S} (h : f_X1_candidates N x2 S0 = some (zr, zS)) : EM gC (d + 5) mX1_candidates [.ref 91, .ref 32, .int x2] S0 (rx_pi zr zS) := by
  unfold f_X1_candidates at h
  show EV gC (d + 5) mX1_candidates 0 [some (.ref 91), some (.ref 32), some (.int x2), none, none] [] S0 (rx_pi zr zS)
  refine ev_iconst (v := 0) 1 dX1_candidates_0 (by decide) rfl ?_
  refine ev_istore_n (ls' := [some (.ref 91), some (.ref 32), some (.int x2), some (.int 0), none]) 2 dX1_candidates_1 rfl (Nat.le_of_ble_eq_true rfl) rfl rfl ?_
  refine ev_iconst (v := 0) 3 dX1_candidates_2 (by decide) rfl ?_
  refine ev_istore (ls' := [some (.ref 91), some (.ref 32), some (.int x2), some (.int 0), some (.int 0)]) 5 dX1_candidates_3 (Nat.le_of_ble_eq_true rfl) rfl rfl ?_
  exact (em_X1_candidates_L5 _ _ _ _ _ h).fewer (rx_le_s (rx_le_s (rx_le_s (rx_le_s (rx_le_s rx_le_0)))))

def f_X1_leftBy_L6 (N : Nat) : Nat → Int32 → Int32 → Int32 → Int32 → Int32 → rx_S → Option (Int32 × rx_S)
  | 0, _, _, _, _, _, _ => none
  | n + 1, x6, x7, x8, x9, x10, S11 => if (S11.1 2 8) ≤ x10 then (some (x9, S11)) else (if ((rx_ushr x6 x10) &&& 1) = 0 then (rx_let (x10 + 1) (fun x14 => f_X1_leftBy_L6 N n x6 x7 x8 x9 x14 S11)) else (rx_bd (f_X7_putWord 32 N x10 x7 0 S11) (fun x16 S15 => if x16 = x8 then (rx_let (x9 + 1) (fun x20 => rx_let (x10 + 1) (fun x21 => f_X1_leftBy_L6 N n x6 x7 x8 x20 x21 S15))) else (rx_let (x10 + 1) (fun x19 => f_X1_leftBy_L6 N n x6 x7 x8 x9 x19 S15)))))
def f_X1_leftBy (N : Nat) (x2 : Int32) (x3 : Int32) (x4 : Int32) (S0 : rx_S) : Option (Int32 × rx_S) := f_X1_leftBy_L6 N N x2 x3 x4 0 0 S0
set_option maxHeartbeats 4000000 in
set_option maxRecDepth 20000 in
theorem em_X1_leftBy_L6 {d N : Nat} {zr : Int32} {zS : rx_S} : ∀ (n : Nat) (x6 : Int32) (x7 : Int32) (x8 : Int32) (x9 : Int32) (x10 : Int32) (S11 : rx_S), f_X1_leftBy_L6 N n x6 x7 x8 x9 x10 S11 = some (zr, zS) → EV gC (d + 4) mX1_leftBy 6 [some (.ref 91), some (.ref 32), some (.int x6), some (.int x7), some (.int x8), some (.int x9), some (.int x10)] [] S11 (rx_pi zr zS) := by
  intro n
  induction n with
  | zero => intro x6 x7 x8 x9 x10 S11 h; cases h
  | succ n ih =>
    intro x6 x7 x8 x9 x10 S11 h
    rw [f_X1_leftBy_L6] at h
    refine ev_iload 8 dX1_leftBy_6 rfl rfl ?_
    refine ev_aload_n (i := 0) 9 dX1_leftBy_8 rfl rfl rfl ?_
    refine ev_get (v := .ref 2) 12 dX1_leftBy_9 dk_91 fl_1_18 (by decide) rfl rfl rfl ?_
    refine ev_get (v := .int (S11.1 2 8)) 15 dX1_leftBy_12 dk_2 fl_1_30 (by decide) rfl rfl rfl ?_
    refine ev_icmp_ge 53 18 dX1_leftBy_15 rfl rfl (fun c12 => ?_) (fun c12 => ?_)
    · replace h := rx_if_t c12 h
      refine ev_iload 55 dX1_leftBy_53 rfl rfl ?_
      exact ev_ireturn dX1_leftBy_55 rfl (rx_ret_i h)
    · replace h := rx_if_f c12 h
      refine ev_iload_n (i := 2) 19 dX1_leftBy_18 rfl rfl rfl ?_
      refine ev_iload 21 dX1_leftBy_19 rfl rfl ?_
      refine ev_ushr 22 dX1_leftBy_21 rfl ?_
      refine ev_iconst (v := 1) 23 dX1_leftBy_22 (by decide) rfl ?_
      refine ev_iand 24 dX1_leftBy_23 rfl ?_
      refine ev_if_eq 47 27 dX1_leftBy_24 rfl rfl (fun c13 => ?_) (fun c13 => ?_)
      · replace h := rx_if_t c13 h
        obtain ⟨x14, ex14, h⟩ := rx_let_o h
        refine ev_iinc (v := x14) (ls' := [some (.ref 91), some (.ref 32), some (.int x6), some (.int x7), some (.int x8), some (.int x9), some (.int x14)]) 50 dX1_leftBy_47 rfl (by rw [ex14]; rfl) (Nat.le_of_ble_eq_true rfl) rfl rfl ?_
        refine ev_goto 6 dX1_leftBy_50 rfl ?_
        exact (ih _ _ _ _ _ _ h).fewer (rx_le_s (rx_le_s (rx_le_s (rx_le_s (rx_le_s (rx_le_s (rx_le_s rx_le_0)))))))
      · replace h := rx_if_f c13 h
        refine ev_aload_n (i := 0) 28 dX1_leftBy_27 rfl rfl rfl ?_
        refine ev_get (v := .ref 80) 31 dX1_leftBy_28 dk_91 fl_1_22 (by decide) rfl rfl rfl ?_
        refine ev_aload_n (i := 1) 32 dX1_leftBy_31 rfl rfl rfl ?_
        refine ev_iload 34 dX1_leftBy_32 rfl rfl ?_
        refine ev_iload_n (i := 3) 35 dX1_leftBy_34 rfl rfl rfl ?_
        refine ev_iconst (v := 0) 36 dX1_leftBy_35 (by decide) rfl ?_
        obtain ⟨x16, S15, g17, h⟩ := rx_bd_o h
        refine ev_cVi4 39 dX1_leftBy_36 (em_X7_putWord_32 g17) mm_X7_putWord mv_X7_putWord lk_1_39 dk_80 (by decide) rfl (Nat.le_of_ble_eq_true rfl) (Nat.le_of_ble_eq_true rfl) rfl ?_
        refine ev_iload 41 dX1_leftBy_39 rfl rfl ?_
        refine ev_icmp_ne 47 44 dX1_leftBy_41 rfl rfl (fun c18 => ?_) (fun c18 => ?_)
        · replace h := rx_if_f c18 h
          obtain ⟨x19, ex19, h⟩ := rx_let_o h
          refine ev_iinc (v := x19) (ls' := [some (.ref 91), some (.ref 32), some (.int x6), some (.int x7), some (.int x8), some (.int x9), some (.int x19)]) 50 dX1_leftBy_47 rfl (by rw [ex19]; rfl) (Nat.le_of_ble_eq_true rfl) rfl rfl ?_
          refine ev_goto 6 dX1_leftBy_50 rfl ?_
          exact (ih _ _ _ _ _ _ h).fewer (rx_le_s (rx_le_s (rx_le_s (rx_le_s (rx_le_s (rx_le_s (rx_le_s rx_le_0)))))))
        · replace h := rx_if_t c18 h
          obtain ⟨x20, ex20, h⟩ := rx_let_o h
          refine ev_iinc (v := x20) (ls' := [some (.ref 91), some (.ref 32), some (.int x6), some (.int x7), some (.int x8), some (.int x20), some (.int x10)]) 47 dX1_leftBy_44 rfl (by rw [ex20]; rfl) (Nat.le_of_ble_eq_true rfl) rfl rfl ?_
          obtain ⟨x21, ex21, h⟩ := rx_let_o h
          refine ev_iinc (v := x21) (ls' := [some (.ref 91), some (.ref 32), some (.int x6), some (.int x7), some (.int x8), some (.int x20), some (.int x21)]) 50 dX1_leftBy_47 rfl (by rw [ex21]; rfl) (Nat.le_of_ble_eq_true rfl) rfl rfl ?_
          refine ev_goto 6 dX1_leftBy_50 rfl ?_
          exact (ih _ _ _ _ _ _ h).fewer (rx_le_s (rx_le_s (rx_le_s (rx_le_s (rx_le_s (rx_le_s (rx_le_s rx_le_0)))))))

set_option maxHeartbeats 4000000 in
set_option maxRecDepth 20000 in
theorem em_X1_leftBy {d N : Nat} {x2 : Int32} {x3 : Int32} {x4 : Int32} {S0 : rx_S} {zr : Int32} {zS : rx_S} (h : f_X1_leftBy N x2 x3 x4 S0 = some (zr, zS)) : EM gC (d + 4) mX1_leftBy [.ref 91, .ref 32, .int x2, .int x3, .int x4] S0 (rx_pi zr zS) := by
  unfold f_X1_leftBy at h
  show EV gC (d + 4) mX1_leftBy 0 [some (.ref 91), some (.ref 32), some (.int x2), some (.int x3), some (.int x4), none, none] [] S0 (rx_pi zr zS)
  refine ev_iconst (v := 0) 1 dX1_leftBy_0 (by decide) rfl ?_
  refine ev_istore (ls' := [some (.ref 91), some (.ref 32), some (.int x2), some (.int x3), some (.int x4), some (.int 0), none]) 3 dX1_leftBy_1 (Nat.le_of_ble_eq_true rfl) rfl rfl ?_
  refine ev_iconst (v := 0) 4 dX1_leftBy_3 (by decide) rfl ?_
  refine ev_istore (ls' := [some (.ref 91), some (.ref 32), some (.int x2), some (.int x3), some (.int x4), some (.int 0), some (.int 0)]) 6 dX1_leftBy_4 (Nat.le_of_ble_eq_true rfl) rfl rfl ?_
  exact (em_X1_leftBy_L6 _ _ _ _ _ _ _ h).fewer (rx_le_s (rx_le_s (rx_le_s (rx_le_s (rx_le_s (rx_le_s (rx_le_s rx_le_0)))))))

def f_X1_mostLeft_L6 (N : Nat) : Nat → Int32 → Int32 → Int32 → Int32 → rx_S → Option (Int32 × rx_S)
  | 0, _, _, _, _, _ => none
  | n + 1, x5, x6, x7, x8, S9 => if (S9.1 2 8) ≤ x8 then (some (x7, S9)) else (if ((rx_ushr x5 x8) &&& 1) = 0 then (rx_let (x8 + 1) (fun x12 => f_X1_mostLeft_L6 N n x5 x6 x7 x12 S9)) else (rx_bd (f_X7_putWord 32 N x8 x6 0 S9) (fun x14 S13 => rx_bd (f_X1_leftBy N x5 x6 x14 S13) (fun x17 S16 => rx_let (if x7 < x17 then x17 else x7) (fun x19 => rx_let (x8 + 1) (fun x20 => f_X1_mostLeft_L6 N n x5 x6 x19 x20 S16))))))
def f_X1_mostLeft (N : Nat) (x2 : Int32) (x3 : Int32) (S0 : rx_S) : Option (Int32 × rx_S) := f_X1_mostLeft_L6 N N x2 x3 0 0 S0
set_option maxHeartbeats 4000000 in
set_option maxRecDepth 20000 in
theorem em_X1_mostLeft_L6 {d N : Nat} {zr : Int32} {zS : rx_S} : ∀ (n : Nat) (x5 : Int32) (x6 : Int32) (x7 : Int32) (x8 : Int32) (S9 : rx_S), f_X1_mostLeft_L6 N n x5 x6 x7 x8 S9 = some (zr, zS) → EV gC (d + 5) mX1_mostLeft 6 [some (.ref 91), some (.ref 32), some (.int x5), some (.int x6), some (.int x7), some (.int x8), none] [] S9 (rx_pi zr zS) := by
  intro n
  induction n with
  | zero => intro x5 x6 x7 x8 S9 h; cases h
  | succ n ih =>
    intro x5 x6 x7 x8 S9 h
    rw [f_X1_mostLeft_L6] at h
    refine ev_iload 8 dX1_mostLeft_6 rfl rfl ?_
    refine ev_aload_n (i := 0) 9 dX1_mostLeft_8 rfl rfl rfl ?_
    refine ev_get (v := .ref 2) 12 dX1_mostLeft_9 dk_91 fl_1_18 (by decide) rfl rfl rfl ?_
    refine ev_get (v := .int (S9.1 2 8)) 15 dX1_mostLeft_12 dk_2 fl_1_30 (by decide) rfl rfl rfl ?_
    refine ev_icmp_ge 63 18 dX1_mostLeft_15 rfl rfl (fun c10 => ?_) (fun c10 => ?_)
    · replace h := rx_if_t c10 h
      refine ev_iload 65 dX1_mostLeft_63 rfl rfl ?_
      exact ev_ireturn dX1_mostLeft_65 rfl (rx_ret_i h)
    · replace h := rx_if_f c10 h
      refine ev_iload_n (i := 2) 19 dX1_mostLeft_18 rfl rfl rfl ?_
      refine ev_iload 21 dX1_mostLeft_19 rfl rfl ?_
      refine ev_ushr 22 dX1_mostLeft_21 rfl ?_
      refine ev_iconst (v := 1) 23 dX1_mostLeft_22 (by decide) rfl ?_
      refine ev_iand 24 dX1_mostLeft_23 rfl ?_
      refine ev_if_eq 57 27 dX1_mostLeft_24 rfl rfl (fun c11 => ?_) (fun c11 => ?_)
      · replace h := rx_if_t c11 h
        obtain ⟨x12, ex12, h⟩ := rx_let_o h
        refine ev_iinc (v := x12) (ls' := [some (.ref 91), some (.ref 32), some (.int x5), some (.int x6), some (.int x7), some (.int x12), none]) 60 dX1_mostLeft_57 rfl (by rw [ex12]; rfl) (Nat.le_of_ble_eq_true rfl) rfl rfl ?_
        refine ev_goto 6 dX1_mostLeft_60 rfl ?_
        exact (ih _ _ _ _ _ h).fewer (rx_le_s (rx_le_s (rx_le_s (rx_le_s (rx_le_s (rx_le_s (rx_le_n rx_le_0)))))))
      · replace h := rx_if_f c11 h
        refine ev_aload_n (i := 0) 28 dX1_mostLeft_27 rfl rfl rfl ?_
        refine ev_get (v := .ref 80) 31 dX1_mostLeft_28 dk_91 fl_1_22 (by decide) rfl rfl rfl ?_
        refine ev_aload_n (i := 1) 32 dX1_mostLeft_31 rfl rfl rfl ?_
        refine ev_iload 34 dX1_mostLeft_32 rfl rfl ?_
        refine ev_iload_n (i := 3) 35 dX1_mostLeft_34 rfl rfl rfl ?_
        refine ev_iconst (v := 0) 36 dX1_mostLeft_35 (by decide) rfl ?_
        obtain ⟨x14, S13, g15, h⟩ := rx_bd_o h
        refine ev_cVi4 39 dX1_mostLeft_36 (em_X7_putWord_32 g15) mm_X7_putWord mv_X7_putWord lk_1_39 dk_80 (by decide) rfl (Nat.le_of_ble_eq_true rfl) (Nat.le_of_ble_eq_true rfl) rfl ?_
        refine ev_istore (ls' := [some (.ref 91), some (.ref 32), some (.int x5), some (.int x6), some (.int x7), some (.int x8), some (.int x14)]) 41 dX1_mostLeft_39 (Nat.le_of_ble_eq_true rfl) rfl rfl ?_
        refine ev_iload 43 dX1_mostLeft_41 rfl rfl ?_
        refine ev_aload_n (i := 0) 44 dX1_mostLeft_43 rfl rfl rfl ?_
        refine ev_aload_n (i := 1) 45 dX1_mostLeft_44 rfl rfl rfl ?_
        refine ev_iload_n (i := 2) 46 dX1_mostLeft_45 rfl rfl rfl ?_
        refine ev_iload_n (i := 3) 47 dX1_mostLeft_46 rfl rfl rfl ?_
        refine ev_iload 49 dX1_mostLeft_47 rfl rfl ?_
        obtain ⟨x17, S16, g18, h⟩ := rx_bd_o h
        refine ev_cVi4 52 dX1_mostLeft_49 (em_X1_leftBy g18) mm_X1_leftBy mv_X1_leftBy lk_1_60 dk_91 (by decide) rfl (Nat.le_of_ble_eq_true rfl) (Nat.le_of_ble_eq_true rfl) rfl ?_
        refine ev_max 55 dX1_mostLeft_52 lk_1_63 w_max (Nat.le_of_ble_eq_true rfl) rfl ?_
        obtain ⟨x19, ex19, h⟩ := rx_let_o h
        refine ev_nm ex19 ?_
        refine ev_istore (ls' := [some (.ref 91), some (.ref 32), some (.int x5), some (.int x6), some (.int x19), some (.int x8), some (.int x14)]) 57 dX1_mostLeft_55 (Nat.le_of_ble_eq_true rfl) rfl rfl ?_
        obtain ⟨x20, ex20, h⟩ := rx_let_o h
        refine ev_iinc (v := x20) (ls' := [some (.ref 91), some (.ref 32), some (.int x5), some (.int x6), some (.int x19), some (.int x20), some (.int x14)]) 60 dX1_mostLeft_57 rfl (by rw [ex20]; rfl) (Nat.le_of_ble_eq_true rfl) rfl rfl ?_
        refine ev_goto 6 dX1_mostLeft_60 rfl ?_
        exact (ih _ _ _ _ _ h).fewer (rx_le_s (rx_le_s (rx_le_s (rx_le_s (rx_le_s (rx_le_s (rx_le_n rx_le_0)))))))

set_option maxHeartbeats 4000000 in
set_option maxRecDepth 20000 in
theorem em_X1_mostLeft {d N : Nat} {x2 : Int32} {x3 : Int32} {S0 : rx_S} {zr : Int32} {zS : rx_S} (h : f_X1_mostLeft N x2 x3 S0 = some (zr, zS)) : EM gC (d + 5) mX1_mostLeft [.ref 91, .ref 32, .int x2, .int x3] S0 (rx_pi zr zS) := by
  unfold f_X1_mostLeft at h
  show EV gC (d + 5) mX1_mostLeft 0 [some (.ref 91), some (.ref 32), some (.int x2), some (.int x3), none, none, none] [] S0 (rx_pi zr zS)
  refine ev_iconst (v := 0) 1 dX1_mostLeft_0 (by decide) rfl ?_
  refine ev_istore (ls' := [some (.ref 91), some (.ref 32), some (.int x2), some (.int x3), some (.int 0), none, none]) 3 dX1_mostLeft_1 (Nat.le_of_ble_eq_true rfl) rfl rfl ?_
  refine ev_iconst (v := 0) 4 dX1_mostLeft_3 (by decide) rfl ?_
  refine ev_istore (ls' := [some (.ref 91), some (.ref 32), some (.int x2), some (.int x3), some (.int 0), some (.int 0), none]) 6 dX1_mostLeft_4 (Nat.le_of_ble_eq_true rfl) rfl rfl ?_
  exact (em_X1_mostLeft_L6 _ _ _ _ _ _ h).fewer (rx_le_s (rx_le_s (rx_le_s (rx_le_s (rx_le_s (rx_le_s (rx_le_n rx_le_0)))))))

def f_X1_bestWord_L25 (N : Nat) : Nat → Int32 → Int32 → Int32 → Int32 → rx_S → Option (Int32 × rx_S)
  | 0, _, _, _, _, _ => none
  | n + 1, x8, x9, x10, x11, S12 => if (8 : Int32) ≤ x11 then (some (x9, S12)) else (rx_bd (f_X1_mostLeft N x8 x11 S12) (fun x15 S14 => if x10 ≤ x15 then (rx_let (x11 + 1) (fun x18 => f_X1_bestWord_L25 N n x8 x9 x10 x18 S14)) else (rx_let (x11 + 1) (fun x19 => f_X1_bestWord_L25 N n x8 x11 x15 x19 S14))))
def f_X1_bestWord (N : Nat) (x2 : Int32) (S0 : rx_S) : Option (Int32 × rx_S) := rx_bd (f_X1_candidates N x2 S0) (fun x5 S4 => if x5 = 0 then (some ((-2), S4)) else (f_X1_bestWord_L25 N N x5 (-2) 1000000 0 S4))
set_option maxHeartbeats 4000000 in
set_option maxRecDepth 20000 in
theorem em_X1_bestWord_L25 {d N : Nat} {zr : Int32} {zS : rx_S} : ∀ (n : Nat) (x8 : Int32) (x9 : Int32) (x10 : Int32) (x11 : Int32) (S12 : rx_S), f_X1_bestWord_L25 N n x8 x9 x10 x11 S12 = some (zr, zS) → EV gC (d + 6) mX1_bestWord 25 [some (.ref 91), some (.ref 32), none, some (.int x8), some (.int x9), some (.int x10), some (.int x11), none] [] S12 (rx_pi zr zS) := by
  intro n
  induction n with
  | zero => intro x8 x9 x10 x11 S12 h; cases h
  | succ n ih =>
    intro x8 x9 x10 x11 S12 h
    rw [f_X1_bestWord_L25] at h
    refine ev_iload 27 dX1_bestWord_25 rfl rfl ?_
    refine ev_bipush (v := 8) 29 dX1_bestWord_27 (by decide) rfl ?_
    refine ev_icmp_ge 63 32 dX1_bestWord_29 rfl rfl (fun c13 => ?_) (fun c13 => ?_)
    · replace h := rx_if_t c13 h
      refine ev_iload 65 dX1_bestWord_63 rfl rfl ?_
      exact ev_ireturn dX1_bestWord_65 rfl (rx_ret_i h)
    · replace h := rx_if_f c13 h
      refine ev_aload_n (i := 0) 33 dX1_bestWord_32 rfl rfl rfl ?_
      refine ev_aload_n (i := 1) 34 dX1_bestWord_33 rfl rfl rfl ?_
      refine ev_iload_n (i := 3) 35 dX1_bestWord_34 rfl rfl rfl ?_
      refine ev_iload 37 dX1_bestWord_35 rfl rfl ?_
      obtain ⟨x15, S14, g16, h⟩ := rx_bd_o h
      refine ev_cVi3 40 dX1_bestWord_37 (em_X1_mostLeft g16) mm_X1_mostLeft mv_X1_mostLeft lk_1_56 dk_91 (by decide) rfl (Nat.le_of_ble_eq_true rfl) (Nat.le_of_ble_eq_true rfl) rfl ?_
      refine ev_istore (ls' := [some (.ref 91), some (.ref 32), none, some (.int x8), some (.int x9), some (.int x10), some (.int x11), some (.int x15)]) 42 dX1_bestWord_40 (Nat.le_of_ble_eq_true rfl) rfl rfl ?_
      refine ev_iload 44 dX1_bestWord_42 rfl rfl ?_
      refine ev_iload 46 dX1_bestWord_44 rfl rfl ?_
      refine ev_icmp_ge 57 49 dX1_bestWord_46 rfl rfl (fun c17 => ?_) (fun c17 => ?_)
      · replace h := rx_if_t c17 h
        obtain ⟨x18, ex18, h⟩ := rx_let_o h
        refine ev_iinc (v := x18) (ls' := [some (.ref 91), some (.ref 32), none, some (.int x8), some (.int x9), some (.int x10), some (.int x18), some (.int x15)]) 60 dX1_bestWord_57 rfl (by rw [ex18]; rfl) (Nat.le_of_ble_eq_true rfl) rfl rfl ?_
        refine ev_goto 25 dX1_bestWord_60 rfl ?_
        exact (ih _ _ _ _ _ h).fewer (rx_le_s (rx_le_s (rx_le_n (rx_le_s (rx_le_s (rx_le_s (rx_le_s (rx_le_n rx_le_0))))))))
      · replace h := rx_if_f c17 h
        refine ev_iload 51 dX1_bestWord_49 rfl rfl ?_
        refine ev_istore (ls' := [some (.ref 91), some (.ref 32), none, some (.int x8), some (.int x9), some (.int x15), some (.int x11), some (.int x15)]) 53 dX1_bestWord_51 (Nat.le_of_ble_eq_true rfl) rfl rfl ?_
        refine ev_iload 55 dX1_bestWord_53 rfl rfl ?_
        refine ev_istore (ls' := [some (.ref 91), some (.ref 32), none, some (.int x8), some (.int x11), some (.int x15), some (.int x11), some (.int x15)]) 57 dX1_bestWord_55 (Nat.le_of_ble_eq_true rfl) rfl rfl ?_
        obtain ⟨x19, ex19, h⟩ := rx_let_o h
        refine ev_iinc (v := x19) (ls' := [some (.ref 91), some (.ref 32), none, some (.int x8), some (.int x11), some (.int x15), some (.int x19), some (.int x15)]) 60 dX1_bestWord_57 rfl (by rw [ex19]; rfl) (Nat.le_of_ble_eq_true rfl) rfl rfl ?_
        refine ev_goto 25 dX1_bestWord_60 rfl ?_
        exact (ih _ _ _ _ _ h).fewer (rx_le_s (rx_le_s (rx_le_n (rx_le_s (rx_le_s (rx_le_s (rx_le_s (rx_le_n rx_le_0))))))))

set_option maxHeartbeats 4000000 in
set_option maxRecDepth 20000 in
theorem em_X1_bestWord {d N : Nat} {x2 : Int32} {S0 : rx_S} {zr : Int32} {zS : rx_S} (h : f_X1_bestWord N x2 S0 = some (zr, zS)) : EM gC (d + 6) mX1_bestWord [.ref 91, .ref 32, .int x2] S0 (rx_pi zr zS) := by
  unfold f_X1_bestWord at h
  show EV gC (d + 6) mX1_bestWord 0 [some (.ref 91), some (.ref 32), some (.int x2), none, none, none, none, none] [] S0 (rx_pi zr zS)
  refine ev_aload_n (i := 0) 1 dX1_bestWord_0 rfl rfl rfl ?_
  refine ev_aload_n (i := 1) 2 dX1_bestWord_1 rfl rfl rfl ?_
  refine ev_iload_n (i := 2) 3 dX1_bestWord_2 rfl rfl rfl ?_
  obtain ⟨x5, S4, g6, h⟩ := rx_bd_o h
  refine ev_cVi2 6 dX1_bestWord_3 (em_X1_candidates g6) mm_X1_candidates mv_X1_candidates lk_1_51 dk_91 (by decide) rfl (Nat.le_of_ble_eq_true rfl) (Nat.le_of_ble_eq_true rfl) rfl ?_
  refine ev_istore_n (ls' := [some (.ref 91), some (.ref 32), some (.int x2), some (.int x5), none, none, none, none]) 7 dX1_bestWord_6 rfl (Nat.le_of_ble_eq_true rfl) rfl rfl ?_
  refine ev_iload_n (i := 3) 8 dX1_bestWord_7 rfl rfl rfl ?_
  refine ev_if_ne 14 11 dX1_bestWord_8 rfl rfl (fun c7 => ?_) (fun c7 => ?_)
  · replace h := rx_if_f c7 h
    refine ev_bipush (v := (-2)) 16 dX1_bestWord_14 (by decide) rfl ?_
    refine ev_istore (ls' := [some (.ref 91), some (.ref 32), some (.int x2), some (.int x5), some (.int (-2)), none, none, none]) 18 dX1_bestWord_16 (Nat.le_of_ble_eq_true rfl) rfl rfl ?_
    refine ev_ldc (v := 1000000) 20 dX1_bestWord_18 rfl ct_1_55 rfl ?_
    refine ev_istore (ls' := [some (.ref 91), some (.ref 32), some (.int x2), some (.int x5), some (.int (-2)), some (.int 1000000), none, none]) 22 dX1_bestWord_20 (Nat.le_of_ble_eq_true rfl) rfl rfl ?_
    refine ev_iconst (v := 0) 23 dX1_bestWord_22 (by decide) rfl ?_
    refine ev_istore (ls' := [some (.ref 91), some (.ref 32), some (.int x2), some (.int x5), some (.int (-2)), some (.int 1000000), some (.int 0), none]) 25 dX1_bestWord_23 (Nat.le_of_ble_eq_true rfl) rfl rfl ?_
    exact (em_X1_bestWord_L25 _ _ _ _ _ _ h).fewer (rx_le_s (rx_le_s (rx_le_n (rx_le_s (rx_le_s (rx_le_s (rx_le_s (rx_le_n rx_le_0))))))))
  · replace h := rx_if_t c7 h
    refine ev_bipush (v := (-2)) 13 dX1_bestWord_11 (by decide) rfl ?_
    exact ev_ireturn dX1_bestWord_13 rfl (rx_ret_i h)

def f_X2_begin (k : Nat) (x1 : Int32) (S0 : rx_S) : Option (Unit × rx_S) := if x1 < 0 then (some ((), S0)) else (if (7 : Int32) ≤ x1 then (some ((), S0)) else (rx_gd x1 7 (rx_let (rx_ui S0 (k + 2) (Int32.toNatClampNeg x1) (S0.1 k 4)) (fun S6 => some ((), S6)))))
set_option maxHeartbeats 4000000 in
set_option maxRecDepth 20000 in
theorem em_X2_begin_3 {d : Nat} {x1 : Int32} {S0 : rx_S} {zr : Unit} {zS : rx_S} (h : f_X2_begin 3 x1 S0 = some (zr, zS)) : EM gC d mX2_begin [.ref 3, .int x1] S0 (rx_pv zS) := by
  unfold f_X2_begin at h
  show EV gC d mX2_begin 0 [some (.ref 3), some (.int x1)] [] S0 (rx_pv zS)
  refine ev_iload_n (i := 1) 1 dX2_begin_0 rfl rfl rfl ?_
  refine ev_if_lt 20 4 dX2_begin_1 rfl rfl (fun c3 => ?_) (fun c3 => ?_)
  · replace h := rx_if_t c3 h
    exact ev_return dX2_begin_20 rfl (rx_ret_v h)
  · replace h := rx_if_f c3 h
    refine ev_iload_n (i := 1) 5 dX2_begin_4 rfl rfl rfl ?_
    refine ev_bipush (v := 7) 7 dX2_begin_5 (by decide) rfl ?_
    refine ev_icmp_ge 20 10 dX2_begin_7 rfl rfl (fun c4 => ?_) (fun c4 => ?_)
    · replace h := rx_if_t c4 h
      exact ev_return dX2_begin_20 rfl (rx_ret_v h)
    · replace h := rx_if_f c4 h
      refine ev_aload_n (i := 0) 11 dX2_begin_10 rfl rfl rfl ?_
      refine ev_get (v := .ref 5) 14 dX2_begin_11 dk_3 fl_2_15 (by decide) rfl rfl rfl ?_
      refine ev_iload_n (i := 1) 15 dX2_begin_14 rfl rfl rfl ?_
      refine ev_aload_n (i := 0) 16 dX2_begin_15 rfl rfl rfl ?_
      refine ev_get (v := .int (S0.1 3 4)) 19 dX2_begin_16 dk_3 fl_2_24 (by decide) rfl rfl rfl ?_
      obtain ⟨g5, h⟩ := rx_gd_o h
      obtain ⟨S6, eS6, h⟩ := rx_let_o h
      refine ex_iast _ 20 dX2_begin_19 dk_5 g5 rfl rfl eS6 ?_
      exact ev_return dX2_begin_20 rfl (rx_ret_v h)

set_option maxHeartbeats 4000000 in
set_option maxRecDepth 20000 in
theorem em_X2_begin_20 {d : Nat} {x1 : Int32} {S0 : rx_S} {zr : Unit} {zS : rx_S} (h : f_X2_begin 20 x1 S0 = some (zr, zS)) : EM gC d mX2_begin [.ref 20, .int x1] S0 (rx_pv zS) := by
  unfold f_X2_begin at h
  show EV gC d mX2_begin 0 [some (.ref 20), some (.int x1)] [] S0 (rx_pv zS)
  refine ev_iload_n (i := 1) 1 dX2_begin_0 rfl rfl rfl ?_
  refine ev_if_lt 20 4 dX2_begin_1 rfl rfl (fun c3 => ?_) (fun c3 => ?_)
  · replace h := rx_if_t c3 h
    exact ev_return dX2_begin_20 rfl (rx_ret_v h)
  · replace h := rx_if_f c3 h
    refine ev_iload_n (i := 1) 5 dX2_begin_4 rfl rfl rfl ?_
    refine ev_bipush (v := 7) 7 dX2_begin_5 (by decide) rfl ?_
    refine ev_icmp_ge 20 10 dX2_begin_7 rfl rfl (fun c4 => ?_) (fun c4 => ?_)
    · replace h := rx_if_t c4 h
      exact ev_return dX2_begin_20 rfl (rx_ret_v h)
    · replace h := rx_if_f c4 h
      refine ev_aload_n (i := 0) 11 dX2_begin_10 rfl rfl rfl ?_
      refine ev_get (v := .ref 22) 14 dX2_begin_11 dk_20 fl_2_15 (by decide) rfl rfl rfl ?_
      refine ev_iload_n (i := 1) 15 dX2_begin_14 rfl rfl rfl ?_
      refine ev_aload_n (i := 0) 16 dX2_begin_15 rfl rfl rfl ?_
      refine ev_get (v := .int (S0.1 20 4)) 19 dX2_begin_16 dk_20 fl_2_24 (by decide) rfl rfl rfl ?_
      obtain ⟨g5, h⟩ := rx_gd_o h
      obtain ⟨S6, eS6, h⟩ := rx_let_o h
      refine ex_iast _ 20 dX2_begin_19 dk_22 g5 rfl rfl eS6 ?_
      exact ev_return dX2_begin_20 rfl (rx_ret_v h)

def f_X2_usual (x0 : Int32) (S0 : rx_S) : Option (Int32 × rx_S) := if x0 = 0 then (some (2, S0)) else (if x0 = 1 then (some ((-2), S0)) else (if x0 = 2 then (some ((-1), S0)) else (some (0, S0))))
set_option maxHeartbeats 4000000 in
set_option maxRecDepth 20000 in
theorem em_X2_usual {G : Nat × Nat} {d : Nat} {x0 : Int32} {S0 : rx_S} {zr : Int32} {zS : rx_S} (h : f_X2_usual x0 S0 = some (zr, zS)) : EM G d mX2_usual [.int x0] S0 (rx_pi zr zS) := by
  unfold f_X2_usual at h
  show EV G d mX2_usual 0 [some (.int x0)] [] S0 (rx_pi zr zS)
  refine ev_iload_n (i := 0) 1 dX2_usual_0 rfl rfl rfl ?_
  by_cases c2 : x0 = 0
  · replace h := rx_if_t c2 h
    refine ev_tableIn 28 dX2_usual_1 (by rw [c2]; decide) (by rw [c2]; decide) (off := 27) (by rw [c2]; rfl) rfl ?_
    refine ev_iconst (v := 2) 29 dX2_usual_28 (by decide) rfl ?_
    exact ev_ireturn dX2_usual_29 rfl (rx_ret_i h)
  · replace h := rx_if_f c2 h
    by_cases c3 : x0 = 1
    · replace h := rx_if_t c3 h
      refine ev_tableIn 30 dX2_usual_1 (by rw [c3]; decide) (by rw [c3]; decide) (off := 29) (by rw [c3]; rfl) rfl ?_
      refine ev_bipush (v := (-2)) 32 dX2_usual_30 (by decide) rfl ?_
      exact ev_ireturn dX2_usual_32 rfl (rx_ret_i h)
    · replace h := rx_if_f c3 h
      by_cases c4 : x0 = 2
      · replace h := rx_if_t c4 h
        refine ev_tableIn 33 dX2_usual_1 (by rw [c4]; decide) (by rw [c4]; decide) (off := 32) (by rw [c4]; rfl) rfl ?_
        refine ev_iconst (v := (-1)) 34 dX2_usual_33 (by decide) rfl ?_
        exact ev_ireturn dX2_usual_34 rfl (rx_ret_i h)
      · replace h := rx_if_f c4 h
        refine ev_tableOut 35 dX2_usual_1 (by have q0 := rx_ne c2 (z := 0) (by decide); have q1 := rx_ne c3 (z := 1) (by decide); have q2 := rx_ne c4 (z := 2) (by decide); omega) rfl ?_
        refine ev_iconst (v := 0) 36 dX2_usual_35 (by decide) rfl ?_
        exact ev_ireturn dX2_usual_36 rfl (rx_ret_i h)

def f_X2_add (k : Nat) (x1 : Int32) (S0 : rx_S) : Option (Int32 × rx_S) := rx_let (S0.1 k 4) (fun x3 => if (S0.1 k 4) < 0 then (some (x3, S0)) else (if (420 : Int32) ≤ (S0.1 k 4) then (some (x3, S0)) else (rx_gd (S0.1 k 4) 420 (rx_let (rx_ui S0 (k + 1) (Int32.toNatClampNeg (S0.1 k 4)) x1) (fun S7 => rx_let (rx_ui S7 k 4 ((S7.1 k 4) + 1)) (fun S8 => some (x3, S8)))))))
set_option maxHeartbeats 4000000 in
set_option maxRecDepth 20000 in
theorem em_X2_add_3 {d : Nat} {x1 : Int32} {S0 : rx_S} {zr : Int32} {zS : rx_S} (h : f_X2_add 3 x1 S0 = some (zr, zS)) : EM gC d mX2_add [.ref 3, .int x1] S0 (rx_pi zr zS) := by
  unfold f_X2_add at h
  show EV gC d mX2_add 0 [some (.ref 3), some (.int x1), none] [] S0 (rx_pi zr zS)
  refine ev_aload_n (i := 0) 1 dX2_add_0 rfl rfl rfl ?_
  refine ev_get (v := .int (S0.1 3 4)) 4 dX2_add_1 dk_3 fl_2_24 (by decide) rfl rfl rfl ?_
  obtain ⟨x3, ex3, h⟩ := rx_let_o h
  refine ev_nm ex3 ?_
  refine ev_istore_n (ls' := [some (.ref 3), some (.int x1), some (.int x3)]) 5 dX2_add_4 rfl (Nat.le_of_ble_eq_true rfl) rfl rfl ?_
  refine ev_aload_n (i := 0) 6 dX2_add_5 rfl rfl rfl ?_
  refine ev_get (v := .int (S0.1 3 4)) 9 dX2_add_6 dk_3 fl_2_24 (by decide) rfl rfl rfl ?_
  refine ev_if_lt 42 12 dX2_add_9 rfl rfl (fun c4 => ?_) (fun c4 => ?_)
  · replace h := rx_if_t c4 h
    refine ev_iload_n (i := 2) 43 dX2_add_42 rfl rfl rfl ?_
    exact ev_ireturn dX2_add_43 rfl (rx_ret_i h)
  · replace h := rx_if_f c4 h
    refine ev_aload_n (i := 0) 13 dX2_add_12 rfl rfl rfl ?_
    refine ev_get (v := .int (S0.1 3 4)) 16 dX2_add_13 dk_3 fl_2_24 (by decide) rfl rfl rfl ?_
    refine ev_sipush (v := 420) 19 dX2_add_16 (by decide) rfl ?_
    refine ev_icmp_ge 42 22 dX2_add_19 rfl rfl (fun c5 => ?_) (fun c5 => ?_)
    · replace h := rx_if_t c5 h
      refine ev_iload_n (i := 2) 43 dX2_add_42 rfl rfl rfl ?_
      exact ev_ireturn dX2_add_43 rfl (rx_ret_i h)
    · replace h := rx_if_f c5 h
      refine ev_aload_n (i := 0) 23 dX2_add_22 rfl rfl rfl ?_
      refine ev_get (v := .ref 4) 26 dX2_add_23 dk_3 fl_2_9 (by decide) rfl rfl rfl ?_
      refine ev_aload_n (i := 0) 27 dX2_add_26 rfl rfl rfl ?_
      refine ev_get (v := .int (S0.1 3 4)) 30 dX2_add_27 dk_3 fl_2_24 (by decide) rfl rfl rfl ?_
      refine ev_iload_n (i := 1) 31 dX2_add_30 rfl rfl rfl ?_
      obtain ⟨g6, h⟩ := rx_gd_o h
      obtain ⟨S7, eS7, h⟩ := rx_let_o h
      refine ex_iast _ 32 dX2_add_31 dk_4 g6 rfl rfl eS7 ?_
      refine ev_aload_n (i := 0) 33 dX2_add_32 rfl rfl rfl ?_
      refine ev_dup 34 dX2_add_33 rfl rfl ?_
      refine ev_get (v := .int (S7.1 3 4)) 37 dX2_add_34 dk_3 fl_2_24 (by decide) rfl rfl rfl ?_
      refine ev_iconst (v := 1) 38 dX2_add_37 (by decide) rfl ?_
      refine ev_iadd 39 dX2_add_38 rfl ?_
      obtain ⟨S8, eS8, h⟩ := rx_let_o h
      refine ex_put 42 dX2_add_39 dk_3 fl_2_24 pp_2_4 (by decide) rfl rfl rfl rfl eS8 ?_
      refine ev_iload_n (i := 2) 43 dX2_add_42 rfl rfl rfl ?_
      exact ev_ireturn dX2_add_43 rfl (rx_ret_i h)

set_option maxHeartbeats 4000000 in
set_option maxRecDepth 20000 in
theorem em_X2_add_20 {d : Nat} {x1 : Int32} {S0 : rx_S} {zr : Int32} {zS : rx_S} (h : f_X2_add 20 x1 S0 = some (zr, zS)) : EM gC d mX2_add [.ref 20, .int x1] S0 (rx_pi zr zS) := by
  unfold f_X2_add at h
  show EV gC d mX2_add 0 [some (.ref 20), some (.int x1), none] [] S0 (rx_pi zr zS)
  refine ev_aload_n (i := 0) 1 dX2_add_0 rfl rfl rfl ?_
  refine ev_get (v := .int (S0.1 20 4)) 4 dX2_add_1 dk_20 fl_2_24 (by decide) rfl rfl rfl ?_
  obtain ⟨x3, ex3, h⟩ := rx_let_o h
  refine ev_nm ex3 ?_
  refine ev_istore_n (ls' := [some (.ref 20), some (.int x1), some (.int x3)]) 5 dX2_add_4 rfl (Nat.le_of_ble_eq_true rfl) rfl rfl ?_
  refine ev_aload_n (i := 0) 6 dX2_add_5 rfl rfl rfl ?_
  refine ev_get (v := .int (S0.1 20 4)) 9 dX2_add_6 dk_20 fl_2_24 (by decide) rfl rfl rfl ?_
  refine ev_if_lt 42 12 dX2_add_9 rfl rfl (fun c4 => ?_) (fun c4 => ?_)
  · replace h := rx_if_t c4 h
    refine ev_iload_n (i := 2) 43 dX2_add_42 rfl rfl rfl ?_
    exact ev_ireturn dX2_add_43 rfl (rx_ret_i h)
  · replace h := rx_if_f c4 h
    refine ev_aload_n (i := 0) 13 dX2_add_12 rfl rfl rfl ?_
    refine ev_get (v := .int (S0.1 20 4)) 16 dX2_add_13 dk_20 fl_2_24 (by decide) rfl rfl rfl ?_
    refine ev_sipush (v := 420) 19 dX2_add_16 (by decide) rfl ?_
    refine ev_icmp_ge 42 22 dX2_add_19 rfl rfl (fun c5 => ?_) (fun c5 => ?_)
    · replace h := rx_if_t c5 h
      refine ev_iload_n (i := 2) 43 dX2_add_42 rfl rfl rfl ?_
      exact ev_ireturn dX2_add_43 rfl (rx_ret_i h)
    · replace h := rx_if_f c5 h
      refine ev_aload_n (i := 0) 23 dX2_add_22 rfl rfl rfl ?_
      refine ev_get (v := .ref 21) 26 dX2_add_23 dk_20 fl_2_9 (by decide) rfl rfl rfl ?_
      refine ev_aload_n (i := 0) 27 dX2_add_26 rfl rfl rfl ?_
      refine ev_get (v := .int (S0.1 20 4)) 30 dX2_add_27 dk_20 fl_2_24 (by decide) rfl rfl rfl ?_
      refine ev_iload_n (i := 1) 31 dX2_add_30 rfl rfl rfl ?_
      obtain ⟨g6, h⟩ := rx_gd_o h
      obtain ⟨S7, eS7, h⟩ := rx_let_o h
      refine ex_iast _ 32 dX2_add_31 dk_21 g6 rfl rfl eS7 ?_
      refine ev_aload_n (i := 0) 33 dX2_add_32 rfl rfl rfl ?_
      refine ev_dup 34 dX2_add_33 rfl rfl ?_
      refine ev_get (v := .int (S7.1 20 4)) 37 dX2_add_34 dk_20 fl_2_24 (by decide) rfl rfl rfl ?_
      refine ev_iconst (v := 1) 38 dX2_add_37 (by decide) rfl ?_
      refine ev_iadd 39 dX2_add_38 rfl ?_
      obtain ⟨S8, eS8, h⟩ := rx_let_o h
      refine ex_put 42 dX2_add_39 dk_20 fl_2_24 pp_2_4 (by decide) rfl rfl rfl rfl eS8 ?_
      refine ev_iload_n (i := 2) 43 dX2_add_42 rfl rfl rfl ?_
      exact ev_ireturn dX2_add_43 rfl (rx_ret_i h)

def f_X2_clear_L7 (k : Nat) (N : Nat) : Nat → Int32 → rx_S → Option (Unit × rx_S)
  | 0, _, _ => none
  | n + 1, x3, S4 => if (7 : Int32) ≤ x3 then (some ((), S4)) else (rx_bd (f_X2_begin k x3 S4) (fun x7 S6 => rx_bd (f_X2_usual x3 S6) (fun x10 S9 => rx_bd (f_X2_add k x10 S9) (fun x13 S12 => rx_bd (f_X2_add k (-14) S12) (fun x16 S15 => rx_let (x3 + 1) (fun x18 => f_X2_clear_L7 k N n x18 S15))))))
def f_X2_clear (k : Nat) (N : Nat) (S0 : rx_S) : Option (Unit × rx_S) := rx_let (rx_ui S0 k 4 0) (fun S2 => f_X2_clear_L7 k N N 0 S2)
set_option maxHeartbeats 4000000 in
set_option maxRecDepth 20000 in
theorem em_X2_clear_L7_3 {d N : Nat} {zr : Unit} {zS : rx_S} : ∀ (n : Nat) (x3 : Int32) (S4 : rx_S), f_X2_clear_L7 3 N n x3 S4 = some (zr, zS) → EV gC (d + 1) mX2_clear 7 [some (.ref 3), some (.int x3)] [] S4 (rx_pv zS) := by
  intro n
  induction n with
  | zero => intro x3 S4 h; cases h
  | succ n ih =>
    intro x3 S4 h
    rw [f_X2_clear_L7] at h
    refine ev_iload_n (i := 1) 8 dX2_clear_7 rfl rfl rfl ?_
    refine ev_bipush (v := 7) 10 dX2_clear_8 (by decide) rfl ?_
    refine ev_icmp_ge 40 13 dX2_clear_10 rfl rfl (fun c5 => ?_) (fun c5 => ?_)
    · replace h := rx_if_t c5 h
      exact ev_return dX2_clear_40 rfl (rx_ret_v h)
    · replace h := rx_if_f c5 h
      refine ev_aload_n (i := 0) 14 dX2_clear_13 rfl rfl rfl ?_
      refine ev_iload_n (i := 1) 15 dX2_clear_14 rfl rfl rfl ?_
      obtain ⟨x7, S6, g8, h⟩ := rx_bd_o h
      refine ev_cVv1 18 dX2_clear_15 (em_X2_begin_3 g8) mm_X2_begin mv_X2_begin lk_2_28 dk_3 (by decide) rfl (Nat.le_of_ble_eq_true rfl) (Nat.le_of_ble_eq_true rfl) rfl ?_
      refine ev_aload_n (i := 0) 19 dX2_clear_18 rfl rfl rfl ?_
      refine ev_iload_n (i := 1) 20 dX2_clear_19 rfl rfl rfl ?_
      obtain ⟨x10, S9, g11, h⟩ := rx_bd_o h
      refine ev_cSi1 23 dX2_clear_20 (em_X2_usual g11) mm_X2_usual ms_X2_usual lk_2_32 (Nat.le_of_ble_eq_true rfl) (Nat.le_of_ble_eq_true rfl) rfl ?_
      obtain ⟨x13, S12, g14, h⟩ := rx_bd_o h
      refine ev_cVi1 26 dX2_clear_23 (em_X2_add_3 g14) mm_X2_add mv_X2_add lk_2_36 dk_3 (by decide) rfl (Nat.le_of_ble_eq_true rfl) (Nat.le_of_ble_eq_true rfl) rfl ?_
      refine ev_pop 27 dX2_clear_26 rfl rfl ?_
      refine ev_aload_n (i := 0) 28 dX2_clear_27 rfl rfl rfl ?_
      refine ev_bipush (v := (-14)) 30 dX2_clear_28 (by decide) rfl ?_
      obtain ⟨x16, S15, g17, h⟩ := rx_bd_o h
      refine ev_cVi1 33 dX2_clear_30 (em_X2_add_3 g17) mm_X2_add mv_X2_add lk_2_36 dk_3 (by decide) rfl (Nat.le_of_ble_eq_true rfl) (Nat.le_of_ble_eq_true rfl) rfl ?_
      refine ev_pop 34 dX2_clear_33 rfl rfl ?_
      obtain ⟨x18, ex18, h⟩ := rx_let_o h
      refine ev_iinc (v := x18) (ls' := [some (.ref 3), some (.int x18)]) 37 dX2_clear_34 rfl (by rw [ex18]; rfl) (Nat.le_of_ble_eq_true rfl) rfl rfl ?_
      refine ev_goto 7 dX2_clear_37 rfl ?_
      exact (ih _ _ h).fewer (rx_le_s (rx_le_s rx_le_0))

set_option maxHeartbeats 4000000 in
set_option maxRecDepth 20000 in
theorem em_X2_clear_3 {d N : Nat} {S0 : rx_S} {zr : Unit} {zS : rx_S} (h : f_X2_clear 3 N S0 = some (zr, zS)) : EM gC (d + 1) mX2_clear [.ref 3] S0 (rx_pv zS) := by
  unfold f_X2_clear at h
  show EV gC (d + 1) mX2_clear 0 [some (.ref 3), none] [] S0 (rx_pv zS)
  refine ev_aload_n (i := 0) 1 dX2_clear_0 rfl rfl rfl ?_
  refine ev_iconst (v := 0) 2 dX2_clear_1 (by decide) rfl ?_
  obtain ⟨S2, eS2, h⟩ := rx_let_o h
  refine ex_put 5 dX2_clear_2 dk_3 fl_2_24 pp_2_4 (by decide) rfl rfl rfl rfl eS2 ?_
  refine ev_iconst (v := 0) 6 dX2_clear_5 (by decide) rfl ?_
  refine ev_istore_n (ls' := [some (.ref 3), some (.int 0)]) 7 dX2_clear_6 rfl (Nat.le_of_ble_eq_true rfl) rfl rfl ?_
  exact (em_X2_clear_L7_3 _ _ _ h).fewer (rx_le_s (rx_le_s rx_le_0))

set_option maxHeartbeats 4000000 in
set_option maxRecDepth 20000 in
theorem em_X2_clear_L7_20 {d N : Nat} {zr : Unit} {zS : rx_S} : ∀ (n : Nat) (x3 : Int32) (S4 : rx_S), f_X2_clear_L7 20 N n x3 S4 = some (zr, zS) → EV gC (d + 1) mX2_clear 7 [some (.ref 20), some (.int x3)] [] S4 (rx_pv zS) := by
  intro n
  induction n with
  | zero => intro x3 S4 h; cases h
  | succ n ih =>
    intro x3 S4 h
    rw [f_X2_clear_L7] at h
    refine ev_iload_n (i := 1) 8 dX2_clear_7 rfl rfl rfl ?_
    refine ev_bipush (v := 7) 10 dX2_clear_8 (by decide) rfl ?_
    refine ev_icmp_ge 40 13 dX2_clear_10 rfl rfl (fun c5 => ?_) (fun c5 => ?_)
    · replace h := rx_if_t c5 h
      exact ev_return dX2_clear_40 rfl (rx_ret_v h)
    · replace h := rx_if_f c5 h
      refine ev_aload_n (i := 0) 14 dX2_clear_13 rfl rfl rfl ?_
      refine ev_iload_n (i := 1) 15 dX2_clear_14 rfl rfl rfl ?_
      obtain ⟨x7, S6, g8, h⟩ := rx_bd_o h
      refine ev_cVv1 18 dX2_clear_15 (em_X2_begin_20 g8) mm_X2_begin mv_X2_begin lk_2_28 dk_20 (by decide) rfl (Nat.le_of_ble_eq_true rfl) (Nat.le_of_ble_eq_true rfl) rfl ?_
      refine ev_aload_n (i := 0) 19 dX2_clear_18 rfl rfl rfl ?_
      refine ev_iload_n (i := 1) 20 dX2_clear_19 rfl rfl rfl ?_
      obtain ⟨x10, S9, g11, h⟩ := rx_bd_o h
      refine ev_cSi1 23 dX2_clear_20 (em_X2_usual g11) mm_X2_usual ms_X2_usual lk_2_32 (Nat.le_of_ble_eq_true rfl) (Nat.le_of_ble_eq_true rfl) rfl ?_
      obtain ⟨x13, S12, g14, h⟩ := rx_bd_o h
      refine ev_cVi1 26 dX2_clear_23 (em_X2_add_20 g14) mm_X2_add mv_X2_add lk_2_36 dk_20 (by decide) rfl (Nat.le_of_ble_eq_true rfl) (Nat.le_of_ble_eq_true rfl) rfl ?_
      refine ev_pop 27 dX2_clear_26 rfl rfl ?_
      refine ev_aload_n (i := 0) 28 dX2_clear_27 rfl rfl rfl ?_
      refine ev_bipush (v := (-14)) 30 dX2_clear_28 (by decide) rfl ?_
      obtain ⟨x16, S15, g17, h⟩ := rx_bd_o h
      refine ev_cVi1 33 dX2_clear_30 (em_X2_add_20 g17) mm_X2_add mv_X2_add lk_2_36 dk_20 (by decide) rfl (Nat.le_of_ble_eq_true rfl) (Nat.le_of_ble_eq_true rfl) rfl ?_
      refine ev_pop 34 dX2_clear_33 rfl rfl ?_
      obtain ⟨x18, ex18, h⟩ := rx_let_o h
      refine ev_iinc (v := x18) (ls' := [some (.ref 20), some (.int x18)]) 37 dX2_clear_34 rfl (by rw [ex18]; rfl) (Nat.le_of_ble_eq_true rfl) rfl rfl ?_
      refine ev_goto 7 dX2_clear_37 rfl ?_
      exact (ih _ _ h).fewer (rx_le_s (rx_le_s rx_le_0))

set_option maxHeartbeats 4000000 in
set_option maxRecDepth 20000 in
theorem em_X2_clear_20 {d N : Nat} {S0 : rx_S} {zr : Unit} {zS : rx_S} (h : f_X2_clear 20 N S0 = some (zr, zS)) : EM gC (d + 1) mX2_clear [.ref 20] S0 (rx_pv zS) := by
  unfold f_X2_clear at h
  show EV gC (d + 1) mX2_clear 0 [some (.ref 20), none] [] S0 (rx_pv zS)
  refine ev_aload_n (i := 0) 1 dX2_clear_0 rfl rfl rfl ?_
  refine ev_iconst (v := 0) 2 dX2_clear_1 (by decide) rfl ?_
  obtain ⟨S2, eS2, h⟩ := rx_let_o h
  refine ex_put 5 dX2_clear_2 dk_20 fl_2_24 pp_2_4 (by decide) rfl rfl rfl rfl eS2 ?_
  refine ev_iconst (v := 0) 6 dX2_clear_5 (by decide) rfl ?_
  refine ev_istore_n (ls' := [some (.ref 20), some (.int 0)]) 7 dX2_clear_6 rfl (Nat.le_of_ble_eq_true rfl) rfl rfl ?_
  exact (em_X2_clear_L7_20 _ _ _ h).fewer (rx_le_s (rx_le_s rx_le_0))

