/-! ===== READ 35: both readings, up to their ends ===== -/
def rtK : rx_S → Option (Int32 × rx_S) := fun S15 => rx_let (fun (x16 : Int32) (S17 : rx_S) => rx_let (rx_ui S17 13 7 x16) (fun S18 => rx_let (fun (x19 : Int32) (S20 : rx_S) => rx_let (rx_ui S20 13 6 x19) (fun S21 => some ((S21.1 13 6), S21))) (fun J171_3 => if (S18.1 13 6) = 0 then (J171_3 (S18.1 13 8) S18) else (J171_3 (S18.1 13 6) S18)))) (fun J149_2 => if (S15.1 13 6) = 0 then (J149_2 (S15.1 13 9) S15) else (rx_bd (f_X9_placeOf (S15.1 13 5) S15) (fun x25 S24 => J149_2 x25 S24)))
def rdE (N : Nat) (S22 : rx_S) : Option (Int32 × rx_S) := rx_let (rx_ui S22 94 18 (S22.1 94 19)) (fun S25 => rx_bd (f_X11_begins N S25) (fun x27 S26 => rx_bd (f_X11_keepsRow N S26) (fun x30 S29 => rx_let (rx_ui S29 94 52 0) (fun S32 => rx_let (rx_ui S32 94 62 0) (fun S33 => f_X11_read_L219 N N 0 S33)))))
def rdK (N : Nat) : rx_S → Option (Int32 × rx_S) := fun S19 => rx_let (fun (x20 : Int32) (S21 : rx_S) => rx_let (rx_ui S21 94 17 x20) (fun S22 => if (S22.1 94 13) ≤ 0 then (if (S22.1 94 15) ≤ 0 then (rdE N S22) else (some ((S22.1 94 15), S22))) else (some ((S22.1 94 13), S22)))) (fun J164_3 => if (S19.1 94 13) ≤ 0 then (if (S19.1 94 15) ≤ 0 then (J164_3 (-1) S19) else (J164_3 (S19.1 94 16) S19)) else (J164_3 (S19.1 94 14) S19))
def rdJ (N : Nat) : rx_S → Option (Int32 × rx_S) := fun S3 => rx_let (rx_ui S3 94 2 0) (fun S4 => rx_bd (f_X11_cut N S4) (fun x6 S5 => rx_let (rx_ui S5 94 11 0) (fun S8 => rx_let (rx_ui S8 94 12 0) (fun S9 => rx_let (rx_ui S9 94 13 0) (fun S10 => rx_let (rx_ui S10 94 15 0) (fun S11 => rx_let (rx_ui S11 94 19 ((1 : Int32) - (S11.1 94 18))) (fun S12 => rx_let (rx_ui S12 94 20 0) (fun S13 => rx_bd (f_X11_plain N (S13.1 94 19) S13) (fun x15 S14 => rx_let (rx_ui S14 94 35 ((130 : Int32) * (S14.1 94 19))) (fun S17 => rx_let (rx_ui S17 94 41 ((420 : Int32) * (S17.1 94 19))) (fun S18 => f_X11_read_L112 N (rdK N) N S18)))))))))))
theorem readTape_eq {N : Nat} {x : Int32} {S : rx_S} : f_X4_readTape N x S = rx_bd (f_X9_cut N x S) (fun x5 S4 => rx_bd (f_X8_clear 19 N S4) (fun x8 S7 => f_X4_readTape_L46 N rtK N 1 0 (rx_ui (rx_ui (rx_ui (rx_ui (rx_ui S7 13 4 0) 13 5 0) 13 6 0) 13 8 0) 13 9 (-1)))) := rfl
theorem readM_eq {N : Nat} {S : rx_S} : f_X11_read N S = f_X11_read_L10 N (rdJ N) N 0 (rx_ui S 94 4 (S.1 94 2)) := rfl
def qM (sd : Nat) (S S' : rx_S) : Prop := (∀ k j, kpM k j → ¬ (k = 94 ∧ (j = 2 ∨ j = 17)) → ¬ (104 ≤ k ∧ k ≤ 122 ∧ hsz k * sd ≤ j ∧ j < hsz k * sd + hsz k) → S'.1 k j = S.1 k j) ∧ S'.2 101 = S.2 101
def qC (S S' : rx_S) : Prop := (∀ k, kpC k → k ≠ 0 → S'.1 k = S.1 k) ∧ S'.2 15 = S.2 15
theorem qM.tr {sd : Nat} {S S' S'' : rx_S} (h : qM sd S S') (g : qM sd S' S'') : qM sd S S'' := ⟨fun k j a b c => (g.1 k j a b c).trans (h.1 k j a b c), g.2.trans h.2⟩
theorem rdM.q {sd : Nat} {S S' : rx_S} (h : rdM sd S S') : qM sd S S' := by
  refine ⟨fun k j hk h1 h2 => ?_, h.2.2.2 101 (by decide)⟩
  by_cases e : k = 94
  · subst e
    unfold kpM at hk
    exact h.2.1 j (by omega) (by omega) (by omega) (by omega) (by omega) (by omega) (by omega) (by omega) (by omega) (by omega)
  · by_cases e2 : 104 ≤ k ∧ k ≤ 122
    · exact h.2.2.1 k j e2.1 e2.2 (fun q => h2 ⟨e2.1, e2.2, q⟩)
    · unfold kpM at hk
      rw [h.1 k e (by omega) (by omega)]
theorem ctM.q {sd : Nat} {S S' : rx_S} (h : ctM S S') : qM sd S S' := by
  refine ⟨fun k j hk h1 h2 => ?_, h.2.2 101 (by decide)⟩
  unfold kpM at hk
  by_cases e : k = 94
  · subst e
    exact h.2.1 j (by omega)
  · rw [h.1 k e (by omega) (by omega) (by omega)]
theorem qM.u94 {sd j : Nat} {S : rx_S} {x : Int32} (hj : j ≠ 18 ∧ j ≠ 52 ∧ j ≠ 62) : qM sd S (rx_ui S 94 j x) := by
  refine ⟨fun k i hk h1 h2 => ?_, rfl⟩
  rw [ui_get]
  by_cases e : k = 94
  · subst e
    unfold kpM at hk
    rw [if_pos rfl, if_neg (by omega)]
  · rw [if_neg e]
theorem qC.tr {S S' S'' : rx_S} (h : qC S S') (g : qC S' S'') : qC S S'' := ⟨fun k a b => (g.1 k a b).trans (h.1 k a b), g.2.trans h.2⟩
theorem kCf.q {S S' : rx_S} (h : kCf S S') : qC S S' ∧ S'.1 0 = S.1 0 := ⟨⟨fun k hk _ => h.1 k (by unfold kpC at hk; omega), h.2 15 (by decide)⟩, h.1 0 (by omega)⟩
theorem ctF.q {S S' : rx_S} (h : ctF S S') : qC S S' ∧ S'.1 0 = S.1 0 := ⟨⟨fun k hk _ => h.1 k (by unfold kpC at hk; omega) (by unfold kpC at hk; omega) (by unfold kpC at hk; omega), h.2 15 (by decide)⟩, h.1 0 (by decide) (by decide) (by decide)⟩
section BOTH
variable {N : Nat} {S SC SM : rx_S}
theorem txt_L {len : Nat} {P : Int32 → rx_S → Prop} {K : rx_S → Option (Int32 × rx_S)} (hl : len ≤ 2000) : ∀ (d f i : Nat) (S : rx_S), i + d = len → d < f → S.1 94 4 = nI len → (∀ S', (∀ r, r ≠ 96 → S'.1 r = S.1 r) → S'.2 = S.2 → (∀ j, j < i → S'.1 96 j = S.1 96 j) → (∀ j, i ≤ j → j < len → S'.1 96 j = vp_nar .byte (S.1 95 j)) → pk (K S') P) → pk (f_X11_read_L10 N K f (nI i) S) P := by
  intro d
  induction d with
  | zero =>
    intro f i S hi hf h4 k
    obtain ⟨f, rfl⟩ : ∃ q, f = q + 1 := ⟨f - 1, by omega⟩
    rw [f_X11_read_L10, h4, if_pos (nI_le (by omega) (by omega))]
    exact k S (fun _ _ => rfl) rfl (fun _ _ => rfl) (fun j _ _ => by omega)
  | succ d ih =>
    intro f i S hi hf h4 k
    obtain ⟨f, rfl⟩ : ∃ q, f = q + 1 := ⟨f - 1, by omega⟩
    rw [f_X11_read_L10, h4, if_neg (nI_ge (by omega) (by omega)), pk_gdn (by omega) (by decide), pk_gdn (by omega) (by decide), pk_let, pk_let, nI_clamp (by omega), nI_1]
    refine ih f (i + 1) _ (by omega) (by omega) (by rw [ui_row (by decide)]; exact h4) (fun S' h1 h2 h3 h5 => k S' (fun r hr => (h1 r hr).trans (ui_row hr)) h2 (fun j hj => ?_) (fun j q1 q2 => ?_))
    · rw [h3 j (by omega), ui_same, upd_ne (by omega)]
    · by_cases e : j = i
      · subst e
        rw [h3 j (by omega), ui_same]
        exact upd_at
      · rw [h5 j (by omega) q2, ui_row (by decide)]
theorem both {n : Nat} (hN : 5000 ≤ N) (hI : Inv N n SC SM) : ∃ (z : tks) (lv sd : Nat) (SC' SM' : rx_S), (lv < 2 ∧ SM.1 94 18 = nI lv ∧ sd = 1 - lv ∧ tkF z) ∧ f_X4_readTape N (SC.1 0 1) SC = rtK SC' ∧ f_X11_read N SM = rdK N SM' ∧ (qC SC SC' ∧ SC'.1 0 = SC.1 0 ∧ qM sd SM SM' ∧ SM'.1 94 2 = 0 ∧ SM'.1 94 19 = nI sd ∧ tkC z SC') ∧ ((∃ p, RD z sd p SC' SM' ∧ kK z p = 0) ∨ (∃ f q, fC z f q SC' ∧ flt z f q SM')) := by
  obtain ⟨⟨len, hl, t1, t2, t3⟩, -, h15, h101, -, T, ⟨-, -, ⟨lv, hlv, htm⟩, -⟩, -⟩ := hI
  have h18 := htm.1
  -- the bytes
  have hbx : ∃ b : Nat → Nat, ∀ j, j < len → b j < 256 ∧ SC.1 1 j = bx (b j) := by
    refine ⟨fun j => (SC.1 1 j &&& 255).toNatClampNeg, fun j hj => ?_⟩
    obtain ⟨q, hq, e⟩ := bx_of (t3 j hj).2
    show (SC.1 1 j &&& 255).toNatClampNeg < 256 ∧ SC.1 1 j = bx (SC.1 1 j &&& 255).toNatClampNeg
    rw [e, (bx_dec q hq).1, nI_clamp (by omega)]
    exact ⟨hq, rfl⟩
  obtain ⟨b, hb⟩ := hbx
  have hb1 : ∀ j, j < len → b j < 256 := fun j hj => (hb j hj).1
  have iC0 : inC len b SC := ⟨hl, hb⟩
  -- the class
  obtain ⟨u1, S4, eC1, ⟨F1, m, hm1, hm2, hm3, hw, hm4, hm5⟩⟩ := cutC hN iC0 h15
  obtain ⟨u2, S7, eC2, F2, L2, r13, g20, gl, g6, g7, g8, g9, g10⟩ := clrC (S := S4) hN
  have hF : tkF (tz b len m) := tz_F hb1 hl hm1 hm2 hm4 hm5
  have wC7 : ∀ i, i < m → tkwC b len i S7 := fun i hi => by
    unfold tkwC
    rw [F2.1 16 (by omega), F2.1 17 (by omega), L2]
    exact hw i hi
  have tC7 : tkC (tz b len m) S7 := F2.tk (tz_C hm3 hw)
  generalize hA : rx_ui (rx_ui (rx_ui (rx_ui (rx_ui S7 13 4 0) 13 5 0) 13 6 0) 13 8 0) 13 9 (-1) = A
  have FA : kCf S7 A := by rw [← hA]; exact ((((kCf.ui (by omega)).tr (kCf.ui (by omega))).tr (kCf.ui (by omega))).tr (kCf.ui (by omega))).tr (kCf.ui (by omega))
  have Ar : ∀ r, r ≠ 13 → A.1 r = S7.1 r := fun r hr => by rw [← hA, ui_row hr, ui_row hr, ui_row hr, ui_row hr, ui_row hr]
  have AL : A.2 = S7.2 := by rw [← hA]; rfl
  have A4 : A.1 13 4 = 0 := by rw [← hA, ui_get, if_pos rfl, if_neg (by decide), ui_get, if_pos rfl, if_neg (by decide), ui_get, if_pos rfl, if_neg (by decide), ui_get, if_pos rfl, if_neg (by decide), ui_get, if_pos rfl, if_pos rfl]
  have A5 : A.1 13 5 = 0 := by rw [← hA, ui_get, if_pos rfl, if_neg (by decide), ui_get, if_pos rfl, if_neg (by decide), ui_get, if_pos rfl, if_neg (by decide), ui_get, if_pos rfl, if_pos rfl]
  have A6 : A.1 13 6 = 0 := by rw [← hA, ui_get, if_pos rfl, if_neg (by decide), ui_get, if_pos rfl, if_neg (by decide), ui_get, if_pos rfl, if_pos rfl]
  have A8 : A.1 13 8 = 0 := by rw [← hA, ui_get, if_pos rfl, if_neg (by decide), ui_get, if_pos rfl, if_pos rfl]
  have A9 : A.1 13 9 = -1 := by rw [← hA, ui_get, if_pos rfl, if_pos rfl]
  have tCA := FA.tk tC7
  -- the reference
  obtain ⟨sd, hsd, hs2⟩ : ∃ sd, sd = 1 - lv ∧ sd < 2 := ⟨1 - lv, rfl, by omega⟩
  have esd : (1 : Int32) - nI lv = nI sd := by rw [hsd]; exact nI_sub (a := 1) (by omega)
  have goal : ∃ SC' SM', f_X4_readTape_L46 N rtK N 1 0 A = rtK SC' ∧ f_X11_read N SM = rdK N SM' ∧ kCf A SC' ∧ qM sd SM SM' ∧ SM'.1 94 2 = 0 ∧ SM'.1 94 19 = nI sd ∧ ((∃ p, RD (tz b len m) sd p SC' SM' ∧ kK (tz b len m) p = 0) ∨ (∃ f q, fC (tz b len m) f q SC' ∧ flt (tz b len m) f q SM')) := by
    have hcopy : ∃ S3, f_X11_read N SM = rdJ N S3 ∧ (∀ r, r ≠ 94 → r ≠ 96 → S3.1 r = SM.1 r) ∧ (∀ j, j ≠ 4 → S3.1 94 j = SM.1 94 j) ∧ S3.2 = SM.2 ∧ S3.1 94 4 = nI len ∧ (∀ j, j < len → S3.1 96 j = vp_nar .byte (SM.1 95 j)) := by
      have hpk : ∀ (K : rx_S → Option (Int32 × rx_S)), ∃ S3, f_X11_read_L10 N K N 0 (rx_ui SM 94 4 (SM.1 94 2)) = K S3 ∧ (∀ r, r ≠ 94 → r ≠ 96 → S3.1 r = SM.1 r) ∧ (∀ j, j ≠ 4 → S3.1 94 j = SM.1 94 j) ∧ S3.2 = SM.2 ∧ S3.1 94 4 = nI len ∧ (∀ j, j < len → S3.1 96 j = vp_nar .byte (SM.1 95 j)) := by
        intro K
        have gen : ∀ (d f i : Nat) (S : rx_S), i + d = len → d < f → S.1 94 4 = nI len → ∃ S3, f_X11_read_L10 N K f (nI i) S = K S3 ∧ (∀ r, r ≠ 96 → S3.1 r = S.1 r) ∧ S3.2 = S.2 ∧ (∀ j, j < i → S3.1 96 j = S.1 96 j) ∧ (∀ j, i ≤ j → j < len → S3.1 96 j = vp_nar .byte (S.1 95 j)) := by
          intro d
          induction d with
          | zero =>
            intro f i S hi hf h4
            obtain ⟨f, rfl⟩ : ∃ q, f = q + 1 := ⟨f - 1, by omega⟩
            refine ⟨S, ?_, fun _ _ => rfl, rfl, fun _ _ => rfl, fun j _ _ => by omega⟩
            rw [f_X11_read_L10, h4, if_pos (nI_le (by omega) (by omega))]
          | succ d ih =>
            intro f i S hi hf h4
            obtain ⟨f, rfl⟩ : ∃ q, f = q + 1 := ⟨f - 1, by omega⟩
            obtain ⟨S3, e1, e2, e3, e4, e5⟩ := ih f (i + 1) (rx_ui S 96 i (vp_nar .byte (S.1 95 i))) (by omega) (by omega) (by rw [ui_row (by decide)]; exact h4)
            refine ⟨S3, ?_, fun r hr => (e2 r hr).trans (ui_row hr), e3, fun j hj => ?_, fun j q1 q2 => ?_⟩
            · rw [f_X11_read_L10, h4, if_neg (nI_ge (by omega) (by omega)), rx_gd_in (vp_in_nI (show i < 2000 by omega) (by decide)), rx_gd_in (vp_in_nI (show i < 2000 by omega) (by decide)), nI_clamp (by omega)]
              simp only [rx_let, nI_1]
              exact e1
            · rw [e4 j (by omega), ui_same, upd_ne (by omega)]
            · by_cases e : j = i
              · subst e
                rw [e4 j (by omega), ui_same]
                exact upd_at
              · rw [e5 j (by omega) q2, ui_row (by decide)]
        obtain ⟨S3, e1, e2, e3, e4, e5⟩ := gen len N 0 (rx_ui SM 94 4 (SM.1 94 2)) (by omega) (by omega) (by rw [ui_get, if_pos rfl, if_pos rfl]; exact t2)
        refine ⟨S3, e1, fun r q1 q2 => (e2 r q2).trans (ui_row q1), fun j hj => ?_, e3, ?_, fun j hj => ?_⟩
        · rw [e2 94 (by decide), ui_get, if_pos rfl, if_neg hj]
        · rw [e2 94 (by decide), ui_get, if_pos rfl, if_pos rfl]; exact t2
        · rw [e5 j (by omega) hj, ui_row (by decide)]
      exact hpk (rdJ N)
    obtain ⟨S3, e3, r3, j3, l3, s4, c96⟩ := hcopy
    have Q3 : qM sd SM S3 := ⟨fun k j hk h1 h2 => by
      unfold kpM at hk
      by_cases e : k = 94
      · subst e
        exact j3 j (by omega)
      · rw [r3 k e (by omega)], by rw [l3]⟩
    have iM0 : inM len b (rx_ui S3 94 2 0) := by
      refine ⟨hl, by rw [ui_get, if_pos rfl, if_neg (by decide)]; exact s4, fun j hj => ⟨hb1 j hj, ?_⟩⟩
      rw [ui_row (by decide), c96 j hj, ← (t3 j hj).1, nar_isB (t3 j hj).2, (hb j hj).2]
      exact (bx_dec (b j) (hb1 j hj)).1
    obtain ⟨v1, S5, eM1, F5, w5⟩ := cutM (N := N) hN iM0 (by show S3.2 101 = _; rw [l3]; exact h101)
    have wM5 : ∀ i, i < m → tkwM b len i S5 := fun i hi => w5 i (by omega) (fun l hl' => (hm4 l (by omega)).1)
    generalize hB : rx_ui (rx_ui (rx_ui (rx_ui S5 94 11 0) 94 12 0) 94 13 0) 94 15 0 = B
    have Bj : ∀ j, j ≠ 11 → j ≠ 12 → j ≠ 13 → j ≠ 15 → B.1 94 j = S5.1 94 j := fun j q1 q2 q3 q4 => by rw [← hB, ui_get, if_pos rfl, if_neg q4, ui_get, if_pos rfl, if_neg q3, ui_get, if_pos rfl, if_neg q2, ui_get, if_pos rfl, if_neg q1]
    have Br : ∀ r, r ≠ 94 → B.1 r = S5.1 r := fun r hr => by rw [← hB, ui_row hr, ui_row hr, ui_row hr, ui_row hr]
    have BL : B.2 = S5.2 := by rw [← hB]; rfl
    have B11 : B.1 94 11 = 0 := by rw [← hB, ui_get, if_pos rfl, if_neg (by decide), ui_get, if_pos rfl, if_neg (by decide), ui_get, if_pos rfl, if_neg (by decide), ui_get, if_pos rfl, if_pos rfl]
    have B12 : B.1 94 12 = 0 := by rw [← hB, ui_get, if_pos rfl, if_neg (by decide), ui_get, if_pos rfl, if_neg (by decide), ui_get, if_pos rfl, if_pos rfl]
    have B13 : B.1 94 13 = 0 := by rw [← hB, ui_get, if_pos rfl, if_neg (by decide), ui_get, if_pos rfl, if_pos rfl]
    have B15 : B.1 94 15 = 0 := by rw [← hB, ui_get, if_pos rfl, if_pos rfl]
    have QB : qM sd S5 B := by rw [← hB]; exact (((qM.u94 (by decide)).tr (qM.u94 (by decide))).tr (qM.u94 (by decide))).tr (qM.u94 (by decide))
    have S518 : S5.1 94 18 = nI lv := by rw [F5.2.1 18 (by decide), ui_get, if_pos rfl, if_neg (by decide), j3 18 (by decide)]; exact h18
    have B18 : B.1 94 18 = nI lv := (Bj 18 (by decide) (by decide) (by decide) (by decide)).trans S518
    have B2 : B.1 94 2 = 0 := by rw [Bj 2 (by decide) (by decide) (by decide) (by decide), F5.2.1 2 (by decide), ui_get, if_pos rfl, if_pos rfl]
    generalize hC : rx_ui (rx_ui B 94 19 (nI sd)) 94 20 0 = C
    have Cj : ∀ j, j ≠ 19 → j ≠ 20 → C.1 94 j = B.1 94 j := fun j q1 q2 => by rw [← hC, ui_get, if_pos rfl, if_neg q2, ui_get, if_pos rfl, if_neg q1]
    have Cr : ∀ r, r ≠ 94 → C.1 r = B.1 r := fun r hr => by rw [← hC, ui_row hr, ui_row hr]
    have CL : C.2 = B.2 := by rw [← hC]; rfl
    have C19 : C.1 94 19 = nI sd := by rw [← hC, ui_get, if_pos rfl, if_neg (by decide), ui_get, if_pos rfl, if_pos rfl]
    have C20 : C.1 94 20 = 0 := by rw [← hC, ui_get, if_pos rfl, if_pos rfl]
    have QC' : qM sd B C := by rw [← hC]; exact (qM.u94 (by decide)).tr (qM.u94 (by decide))
    obtain ⟨v2, D, eM2, FD, D94, Dr, DL, dl, d4, d7, d9, d12, d13⟩ := plnM (N := N) (S := C) hN hs2
    have D19 : D.1 94 19 = nI sd := by rw [D94]; exact C19
    have e130 : (130 : Int32) * nI sd = nI (130 * sd) := nI_mul 130 sd
    have e420 : (420 : Int32) * nI sd = nI (420 * sd) := nI_mul 420 sd
    generalize hE : rx_ui (rx_ui D 94 35 (nI (130 * sd))) 94 41 (nI (420 * sd)) = E
    have Ej : ∀ j, j ≠ 35 → j ≠ 41 → E.1 94 j = D.1 94 j := fun j q1 q2 => by rw [← hE, ui_get, if_pos rfl, if_neg q2, ui_get, if_pos rfl, if_neg q1]
    have Er : ∀ r, r ≠ 94 → E.1 r = D.1 r := fun r hr => by rw [← hE, ui_row hr, ui_row hr]
    have EL : E.2 = D.2 := by rw [← hE]; rfl
    have E35 : E.1 94 35 = nI (130 * sd) := by rw [← hE, ui_get, if_pos rfl, if_neg (by decide), ui_get, if_pos rfl, if_pos rfl]
    have E41 : E.1 94 41 = nI (420 * sd) := by rw [← hE, ui_get, if_pos rfl, if_pos rfl]
    have QE : qM sd D E := by rw [← hE]; exact (qM.u94 (by decide)).tr (qM.u94 (by decide))
    have eJ : rdJ N S3 = f_X11_read_L112 N (rdK N) N E := by
      unfold rdJ
      simp only [rx_let]
      rw [eM1, bd_some, hB, B18, esd, hC, C19, eM2, bd_some, D19, e130]
      have q19 : (rx_ui D 94 35 (nI (130 * sd))).1 94 19 = nI sd := by rw [ui_get, if_pos rfl, if_neg (by decide)]; exact D19
      rw [q19, e420, hE]
    have Erow : ∀ r, r ≠ 94 → r < 104 → E.1 r = S5.1 r := fun r q1 q2 => by rw [Er r q1, Dr r q2, Cr r q1, Br r q1]
    have ELL : E.2 = S5.2 := by rw [EL, DL, CL, BL]
    have E94 : ∀ j, j ≠ 35 → j ≠ 41 → j ≠ 19 → j ≠ 20 → E.1 94 j = B.1 94 j := fun j q1 q2 q3 q4 => by rw [Ej j q1 q2, D94, Cj j q3 q4]
    have wME : ∀ i, i < m → tkwM b len i E := fun i hi => by
      unfold tkwM
      rw [Erow 97 (by decide) (by decide), Erow 98 (by decide) (by decide), Erow 99 (by decide) (by decide), ELL]
      exact wM5 i hi
    have wCA : ∀ i, i < m → tkwC b len i A := fun i hi => by
      unfold tkwC
      rw [Ar 16 (by decide), Ar 17 (by decide), AL]
      exact wC7 i hi
    have R0 : RD (tz b len m) sd 0 A E := RD0 hF hs2 tCA (tz_M wME) (tz_R hb1 wCA wME) A4 A5 A6 A8 A9 (by rw [Ar 20 (by decide)]; exact g20) (fun j hj => by rw [Ar 21 (by decide), Ar 22 (by decide)]; exact gl j hj) (by rw [Ar 19 (by decide)]; exact g6) (by rw [Ar 19 (by decide)]; exact g7) (by rw [Ar 19 (by decide)]; exact g8) (by rw [Ar 19 (by decide)]; exact g9) (by rw [Ar 19 (by decide)]; exact g10) (by rw [E94 11 (by decide) (by decide) (by decide) (by decide)]; exact B11) (by rw [E94 12 (by decide) (by decide) (by decide) (by decide)]; exact B12) (by rw [E94 13 (by decide) (by decide) (by decide) (by decide)]; exact B13) (by rw [E94 15 (by decide) (by decide) (by decide) (by decide)]; exact B15) (by rw [Ej 19 (by decide) (by decide)]; exact D19) (by rw [Ej 20 (by decide) (by decide), D94]; exact C20) E35 E41 (fun j hj => by rw [Er 114 (by decide), Er 115 (by decide)]; exact dl j hj) (by rw [Er 104 (by decide)]; exact d4) (by rw [Er 107 (by decide)]; exact d7) (by rw [Er 109 (by decide)]; exact d9) (by rw [Er 112 (by decide)]; exact d12) (by rw [Er 113 (by decide)]; exact d13)
    obtain ⟨SC', SM', x1, x2, x3, x4, x5⟩ := rd_L (K123 := rtK) (K134 := rdK N) hN hF 401 0 N N 0 A E (by omega) R0 (by omega) (by omega) (by omega)
    have E2 : E.1 94 2 = 0 := by rw [E94 2 (by decide) (by decide) (by decide) (by decide)]; exact B2
    refine ⟨SC', SM', x1, by rw [e3, eJ]; exact x2, x3, ?_, ?_, ?_, x5⟩
    · exact (((((Q3.tr (qM.u94 (by decide))).tr F5.q).tr QB).tr QC').tr FD.q).tr (QE.tr x4.q)
    · rw [x4.2.1 2 (by decide) (by decide) (by decide) (by decide) (by decide) (by decide) (by decide) (by decide) (by decide) (by decide)]
      exact E2
    · rw [x4.2.1 19 (by decide) (by decide) (by decide) (by decide) (by decide) (by decide) (by decide) (by decide) (by decide) (by decide), Ej 19 (by decide) (by decide)]
      exact D19
  obtain ⟨SC', SM', x1, x2, x3, x4, x5, x6, x7⟩ := goal
  refine ⟨tz b len m, lv, sd, SC', SM', ⟨hlv, h18, hsd, hF⟩, ?_, x2, ⟨?_, ?_, x4, x5, x6, x3.tk tCA⟩, x7⟩
  · rw [t1, readTape_eq, eC1, bd_some, eC2, bd_some, hA]
    exact x1
  · exact ((F1.q.1.tr F2.q.1).tr FA.q.1).tr x3.q.1
  · rw [x3.q.2, FA.q.2, F2.q.2, F1.q.2]
end BOTH
