/-! ===== READ 37: a text begins ===== -/
theorem cpy_n {f g : Nat → Int32} {n j : Nat} (hj : j < n) : va_cpy f g 0 0 n j = f j := by
  unfold va_cpy
  simp [hj]
section BGN
variable {N : Nat} {S : rx_S}
theorem ur_o {k k' : Nat} {f : Nat → Int32} (h : k' ≠ k) : (rx_ur S k f).1 k' = S.1 k' := by rw [ur_get, if_neg h]
theorem ur_s {k : Nat} {f : Nat → Int32} : (rx_ur S k f).1 k = f := by rw [ur_get, if_pos rfl]
theorem copyC : ∃ S', f_X8_copy S = some ((), S') ∧ (∀ j, j < 420 → S'.1 4 j = S.1 21 j) ∧ (∀ j, j < 7 → S'.1 5 j = S.1 22 j) ∧ (∀ j, j < 6 → S'.1 8 j = S.1 25 j ∧ S'.1 9 j = S.1 26 j ∧ S'.1 10 j = S.1 27 j) ∧ (∀ j, j < 4 → S'.1 11 j = S.1 28 j ∧ S'.1 12 j = S.1 29 j) ∧ (∀ j, 6 ≤ j → j ≤ 10 → S'.1 2 j = S.1 19 j) ∧ (∀ r, r ≠ 2 → r ≠ 3 → r ≠ 4 → r ≠ 5 → (r < 8 ∨ 12 < r) → S'.1 r = S.1 r) ∧ S'.2 = S.2 := by
  unfold f_X8_copy f_X2_copy
  simp only [rx_let, bd_some]
  generalize hA : rx_ur S 4 (va_cpy (S.1 21) (S.1 4) 0 0 420) = A
  have Ar : ∀ r, r ≠ 4 → A.1 r = S.1 r := fun r h => by rw [← hA, ur_o h]
  have A4 : A.1 4 = va_cpy (S.1 21) (S.1 4) 0 0 420 := by rw [← hA, ur_s]
  have AL : A.2 = S.2 := by rw [← hA]; rfl
  generalize hB : rx_ur A 5 (va_cpy (A.1 22) (A.1 5) 0 0 7) = B
  have Br : ∀ r, r ≠ 5 → B.1 r = A.1 r := fun r h => by rw [← hB, ur_o h]
  have B5 : B.1 5 = va_cpy (A.1 22) (A.1 5) 0 0 7 := by rw [← hB, ur_s]
  have BL : B.2 = A.2 := by rw [← hB]; rfl
  generalize hC : rx_ui B 3 4 (B.1 20 4) = C
  have Cr : ∀ r, r ≠ 3 → C.1 r = B.1 r := fun r h => by rw [← hC, ui_row h]
  have CL : C.2 = B.2 := by rw [← hC]; rfl
  generalize hD : rx_ur C 8 (va_cpy (C.1 25) (C.1 8) 0 0 6) = D
  have Dr : ∀ r, r ≠ 8 → D.1 r = C.1 r := fun r h => by rw [← hD, ur_o h]
  have D8 : D.1 8 = va_cpy (C.1 25) (C.1 8) 0 0 6 := by rw [← hD, ur_s]
  have DL : D.2 = C.2 := by rw [← hD]; rfl
  generalize hE : rx_ur D 9 (va_cpy (D.1 26) (D.1 9) 0 0 6) = E
  have Er : ∀ r, r ≠ 9 → E.1 r = D.1 r := fun r h => by rw [← hE, ur_o h]
  have E9 : E.1 9 = va_cpy (D.1 26) (D.1 9) 0 0 6 := by rw [← hE, ur_s]
  have EL : E.2 = D.2 := by rw [← hE]; rfl
  generalize hF : rx_ur E 10 (va_cpy (E.1 27) (E.1 10) 0 0 6) = F
  have Fr : ∀ r, r ≠ 10 → F.1 r = E.1 r := fun r h => by rw [← hF, ur_o h]
  have F10 : F.1 10 = va_cpy (E.1 27) (E.1 10) 0 0 6 := by rw [← hF, ur_s]
  have FL : F.2 = E.2 := by rw [← hF]; rfl
  generalize hG : rx_ur F 11 (va_cpy (F.1 28) (F.1 11) 0 0 4) = G
  have Gr : ∀ r, r ≠ 11 → G.1 r = F.1 r := fun r h => by rw [← hG, ur_o h]
  have G11 : G.1 11 = va_cpy (F.1 28) (F.1 11) 0 0 4 := by rw [← hG, ur_s]
  have GL : G.2 = F.2 := by rw [← hG]; rfl
  generalize hH : rx_ur G 12 (va_cpy (G.1 29) (G.1 12) 0 0 4) = H
  have Hr : ∀ r, r ≠ 12 → H.1 r = G.1 r := fun r h => by rw [← hH, ur_o h]
  have H12 : H.1 12 = va_cpy (G.1 29) (G.1 12) 0 0 4 := by rw [← hH, ur_s]
  have HL : H.2 = G.2 := by rw [← hH]; rfl
  have HS : ∀ r, r ≠ 3 → r ≠ 4 → r ≠ 5 → (r < 8 ∨ 12 < r) → H.1 r = S.1 r := fun r q1 q2 q3 q4 => by rw [Hr r (by omega), Gr r (by omega), Fr r (by omega), Er r (by omega), Dr r (by omega), Cr r q1, Br r q3, Ar r q2]
  have e6 : H.1 19 6 = S.1 19 6 := by rw [HS 19 (by decide) (by decide) (by decide) (by omega)]
  generalize hI : rx_ui H 2 6 (H.1 19 6) = I
  generalize hJ : rx_ui I 2 7 (I.1 19 7) = J
  generalize hK : rx_ui J 2 8 (J.1 19 8) = K
  generalize hLL : rx_ui K 2 9 (K.1 19 9) = L
  have Ir : ∀ r, r ≠ 2 → I.1 r = H.1 r := fun r h => by rw [← hI, ui_row h]
  have Jr : ∀ r, r ≠ 2 → J.1 r = I.1 r := fun r h => by rw [← hJ, ui_row h]
  have Kr : ∀ r, r ≠ 2 → K.1 r = J.1 r := fun r h => by rw [← hK, ui_row h]
  have Lr : ∀ r, r ≠ 2 → L.1 r = K.1 r := fun r h => by rw [← hLL, ui_row h]
  have I2 : I.1 2 = upd (H.1 2) 6 (H.1 19 6) := by rw [← hI, ui_same]
  have J2 : J.1 2 = upd (I.1 2) 7 (I.1 19 7) := by rw [← hJ, ui_same]
  have K2 : K.1 2 = upd (J.1 2) 8 (J.1 19 8) := by rw [← hK, ui_same]
  have L2 : L.1 2 = upd (K.1 2) 9 (K.1 19 9) := by rw [← hLL, ui_same]
  have LS : ∀ r, r ≠ 2 → L.1 r = H.1 r := fun r h => by rw [Lr r h, Kr r h, Jr r h, Ir r h]
  have fin : ∀ r, r ≠ 2 → (rx_ui L 2 10 (L.1 19 10)).1 r = H.1 r := fun r h => by rw [ui_row h, LS r h]
  refine ⟨rx_ui L 2 10 (L.1 19 10), rfl, fun j hj => ?_, fun j hj => ?_, fun j hj => ⟨?_, ?_, ?_⟩, fun j hj => ⟨?_, ?_⟩, fun j h1 h2 => ?_, fun r q1 q2 q3 q4 q5 => ?_, ?_⟩
  · rw [fin 4 (by decide), Hr 4 (by decide), Gr 4 (by decide), Fr 4 (by decide), Er 4 (by decide), Dr 4 (by decide), Cr 4 (by decide), Br 4 (by decide), A4, cpy_n hj]
  · rw [fin 5 (by decide), Hr 5 (by decide), Gr 5 (by decide), Fr 5 (by decide), Er 5 (by decide), Dr 5 (by decide), Cr 5 (by decide), B5, cpy_n hj, Ar 22 (by decide)]
  · rw [fin 8 (by decide), Hr 8 (by decide), Gr 8 (by decide), Fr 8 (by decide), Er 8 (by decide), D8, cpy_n hj, Cr 25 (by decide), Br 25 (by decide), Ar 25 (by decide)]
  · rw [fin 9 (by decide), Hr 9 (by decide), Gr 9 (by decide), Fr 9 (by decide), E9, cpy_n hj, Dr 26 (by decide), Cr 26 (by decide), Br 26 (by decide), Ar 26 (by decide)]
  · rw [fin 10 (by decide), Hr 10 (by decide), Gr 10 (by decide), F10, cpy_n hj, Er 27 (by decide), Dr 27 (by decide), Cr 27 (by decide), Br 27 (by decide), Ar 27 (by decide)]
  · rw [fin 11 (by decide), Hr 11 (by decide), G11, cpy_n hj, Fr 28 (by decide), Er 28 (by decide), Dr 28 (by decide), Cr 28 (by decide), Br 28 (by decide), Ar 28 (by decide)]
  · rw [fin 12 (by decide), H12, cpy_n hj, Gr 29 (by decide), Fr 29 (by decide), Er 29 (by decide), Dr 29 (by decide), Cr 29 (by decide), Br 29 (by decide), Ar 29 (by decide)]
  · have e19 : ∀ X : rx_S, (∀ r, r ≠ 2 → X.1 r = H.1 r) → X.1 19 = S.1 19 := fun X h => by rw [h 19 (by decide), HS 19 (by decide) (by decide) (by decide) (by omega)]
    have hj : j = 6 ∨ j = 7 ∨ j = 8 ∨ j = 9 ∨ j = 10 := by omega
    rw [ui_same, L2, K2, J2, I2, e19 L LS, e19 K (fun r h => by rw [Kr r h, Jr r h, Ir r h]), e19 J (fun r h => by rw [Jr r h, Ir r h]), e19 I Ir, e6]
    rcases hj with rfl | rfl | rfl | rfl | rfl
    · rw [upd_ne (by decide), upd_ne (by decide), upd_ne (by decide), upd_ne (by decide), upd_at]
    · rw [upd_ne (by decide), upd_ne (by decide), upd_ne (by decide), upd_at]
    · rw [upd_ne (by decide), upd_ne (by decide), upd_at]
    · rw [upd_ne (by decide), upd_at]
    · rw [upd_at]
  · rw [fin r q1, HS r q2 q3 q4 q5]
  · show L.2 = S.2
    rw [← hLL, ← hK, ← hJ, ← hI]
    show H.2 = S.2
    rw [HL, GL, FL, EL, DL, CL, BL, AL]
/-! begin -/
theorem b2_L {K : rx_S → Option (Unit × rx_S)} {P : Unit → rx_S → Prop} : ∀ (d f i : Nat) (S : rx_S), i + d = 48 → d < f → (∀ S', fK 32 S S' → (∀ j, j < i → S'.1 32 j = S.1 32 j) → (∀ j, i ≤ j → j < 48 → S'.1 32 j = 0) → pk (K S') P) → pk (f_X8_begin_L2 N K f (nI i) S) P := by
  intro d
  induction d with
  | zero =>
    intro f i S hi hf k
    obtain ⟨f, rfl⟩ : ∃ q, f = q + 1 := ⟨f - 1, by omega⟩
    rw [f_X8_begin_L2, if_pos (show (48 : Int32) ≤ nI i from nI_le (a := 48) (by omega) (by omega))]
    exact k S fK.rf (fun _ _ => rfl) (fun j _ _ => by omega)
  | succ d ih =>
    intro f i S hi hf k
    obtain ⟨f, rfl⟩ : ∃ q, f = q + 1 := ⟨f - 1, by omega⟩
    rw [f_X8_begin_L2, if_neg (show ¬ (48 : Int32) ≤ nI i from nI_ge (b := 48) (by omega) (by decide)), if_neg (show ¬ (48 : Int32) ≤ nI i from nI_ge (b := 48) (by omega) (by decide)), pk_gdn (by omega) (by decide), pk_let, pk_let, nI_clamp (by omega), nI_1]
    refine ih f (i + 1) _ (by omega) (by omega) (fun S' h1 h2 h3 => k S' (fK.ui.tr h1) (fun j hj => ?_) (fun j q1 q2 => ?_))
    · rw [h2 j (by omega), ui_same, upd_ne (by omega)]
    · by_cases e : j = i
      · subst e
        rw [h2 j (by omega), ui_same]
        exact upd_at
      · exact h3 j (by omega) q2
theorem b26_L {K : rx_S → Option (Unit × rx_S)} {P : Unit → rx_S → Prop} {n : Nat} (hn : n ≤ 6) : ∀ (d f i : Nat) (S : rx_S), i + d = n → d < f → S.1 2 6 = nI n → (∀ S', fK 32 S S' → (∀ j, ¬ (4 + i ≤ j ∧ j < 4 + n) → S'.1 32 j = S.1 32 j) → (∀ a, i ≤ a → a < n → S'.1 32 (4 + a) = S.1 8 a) → pk (K S') P) → pk (f_X8_begin_L26 N K f (nI i) S) P := by
  intro d
  induction d with
  | zero =>
    intro f i S hi hf h6 k
    obtain ⟨f, rfl⟩ : ∃ q, f = q + 1 := ⟨f - 1, by omega⟩
    rw [f_X8_begin_L26, h6, if_pos (nI_le (by omega) (by omega))]
    exact k S fK.rf (fun _ _ => rfl) (fun j _ _ => by omega)
  | succ d ih =>
    intro f i S hi hf h6 k
    obtain ⟨f, rfl⟩ : ∃ q, f = q + 1 := ⟨f - 1, by omega⟩
    have e4 : (4 : Int32) + nI i = nI (4 + i) := nI_add 4 i
    rw [f_X8_begin_L26, h6, if_neg (nI_ge (by omega) (by omega)), pk_gdn (by omega) (by decide), e4, pk_gdn (by omega) (by decide), pk_let, pk_let, nI_clamp (by omega), nI_clamp (by omega), nI_1]
    refine ih f (i + 1) _ (by omega) (by omega) (by rw [ui_row (by decide)]; exact h6) (fun S' h1 h2 h3 => k S' (fK.ui.tr h1) (fun j hj => ?_) (fun a q1 q2 => ?_))
    · rw [h2 j (by omega), ui_same, upd_ne (by omega)]
    · by_cases e : a = i
      · subst e
        rw [h2 (4 + a) (by omega), ui_same]
        exact upd_at
      · rw [h3 a (by omega) q2, ui_row (by decide)]
theorem b53_L {K : rx_S → Option (Unit × rx_S)} {P : Unit → rx_S → Prop} {n : Nat} (hn : n ≤ 3) : ∀ (d f i : Nat) (S : rx_S), i + d = n → d < f → S.1 2 7 = nI n → (∀ S', fK 32 S S' → (∀ j, ¬ (16 + i ≤ j ∧ j < 16 + n) → S'.1 32 j = S.1 32 j) → (∀ a, i ≤ a → a < n → S'.1 32 (16 + a) = -1) → pk (K S') P) → pk (f_X8_begin_L53 N K f (nI i) S) P := by
  intro d
  induction d with
  | zero =>
    intro f i S hi hf h6 k
    obtain ⟨f, rfl⟩ : ∃ q, f = q + 1 := ⟨f - 1, by omega⟩
    rw [f_X8_begin_L53, h6, if_pos (nI_le (by omega) (by omega))]
    exact k S fK.rf (fun _ _ => rfl) (fun j _ _ => by omega)
  | succ d ih =>
    intro f i S hi hf h6 k
    obtain ⟨f, rfl⟩ : ∃ q, f = q + 1 := ⟨f - 1, by omega⟩
    have e4 : (16 : Int32) + nI i = nI (16 + i) := nI_add 16 i
    rw [f_X8_begin_L53, h6, if_neg (nI_ge (by omega) (by omega)), e4, pk_gdn (by omega) (by decide), pk_let, pk_let, nI_clamp (by omega), nI_1]
    refine ih f (i + 1) _ (by omega) (by omega) (by rw [ui_row (by decide)]; exact h6) (fun S' h1 h2 h3 => k S' (fK.ui.tr h1) (fun j hj => ?_) (fun a q1 q2 => ?_))
    · rw [h2 j (by omega), ui_same, upd_ne (by omega)]
    · by_cases e : a = i
      · subst e
        rw [h2 (16 + a) (by omega), ui_same]
        exact upd_at
      · exact h3 a (by omega) q2
theorem b76_L {n : Nat} (hn : n ≤ 4) : ∀ (d f i : Nat) (S : rx_S), i + d = n → d < f → S.1 2 8 = nI n → pk (f_X8_begin_L76 N f (nI i) S) (fun _ S' => fK 32 S S' ∧ (∀ j, ¬ (28 + i ≤ j ∧ j < 28 + n) → S'.1 32 j = S.1 32 j) ∧ (∀ a, i ≤ a → a < n → S'.1 32 (28 + a) = S.1 12 a)) := by
  intro d
  induction d with
  | zero =>
    intro f i S hi hf h6
    obtain ⟨f, rfl⟩ : ∃ q, f = q + 1 := ⟨f - 1, by omega⟩
    rw [f_X8_begin_L76, h6, if_pos (nI_le (by omega) (by omega)), pk_some]
    exact ⟨fK.rf, fun _ _ => rfl, fun j _ _ => by omega⟩
  | succ d ih =>
    intro f i S hi hf h6
    obtain ⟨f, rfl⟩ : ∃ q, f = q + 1 := ⟨f - 1, by omega⟩
    have e4 : (28 : Int32) + nI i = nI (28 + i) := nI_add 28 i
    rw [f_X8_begin_L76, h6, if_neg (nI_ge (by omega) (by omega)), pk_gdn (by omega) (by decide), e4, pk_gdn (by omega) (by decide), pk_let, pk_let, nI_clamp (by omega), nI_clamp (by omega), nI_1]
    refine pk_mono (ih f (i + 1) _ (by omega) (by omega) (by rw [ui_row (by decide)]; exact h6)) (fun _ S' h => ⟨fK.ui.tr h.1, fun j hj => ?_, fun a q1 q2 => ?_⟩)
    · rw [h.2.1 j (by omega), ui_same, upd_ne (by omega)]
    · by_cases e : a = i
      · subst e
        rw [h.2.1 (28 + a) (by omega), ui_same]
        exact upd_at
      · rw [h.2.2 a (by omega) q2, ui_row (by decide)]
def bgR (nS nC nT : Nat) (M D : Nat → Int32) (j : Nat) : Int32 := if 4 ≤ j ∧ j < 4 + nS then M (j - 4) else if 16 ≤ j ∧ j < 16 + nC then -1 else if 28 ≤ j ∧ j < 28 + nT then D (j - 28) else 0
theorem beginC {nS nC nT : Nat} (hN : 5000 ≤ N) (h6 : S.1 2 6 = nI nS) (h7 : S.1 2 7 = nI nC) (h8 : S.1 2 8 = nI nT) (hS : nS ≤ 6) (hC : nC ≤ 3) (hT : nT ≤ 4) : pk (f_X8_begin N S) (fun _ S' => fK 32 S S' ∧ ∀ j, j < 48 → S'.1 32 j = bgR nS nC nT (S.1 8) (S.1 12) j) := by
  unfold f_X8_begin
  rw [pk_let]
  refine b2_L 48 N 0 S rfl (by omega) (fun S1 a1 a2 a3 => ?_)
  rw [pk_let]
  refine b26_L hS nS N 0 S1 (by omega) (by omega) (by rw [a1.1 2 (by decide)]; exact h6) (fun S2 b1 b2 b3 => ?_)
  rw [pk_let]
  refine b53_L hC nC N 0 S2 (by omega) (by omega) (by rw [b1.1 2 (by decide), a1.1 2 (by decide)]; exact h7) (fun S3 c1 c2 c3 => ?_)
  refine pk_mono (b76_L hT nT N 0 S3 (by omega) (by omega) (by rw [c1.1 2 (by decide), b1.1 2 (by decide), a1.1 2 (by decide)]; exact h8)) (fun _ S4 h => ?_)
  obtain ⟨d1, d2, d3⟩ := h
  refine ⟨((a1.tr b1).tr c1).tr d1, fun j hj => ?_⟩
  unfold bgR
  by_cases e1 : 4 ≤ j ∧ j < 4 + nS
  · rw [if_pos e1, d2 j (by omega), c2 j (by omega)]
    have := b3 (j - 4) (by omega) (by omega)
    rw [show 4 + (j - 4) = j by omega, a1.1 8 (by decide)] at this
    exact this
  rw [if_neg e1]
  by_cases e2 : 16 ≤ j ∧ j < 16 + nC
  · rw [if_pos e2, d2 j (by omega)]
    have := c3 (j - 16) (by omega) (by omega)
    rw [show 16 + (j - 16) = j by omega] at this
    exact this
  rw [if_neg e2]
  by_cases e3 : 28 ≤ j ∧ j < 28 + nT
  · rw [if_pos e3]
    have := d3 (j - 28) (by omega) (by omega)
    rw [show 28 + (j - 28) = j by omega, c1.1 12 (by decide), b1.1 12 (by decide), a1.1 12 (by decide)] at this
    exact this
  rw [if_neg e3, d2 j (by omega), c2 j (by omega), b2 j (by omega)]
  exact a3 j (by omega) hj
theorem emptyC : ∀ (d f i : Nat) (S : rx_S), i + d = 3 → d < f → pk (f_X3_emptySlots_L2 N f (nI i) S) (fun _ S' => fK 79 S S' ∧ (∀ j, j < i → S'.1 79 j = S.1 79 j) ∧ (∀ j, i ≤ j → j < 3 → S'.1 79 j = 0)) := by
  intro d
  induction d with
  | zero =>
    intro f i S hi hf
    obtain ⟨f, rfl⟩ : ∃ q, f = q + 1 := ⟨f - 1, by omega⟩
    rw [f_X3_emptySlots_L2, if_pos (show (3 : Int32) ≤ nI i from nI_le (a := 3) (by omega) (by omega)), pk_some]
    exact ⟨fK.rf, fun _ _ => rfl, fun j _ _ => by omega⟩
  | succ d ih =>
    intro f i S hi hf
    obtain ⟨f, rfl⟩ : ∃ q, f = q + 1 := ⟨f - 1, by omega⟩
    rw [f_X3_emptySlots_L2, if_neg (show ¬ (3 : Int32) ≤ nI i from nI_ge (b := 3) (by omega) (by decide)), pk_gdn (by omega) (by decide), pk_let, pk_let, nI_clamp (by omega), nI_1, show vp_nar .boolean 0 = 0 from by decide]
    refine pk_mono (ih f (i + 1) _ (by omega) (by omega)) (fun _ S' h => ⟨fK.ui.tr h.1, fun j hj => ?_, fun j q1 q2 => ?_⟩)
    · rw [h.2.1 j (by omega), ui_same, upd_ne (by omega)]
    · by_cases e : j = i
      · subst e
        rw [h.2.1 j (by omega), ui_same]
        exact upd_at
      · exact h.2.2 j (by omega) q2
end BGN
