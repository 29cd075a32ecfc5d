/-! ===== READ 33: the fresh text ===== -/
section CLR
variable {N : Nat} {S : rx_S}
theorem beg_ok {k : Nat} (hk : k < 7) : f_X2_begin 20 (nI k) S = some ((), rx_ui S 22 k (S.1 20 4)) := by
  unfold f_X2_begin
  rw [if_neg (nI_pos (by omega)), if_neg (show ¬ (7 : Int32) ≤ nI k from nI_ge (b := 7) hk (by decide)), rx_gd_in (vp_in_nI hk (by decide)), nI_clamp (by omega)]
  rfl
def usW (k : Nat) : Int32 := if k = 0 then 2 else if k = 1 then -2 else if k = 2 then -1 else 0
theorem us_ok {k : Nat} (hk : k < 7) : f_X2_usual (nI k) S = some (usW k, S) := by
  have : ∀ k, k < 7 → (nI k = 0 ↔ k = 0) ∧ (nI k = 1 ↔ k = 1) ∧ (nI k = 2 ↔ k = 2) := by decide
  obtain ⟨h0, h1, h2⟩ := this k hk
  unfold f_X2_usual usW
  by_cases e0 : k = 0
  · rw [if_pos (h0.mpr e0), if_pos e0]
  rw [if_neg (fun e => e0 (h0.mp e)), if_neg e0]
  by_cases e1 : k = 1
  · rw [if_pos (h1.mpr e1), if_pos e1]
  rw [if_neg (fun e => e1 (h1.mp e)), if_neg e1]
  by_cases e2 : k = 2
  · rw [if_pos (h2.mpr e2), if_pos e2]
  rw [if_neg (fun e => e2 (h2.mp e)), if_neg e2]
def clF (S S' : rx_S) : Prop := (∀ r, r ≠ 20 → r ≠ 21 → r ≠ 22 → S'.1 r = S.1 r) ∧ S'.2 = S.2
theorem clr_L : ∀ (d f k : Nat) (S : rx_S), k + d = 7 → d < f → S.1 20 4 = nI (2 * k) → (∀ j, j < k → S.1 22 j = nI (2 * j) ∧ S.1 21 (2 * j) = usW j ∧ S.1 21 (2 * j + 1) = -14) → pk (f_X2_clear_L7 20 N f (nI k) S) (fun _ S' => clF S S' ∧ S'.1 20 4 = nI 14 ∧ (∀ j, j < 7 → S'.1 22 j = nI (2 * j) ∧ S'.1 21 (2 * j) = usW j ∧ S'.1 21 (2 * j + 1) = -14)) := by
  intro d
  induction d with
  | zero =>
    intro f k S hk hf h4 hw
    obtain ⟨f, rfl⟩ : ∃ q, f = q + 1 := ⟨f - 1, by omega⟩
    have e : k = 7 := by omega
    subst e
    rw [f_X2_clear_L7, if_pos (by decide), pk_some]
    exact ⟨⟨fun _ _ _ _ => rfl, rfl⟩, h4, hw⟩
  | succ d ih =>
    intro f k S hk hf h4 hw
    obtain ⟨f, rfl⟩ : ∃ q, f = q + 1 := ⟨f - 1, by omega⟩
    have b4 : (rx_ui S 22 k (S.1 20 4)).1 20 4 = nI (2 * k) := by rw [ui_row (by decide)]; exact h4
    have c4 := (adS_at (S := rx_ui S 22 k (S.1 20 4)) (c := 2 * k) (x := usW k)).2.1
    rw [f_X2_clear_L7, if_neg (show ¬ (7 : Int32) ≤ nI k from nI_ge (b := 7) (by omega) (by decide)), beg_ok (by omega), bd_some, us_ok (by omega), bd_some, add_ok b4 (by omega), bd_some, add_ok c4 (by omega), bd_some, pk_let, nI_1]
    generalize hA : rx_ui S 22 k (S.1 20 4) = A
    have A22 : A.1 22 = upd (S.1 22) k (nI (2 * k)) := by rw [← hA, ui_same, h4]
    have Ar : ∀ r, r ≠ 22 → A.1 r = S.1 r := fun r hr => by rw [← hA, ui_row hr]
    have AL : A.2 = S.2 := by rw [← hA]; rfl
    have e1 := adS_e (S := A) (c := 2 * k) (x := usW k)
    have e2 := adS_e (S := adS A (2 * k) (usW k)) (c := 2 * k + 1) (x := -14)
    have a1 := adS_at (S := A) (c := 2 * k) (x := usW k)
    have a2 := adS_at (S := adS A (2 * k) (usW k)) (c := 2 * k + 1) (x := -14)
    have F : clF S (adS (adS A (2 * k) (usW k)) (2 * k + 1) (-14)) := by
      refine ⟨fun r q1 q2 q3 => ?_, e2.2.2.2.2.trans (e1.2.2.2.2.trans AL)⟩
      by_cases q : r = 13
      · subst q
        rw [a2.2.2, a1.2.2, Ar 13 (by decide)]
      · rw [e2.1 r q q1 q2, e1.1 r q q1 q2, Ar r q3]
    refine pk_mono (ih f (k + 1) _ (by omega) (by omega) (by rw [a2.2.1]; congr 1) (fun j hj => ?_)) (fun _ S' g => ⟨⟨fun r q1 q2 q3 => (g.1.1 r q1 q2 q3).trans (F.1 r q1 q2 q3), g.1.2.trans F.2⟩, g.2⟩)
    rw [e2.1 22 (by decide) (by decide) (by decide), e1.1 22 (by decide) (by decide) (by decide), A22]
    by_cases e : j = k
    · subst e
      exact ⟨upd_at, by rw [e2.2.2.2.1 _ (by omega)]; exact a1.1, a2.1⟩
    · obtain ⟨w1, w2, w3⟩ := hw j (by omega)
      exact ⟨by rw [upd_ne e]; exact w1, by rw [e2.2.2.2.1 _ (by omega), e1.2.2.2.1 _ (by omega), Ar 21 (by decide)]; exact w2, by rw [e2.2.2.2.1 _ (by omega), e1.2.2.2.1 _ (by omega), Ar 21 (by decide)]; exact w3⟩
theorem clrC (hN : 5000 ≤ N) : pk (f_X8_clear 19 N S) (fun _ S' => kCf S S' ∧ S'.2 = S.2 ∧ S'.1 13 = S.1 13 ∧ S'.1 20 4 = nI 14 ∧ (∀ j, j < 7 → S'.1 22 j = nI (2 * j) ∧ S'.1 21 (2 * j) = usW j ∧ S'.1 21 (2 * j + 1) = -14) ∧ S'.1 19 6 = 0 ∧ S'.1 19 7 = 0 ∧ S'.1 19 8 = 0 ∧ S'.1 19 9 = 10 ∧ S'.1 19 10 = 0) := by
  have hc : pk (f_X2_clear 20 N S) (fun _ S' => clF S S' ∧ S'.1 20 4 = nI 14 ∧ (∀ j, j < 7 → S'.1 22 j = nI (2 * j) ∧ S'.1 21 (2 * j) = usW j ∧ S'.1 21 (2 * j + 1) = -14)) := by
    unfold f_X2_clear
    rw [pk_let]
    refine pk_mono (clr_L 7 N 0 (rx_ui S 20 4 0) rfl (by omega) (by rw [ui_get, if_pos rfl, if_pos rfl]; rfl) (fun j hj => by omega)) (fun _ S' g => ⟨⟨fun r q1 q2 q3 => (g.1.1 r q1 q2 q3).trans (ui_row q1), g.1.2⟩, g.2⟩)
  unfold f_X8_clear
  refine pk_bdm hc (fun _ S1 g => ?_)
  obtain ⟨g1, g2, g3⟩ := g
  rw [pk_let, pk_let, pk_let, pk_let, pk_let, pk_some]
  have r : ∀ k, k ≠ 19 → (rx_ui (rx_ui (rx_ui (rx_ui (rx_ui S1 19 6 0) 19 7 0) 19 8 0) 19 9 10) 19 10 0).1 k = S1.1 k := fun k hk => by rw [ui_row hk, ui_row hk, ui_row hk, ui_row hk, ui_row hk]
  refine ⟨⟨fun k hk => ?_, fun k _ => ?_⟩, g1.2, ?_, ?_, fun j hj => ?_, ?_, ?_, ?_, ?_, ?_⟩
  · rw [r k (by omega), g1.1 k (by omega) (by omega) (by omega)]
  · show S1.2 k = _
    rw [g1.2]
  · rw [r 13 (by decide), g1.1 13 (by decide) (by decide) (by decide)]
  · rw [r 20 (by decide)]; exact g2
  · rw [r 21 (by decide), r 22 (by decide)]; exact g3 j hj
  · rw [ui_get, if_pos rfl, if_neg (by decide), ui_get, if_pos rfl, if_neg (by decide), ui_get, if_pos rfl, if_neg (by decide), ui_get, if_pos rfl, if_neg (by decide), ui_get, if_pos rfl, if_pos rfl]
  · rw [ui_get, if_pos rfl, if_neg (by decide), ui_get, if_pos rfl, if_neg (by decide), ui_get, if_pos rfl, if_neg (by decide), ui_get, if_pos rfl, if_pos rfl]
  · rw [ui_get, if_pos rfl, if_neg (by decide), ui_get, if_pos rfl, if_neg (by decide), ui_get, if_pos rfl, if_pos rfl]
  · rw [ui_get, if_pos rfl, if_neg (by decide), ui_get, if_pos rfl, if_pos rfl]
  · rw [ui_get, if_pos rfl, if_pos rfl]
theorem pln_L {sd : Nat} (hs : sd < 2) : ∀ (d f k : Nat) (S : rx_S), k + d = 7 → d < f → (∀ j, j < k → S.1 114 (7 * sd + j) = 0 ∧ S.1 115 (7 * sd + j) = 0) → pk (f_X11_plain_L38 N f (nI sd) (nI k) S) (fun _ S' => rdM sd S S' ∧ S'.1 94 = S.1 94 ∧ (∀ r, r ≠ 114 → r ≠ 115 → S'.1 r = S.1 r) ∧ S'.2 = S.2 ∧ (∀ j, j < 7 → S'.1 114 (7 * sd + j) = 0 ∧ S'.1 115 (7 * sd + j) = 0)) := by
  intro d
  induction d with
  | zero =>
    intro f k S hk hf hw
    obtain ⟨f, rfl⟩ : ∃ q, f = q + 1 := ⟨f - 1, by omega⟩
    have e : k = 7 := by omega
    subst e
    rw [f_X11_plain_L38, if_pos (by decide), pk_some]
    exact ⟨rdM.rf, rfl, fun _ _ _ => rfl, rfl, hw⟩
  | succ d ih =>
    intro f k S hk hf hw
    obtain ⟨f, rfl⟩ : ∃ q, f = q + 1 := ⟨f - 1, by omega⟩
    have e7 : (7 : Int32) * nI sd + nI k = nI (7 * sd + k) := by
      have : (7 : Int32) * nI sd = nI (7 * sd) := nI_mul 7 sd
      rw [this, nI_add]
    have F114 : hsz 114 = 7 := rfl
    have F115 : hsz 115 = 7 := rfl
    rw [f_X11_plain_L38, if_neg (show ¬ (7 : Int32) ≤ nI k from nI_ge (b := 7) (by omega) (by decide)), e7, pk_gdn (by omega) (by decide), pk_let, pk_gdn (by omega) (by decide), pk_let, pk_let, nI_clamp (by omega), nI_1]
    refine pk_mono (ih f (k + 1) _ (by omega) (by omega) (fun j hj => ?_)) (fun _ S' g => ⟨((rdM.uh (by decide) (by rw [F114]; omega)).tr (rdM.uh (by decide) (by rw [F115]; omega))).tr g.1, g.2.1.trans (by rw [ui_row (by decide), ui_row (by decide)]), fun r q1 q2 => (g.2.2.1 r q1 q2).trans (by rw [ui_row q2, ui_row q1]), g.2.2.2.1, g.2.2.2.2⟩)
    rw [ui_row (show 114 ≠ 115 by decide), ui_same, ui_same, ui_row (show 115 ≠ 114 by decide)]
    by_cases e : j = k
    · subst e
      exact ⟨upd_at, upd_at⟩
    · rw [upd_ne (by omega), upd_ne (by omega)]
      exact hw j (by omega)
theorem plnM {sd : Nat} (hN : 5000 ≤ N) (hs : sd < 2) : pk (f_X11_plain N (nI sd) S) (fun _ S' => rdM sd S S' ∧ S'.1 94 = S.1 94 ∧ (∀ r, r < 104 → S'.1 r = S.1 r) ∧ S'.2 = S.2 ∧ (∀ j, j < 7 → S'.1 114 (7 * sd + j) = 0 ∧ S'.1 115 (7 * sd + j) = 0) ∧ S'.1 104 sd = 0 ∧ S'.1 107 sd = 0 ∧ S'.1 109 sd = 0 ∧ S'.1 112 sd = 10 ∧ S'.1 113 sd = 0) := by
  unfold f_X11_plain
  have g2 : ∀ (A : Option (Unit × rx_S)) (P : Unit → rx_S → Prop), pk (rx_gd (nI sd) 2 A) P = pk A P := fun A P => pk_gdn hs (by decide)
  have F104 : hsz 104 = 1 := rfl
  have F107 : hsz 107 = 1 := rfl
  have F109 : hsz 109 = 1 := rfl
  have F112 : hsz 112 = 1 := rfl
  have F113 : hsz 113 = 1 := rfl
  rw [g2, pk_let, nI_clamp (by omega), g2, pk_let, g2, pk_let, g2, pk_let, g2, pk_let]
  refine pk_mono (pln_L hs 7 N 0 _ rfl (by omega) (fun j hj => by omega)) (fun _ S' g => ?_)
  obtain ⟨g1, g2, g3, g4, g5⟩ := g
  refine ⟨(((((rdM.uh (by decide) (by rw [F104]; omega)).tr (rdM.uh (by decide) (by rw [F107]; omega))).tr (rdM.uh (by decide) (by rw [F109]; omega))).tr (rdM.uh (by decide) (by rw [F112]; omega))).tr (rdM.uh (by decide) (by rw [F113]; omega))).tr g1, ?_, fun r hr => ?_, g4, g5, ?_, ?_, ?_, ?_, ?_⟩
  · rw [g2, ui_row (by decide), ui_row (by decide), ui_row (by decide), ui_row (by decide), ui_row (by decide)]
  · rw [g3 r (by omega) (by omega), ui_row (by omega), ui_row (by omega), ui_row (by omega), ui_row (by omega), ui_row (by omega)]
  · rw [g3 104 (by decide) (by decide), ui_row (by decide), ui_row (by decide), ui_row (by decide), ui_row (by decide), ui_same]; exact upd_at
  · rw [g3 107 (by decide) (by decide), ui_row (by decide), ui_row (by decide), ui_row (by decide), ui_same]; exact upd_at
  · rw [g3 109 (by decide) (by decide), ui_row (by decide), ui_row (by decide), ui_same]; exact upd_at
  · rw [g3 112 (by decide) (by decide), ui_row (by decide), ui_same]; exact upd_at
  · rw [g3 113 (by decide) (by decide), ui_same]; exact upd_at
end CLR
