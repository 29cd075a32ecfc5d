/-! ===== READ 38: a text begins, in the reference ===== -/
section BGM
variable {N : Nat} {S : rx_S}
theorem m2_L {K : rx_S → Option (Unit × rx_S)} {P : Unit → rx_S → Prop} : ∀ (d f i : Nat) (S : rx_S), i + d = 48 → d < f → (∀ S', fK 127 S S' → (∀ j, j < i → S'.1 127 j = S.1 127 j) → (∀ j, i ≤ j → j < 48 → S'.1 127 j = 0) → pk (K S') P) → pk (f_X11_begins_L2 N K f (nI i) S) P := by
  intro d
  induction d with
  | zero =>
    intro f i S hi hf k
    obtain ⟨f, rfl⟩ : ∃ q, f = q + 1 := ⟨f - 1, by omega⟩
    rw [f_X11_begins_L2, if_pos (show (48 : Int32) ≤ nI i from nI_le (a := 48) (by omega) (by omega))]
    exact k S fK.rf (fun _ _ => rfl) (fun j _ _ => by omega)
  | succ d ih =>
    intro f i S hi hf k
    obtain ⟨f, rfl⟩ : ∃ q, f = q + 1 := ⟨f - 1, by omega⟩
    rw [f_X11_begins_L2, if_neg (show ¬ (48 : Int32) ≤ nI i from nI_ge (b := 48) (by omega) (by decide)), pk_gdn (by omega) (by decide), pk_let, pk_let, nI_clamp (by omega), nI_1]
    refine ih f (i + 1) _ (by omega) (by omega) (fun S' h1 h2 h3 => k S' (fK.ui.tr h1) (fun j hj => ?_) (fun j q1 q2 => ?_))
    · rw [h2 j (by omega), ui_same, upd_ne (by omega)]
    · by_cases e : j = i
      · subst e
        rw [h2 j (by omega), ui_same]
        exact upd_at
      · exact h3 j (by omega) q2
theorem m23_L {K : rx_S → Option (Unit × rx_S)} {P : Unit → rx_S → Prop} {n lv : Nat} (hn : n ≤ 6) (hlv : lv < 2) : ∀ (d f i : Nat) (S : rx_S), i + d = n → d < f → S.1 94 18 = nI lv → S.1 104 lv = nI n → (∀ S', fK 127 S S' → (∀ j, ¬ (i ≤ j ∧ j < n) → S'.1 127 j = S.1 127 j) → (∀ a, i ≤ a → a < n → S'.1 127 a = S.1 105 (6 * lv + a)) → pk (K S') P) → pk (f_X11_begins_L23 N K f (nI i) S) P := by
  intro d
  induction d with
  | zero =>
    intro f i S hi hf h18 h6 k
    obtain ⟨f, rfl⟩ : ∃ q, f = q + 1 := ⟨f - 1, by omega⟩
    rw [f_X11_begins_L23, h18, pk_gdn hlv (by decide), nI_clamp (by omega), h6, if_pos (nI_le (by omega) (by omega))]
    exact k S fK.rf (fun _ _ => rfl) (fun j _ _ => by omega)
  | succ d ih =>
    intro f i S hi hf h18 h6 k
    obtain ⟨f, rfl⟩ : ∃ q, f = q + 1 := ⟨f - 1, by omega⟩
    have e6 : (6 : Int32) * nI lv + nI i = nI (6 * lv + i) := by
      have : (6 : Int32) * nI lv = nI (6 * lv) := nI_mul 6 lv
      rw [this, nI_add]
    rw [f_X11_begins_L23, h18, pk_gdn hlv (by decide), nI_clamp (by omega), h6, if_neg (nI_ge (by omega) (by omega)), e6, pk_gdn (by omega) (by decide), pk_gdn (by omega) (by decide), pk_let, pk_let, nI_clamp (by omega), nI_clamp (by omega), nI_1]
    refine ih f (i + 1) _ (by omega) (by omega) (by rw [ui_row (by decide)]; exact h18) (by rw [ui_row (by decide)]; exact h6) (fun S' h1 h2 h3 => k S' (fK.ui.tr h1) (fun j hj => ?_) (fun a q1 q2 => ?_))
    · rw [h2 j (by omega), ui_same, upd_ne (by omega)]
    · by_cases e : a = i
      · subst e
        rw [h2 a (by omega), ui_same]
        exact upd_at
      · rw [h3 a (by omega) q2, ui_row (by decide)]
theorem m64_L {K : rx_S → Option (Unit × rx_S)} {P : Unit → rx_S → Prop} : ∀ (d f i : Nat) (S : rx_S), i + d = 3 → d < f → (∀ S', fK 127 S S' → (∀ j, ¬ (12 + i ≤ j ∧ j < 15) → S'.1 127 j = S.1 127 j) → (∀ a, i ≤ a → a < 3 → S'.1 127 (12 + a) = -2) → pk (K S') P) → pk (f_X11_begins_L64 N K f (nI i) S) P := by
  intro d
  induction d with
  | zero =>
    intro f i S hi hf k
    obtain ⟨f, rfl⟩ : ∃ q, f = q + 1 := ⟨f - 1, by omega⟩
    rw [f_X11_begins_L64, if_pos (show (3 : Int32) ≤ nI i from nI_le (a := 3) (by omega) (by omega))]
    exact k S fK.rf (fun _ _ => rfl) (fun j _ _ => by omega)
  | succ d ih =>
    intro f i S hi hf k
    obtain ⟨f, rfl⟩ : ∃ q, f = q + 1 := ⟨f - 1, by omega⟩
    have e4 : (12 : Int32) + nI i = nI (12 + i) := nI_add 12 i
    rw [f_X11_begins_L64, if_neg (show ¬ (3 : Int32) ≤ nI i from nI_ge (b := 3) (by omega) (by decide)), e4, pk_gdn (by omega) (by decide), pk_let, pk_let, nI_clamp (by omega), nI_1]
    refine ih f (i + 1) _ (by omega) (by omega) (fun S' h1 h2 h3 => k S' (fK.ui.tr h1) (fun j hj => ?_) (fun a q1 q2 => ?_))
    · rw [h2 j (by omega), ui_same, upd_ne (by omega)]
    · by_cases e : a = i
      · subst e
        rw [h2 (12 + a) (by omega), ui_same]
        exact upd_at
      · exact h3 a (by omega) q2
theorem m88_L {K : rx_S → Option (Unit × rx_S)} {P : Unit → rx_S → Prop} {n lv : Nat} (hn : n ≤ 4) (hlv : lv < 2) : ∀ (d f i : Nat) (S : rx_S), i + d = n → d < f → S.1 94 18 = nI lv → S.1 109 lv = nI n → (∀ S', fK 127 S S' → (∀ j, ¬ (24 + i ≤ j ∧ j < 24 + n) → S'.1 127 j = S.1 127 j) → (∀ a, i ≤ a → a < n → S'.1 127 (24 + a) = S.1 111 (4 * lv + a)) → pk (K S') P) → pk (f_X11_begins_L88 N K f (nI i) S) P := by
  intro d
  induction d with
  | zero =>
    intro f i S hi hf h18 h6 k
    obtain ⟨f, rfl⟩ : ∃ q, f = q + 1 := ⟨f - 1, by omega⟩
    rw [f_X11_begins_L88, h18, pk_gdn hlv (by decide), nI_clamp (by omega), h6, if_pos (nI_le (by omega) (by omega))]
    exact k S fK.rf (fun _ _ => rfl) (fun j _ _ => by omega)
  | succ d ih =>
    intro f i S hi hf h18 h6 k
    obtain ⟨f, rfl⟩ : ∃ q, f = q + 1 := ⟨f - 1, by omega⟩
    have e6 : (4 : Int32) * nI lv + nI i = nI (4 * lv + i) := by
      have : (4 : Int32) * nI lv = nI (4 * lv) := nI_mul 4 lv
      rw [this, nI_add]
    have e24 : (24 : Int32) + nI i = nI (24 + i) := nI_add 24 i
    rw [f_X11_begins_L88, h18, pk_gdn hlv (by decide), nI_clamp (by omega), h6, if_neg (nI_ge (by omega) (by omega)), e6, e24, pk_gdn (by omega) (by decide), pk_gdn (by omega) (by decide), pk_let, pk_let, nI_clamp (by omega), nI_clamp (by omega), nI_1]
    refine ih f (i + 1) _ (by omega) (by omega) (by rw [ui_row (by decide)]; exact h18) (by rw [ui_row (by decide)]; exact h6) (fun S' h1 h2 h3 => k S' (fK.ui.tr h1) (fun j hj => ?_) (fun a q1 q2 => ?_))
    · rw [h2 j (by omega), ui_same, upd_ne (by omega)]
    · by_cases e : a = i
      · subst e
        rw [h2 (24 + a) (by omega), ui_same]
        exact upd_at
      · rw [h3 a (by omega) q2, ui_row (by decide)]
def bgM (nS nT : Nat) (M D : Nat → Int32) (j : Nat) : Int32 := if j < nS then M j else if 12 ≤ j ∧ j < 15 then -2 else if 24 ≤ j ∧ j < 24 + nT then D (j - 24) else 0
theorem beginsM {nS nT lv : Nat} (hN : 5000 ≤ N) (hlv : lv < 2) (h18 : S.1 94 18 = nI lv) (h4 : S.1 104 lv = nI nS) (h9 : S.1 109 lv = nI nT) (hS : nS ≤ 6) (hT : nT ≤ 4) : pk (f_X11_begins N S) (fun _ S' => (∀ r, r ≠ 94 → r ≠ 127 → S'.1 r = S.1 r) ∧ (∀ j, j ≠ 51 → S'.1 94 j = S.1 94 j) ∧ S'.2 = S.2 ∧ ∀ j, j < 48 → S'.1 127 j = bgM nS nT (fun a => S.1 105 (6 * lv + a)) (fun i => S.1 111 (4 * lv + i)) j) := by
  unfold f_X11_begins
  rw [pk_let]
  refine m2_L 48 N 0 S rfl (by omega) (fun S1 a1 a2 a3 => ?_)
  rw [pk_let]
  refine m23_L hS hlv nS N 0 S1 (by omega) (by omega) (by rw [a1.1 94 (by decide)]; exact h18) (by rw [a1.1 104 (by decide)]; exact h4) (fun S2 b1 b2 b3 => ?_)
  rw [pk_let]
  refine m64_L 3 N 0 S2 rfl (by omega) (fun S3 c1 c2 c3 => ?_)
  rw [pk_let]
  have f3 := (a1.tr b1).tr c1
  refine m88_L hT hlv nT N 0 S3 (by omega) (by omega) (by rw [f3.1 94 (by decide)]; exact h18) (by rw [f3.1 109 (by decide)]; exact h9) (fun S4 d1 d2 d3 => ?_)
  have f4 := f3.tr d1
  have e18 : S4.1 94 18 = nI lv := by rw [f4.1 94 (by decide)]; exact h18
  rw [e18, pk_gdn hlv (by decide), pk_let, pk_some]
  refine ⟨fun r q1 q2 => by rw [ui_row q1, f4.1 r q2], fun j hj => by rw [ui_get, if_pos rfl, if_neg hj, f4.1 94 (by decide)], f4.2, fun j hj => ?_⟩
  rw [ui_row (by decide)]
  unfold bgM
  by_cases e1 : j < nS
  · rw [if_pos e1, d2 j (by omega), c2 j (by omega), b3 j (by omega) e1, a1.1 105 (by decide)]
  rw [if_neg e1]
  by_cases e2 : 12 ≤ j ∧ j < 15
  · rw [if_pos e2, d2 j (by omega)]
    have := c3 (j - 12) (by omega) (by omega)
    rw [show 12 + (j - 12) = j by omega] at this
    exact this
  rw [if_neg e2]
  by_cases e3 : 24 ≤ j ∧ j < 24 + nT
  · rw [if_pos e3]
    have := d3 (j - 24) (by omega) (by omega)
    rw [show 24 + (j - 24) = j by omega, f3.1 111 (by decide)] at this
    exact this
  rw [if_neg e3, d2 j (by omega), c2 j (by omega), b2 j (by omega)]
  exact a3 j (by omega) hj
theorem keepsM_L : ∀ (d f i : Nat) (S : rx_S), i + d = 48 → d < f → pk (f_X11_keepsRow_L2 N f (nI i) S) (fun _ S' => fK 126 S S' ∧ (∀ j, j < i → S'.1 126 j = S.1 126 j) ∧ (∀ j, i ≤ j → j < 48 → S'.1 126 j = S.1 127 j)) := by
  intro d
  induction d with
  | zero =>
    intro f i S hi hf
    obtain ⟨f, rfl⟩ : ∃ q, f = q + 1 := ⟨f - 1, by omega⟩
    rw [f_X11_keepsRow_L2, if_pos (show (48 : Int32) ≤ nI i from nI_le (a := 48) (by omega) (by omega)), pk_some]
    exact ⟨fK.rf, fun _ _ => rfl, fun j _ _ => by omega⟩
  | succ d ih =>
    intro f i S hi hf
    obtain ⟨f, rfl⟩ : ∃ q, f = q + 1 := ⟨f - 1, by omega⟩
    rw [f_X11_keepsRow_L2, if_neg (show ¬ (48 : Int32) ≤ nI i from nI_ge (b := 48) (by omega) (by decide)), pk_gdn (by omega) (by decide), pk_gdn (by omega) (by decide), pk_let, pk_let, nI_clamp (by omega), nI_1]
    refine pk_mono (ih f (i + 1) _ (by omega) (by omega)) (fun _ S' h => ⟨fK.ui.tr h.1, fun j hj => ?_, fun j q1 q2 => ?_⟩)
    · rw [h.2.1 j (by omega), ui_same, upd_ne (by omega)]
    · by_cases e : j = i
      · subst e
        rw [h.2.1 j (by omega), ui_same]
        exact upd_at
      · rw [h.2.2 j (by omega) q2, ui_row (by decide)]
theorem unheld_L : ∀ (d f i : Nat) (S : rx_S), i + d = 3 → d < f → pk (f_X11_read_L219 N f (nI i) S) (fun r S' => r = 0 ∧ fK 137 S S' ∧ (∀ j, j < i → S'.1 137 j = S.1 137 j) ∧ (∀ j, i ≤ j → j < 3 → S'.1 137 j = 0)) := by
  intro d
  induction d with
  | zero =>
    intro f i S hi hf
    obtain ⟨f, rfl⟩ : ∃ q, f = q + 1 := ⟨f - 1, by omega⟩
    rw [f_X11_read_L219, if_pos (show (3 : Int32) ≤ nI i from nI_le (a := 3) (by omega) (by omega)), pk_some]
    exact ⟨rfl, fK.rf, fun _ _ => rfl, fun j _ _ => by omega⟩
  | succ d ih =>
    intro f i S hi hf
    obtain ⟨f, rfl⟩ : ∃ q, f = q + 1 := ⟨f - 1, by omega⟩
    rw [f_X11_read_L219, if_neg (show ¬ (3 : Int32) ≤ nI i from nI_ge (b := 3) (by omega) (by decide)), pk_gdn (by omega) (by decide), pk_let, pk_let, nI_clamp (by omega), nI_1, show vp_nar .boolean 0 = 0 from by decide]
    refine pk_mono (ih f (i + 1) _ (by omega) (by omega)) (fun _ S' h => ⟨h.1, fK.ui.tr h.2.1, fun j hj => ?_, fun j q1 q2 => ?_⟩)
    · rw [h.2.2.1 j (by omega), ui_same, upd_ne (by omega)]
    · by_cases e : j = i
      · subst e
        rw [h.2.2.1 j (by omega), ui_same]
        exact upd_at
      · exact h.2.2.2 j (by omega) q2
end BGM
