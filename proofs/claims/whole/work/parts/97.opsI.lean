/-! ===== altered, loses, least, truest ===== -/
def edr (prev : Nat → Nat) (w i : Nat) (b : Nat → Nat) : Nat → Nat
  | 0 => i
  | j + 1 => min (prev j + (if w = b j then 0 else 1)) (min (prev (j + 1) + 1) (edr prev w i b j + 1))
def edi (a b : Nat → Nat) : Nat → Nat → Nat
  | 0 => fun j => j
  | i + 1 => edr (edi a b i) (a i) (i + 1) b
theorem edr_le {prev : Nat → Nat} {w i : Nat} {b : Nat → Nat} : ∀ j, edr prev w i b j ≤ i + j := by
  intro j
  induction j with
  | zero => exact Nat.le_refl _
  | succ j ih =>
    unfold edr
    have := Nat.min_le_right (prev j + (if w = b j then 0 else 1)) (min (prev (j + 1) + 1) (edr prev w i b j + 1))
    have := Nat.min_le_right (prev (j + 1) + 1) (edr prev w i b j + 1)
    omega
theorem edi_le {a b : Nat → Nat} {i j : Nat} : edi a b i j ≤ i + j := by
  cases i with
  | zero => show j ≤ 0 + j; omega
  | succ i => exact edr_le j
def alt (v u : Nat) : Nat := edi (wd v (rl v)) (wd u (rl u)) (rl v) (rl u)
theorem alt_le {v u : Nat} : alt v u ≤ 10 := by
  have h := edi_le (a := wd v (rl v)) (b := wd u (rl u)) (i := rl v) (j := rl u)
  have h1 := rl_le v
  have h2 := rl_le u
  unfold alt
  omega
theorem nI_min {a b : Nat} (ha : a < 2 ^ 31) (hb : b < 2 ^ 31) : (if nI a < nI b then nI a else nI b) = nI (min a b) := by
  by_cases q : a < b
  · rw [if_pos (nI_lt q hb), Nat.min_eq_left (by omega)]
  · rw [if_neg (nI_nlt (by omega) ha), Nat.min_eq_right (by omega)]
section OPI
variable {N : Nat} {T : tx} {n : Nat} {SC SM SC' SM' : rx_S} {st : Nat → Int32} {w0 : Nat}
theorem wC.u {kk : Nat} {S : rx_S} {i : Nat} {v : Int32} : wC kk S (rx_ui S kk i v) := ⟨fun k _ _ h => ui_row h, rfl⟩
/-- the class: one line down -/
theorem down_L {S : rx_S} {prev b : Nat → Nat} {w i v m : Nat} (hv : v < 2 ^ 31) (hm : m ≤ 5) (hp : ∀ j, prev j ≤ i + j) (hi : i ≤ 10) (hw : w < 8) (hb : ∀ j, b j = wd v m j) : ∀ (k c j : Nat) (S1 : rx_S), j + k = m → k < c → wC 83 S S1 → (∀ q, q ≤ j → S1.1 83 q = nI (edr prev w i b q)) → (∀ q, j < q → q ≤ m → S1.1 83 q = nI (prev q)) → pk (f_X5_goDown_L18 N c (nI w) (nI v) (nI m) (nI (prev j)) (nI (j + 1)) S1) (fun _ S' => wC 83 S S' ∧ ∀ q, q ≤ m → S'.1 83 q = nI (edr prev w i b q)) := by
  intro k
  induction k with
  | zero =>
    intro c j S1 hj hc hs h1 h2
    obtain ⟨c, rfl⟩ : ∃ q, c = q + 1 := ⟨c - 1, by omega⟩
    rw [f_X5_goDown_L18, if_pos (nI_lt (by omega) (by omega)), pk_some]
    exact ⟨hs, fun q hq => h1 q (by omega)⟩
  | succ k ih =>
    intro c j S1 hj hc hs h1 h2
    obtain ⟨c, rfl⟩ : ∃ q, c = q + 1 := ⟨c - 1, by omega⟩
    have hpj := hp j
    have hpj1 := hp (j + 1)
    have her := edr_le (prev := prev) (w := w) (i := i) (b := b) j
    rw [f_X5_goDown_L18, if_neg (nI_nlt (by omega) (by omega)), if_neg (show ¬ (6 : Int32) ≤ nI (j + 1) from nI_ge (b := 6) (by omega) (by decide)), show nI (j + 1) - 1 = nI j from nI_pred j, wordAt_eq hv hm (by omega), bd_some, pk_let]
    have hwd := wd_lt v m j
    have hq : nI (wd v m j) = nI w ↔ w = b j := by
      rw [nI_eq (by omega) (by omega), hb j]
      exact eq_comm
    have fin : ∀ d : Nat, d = (if w = b j then 0 else 1) → pk (rx_let (nI (prev j) + nI d) (fun x26 => rx_gd (nI (j + 1)) 6 (rx_let (S1.1 83 (Int32.toNatClampNeg (nI (j + 1)))) (fun x28 => rx_gd (nI (j + 1)) 6 (rx_gd (nI (j + 1) - 1) 6 (rx_gd (nI (j + 1)) 6 (rx_let (rx_ui S1 83 (Int32.toNatClampNeg (nI (j + 1))) (if ((1 : Int32) + (if (S1.1 83 (Int32.toNatClampNeg (nI (j + 1) - 1))) < (S1.1 83 (Int32.toNatClampNeg (nI (j + 1)))) then (S1.1 83 (Int32.toNatClampNeg (nI (j + 1) - 1))) else (S1.1 83 (Int32.toNatClampNeg (nI (j + 1)))))) < x26 then ((1 : Int32) + (if (S1.1 83 (Int32.toNatClampNeg (nI (j + 1) - 1))) < (S1.1 83 (Int32.toNatClampNeg (nI (j + 1)))) then (S1.1 83 (Int32.toNatClampNeg (nI (j + 1) - 1))) else (S1.1 83 (Int32.toNatClampNeg (nI (j + 1)))))) else x26)) (fun S32 => rx_let (nI (j + 1) + 1) (fun x33 => f_X5_goDown_L18 N c (nI w) (nI v) (nI m) x28 x33 S32))))))))) (fun _ S' => wC 83 S S' ∧ ∀ q, q ≤ m → S'.1 83 q = nI (edr prev w i b q)) := by
      intro d hd
      have hd1 : d ≤ 1 := by rw [hd]; split <;> omega
      rw [pk_let, nI_add, show nI (j + 1) - 1 = nI j from nI_pred j, pk_gdn (by omega) (by decide), pk_let, pk_gdn (by omega) (by decide), pk_gdn (by omega) (by decide), pk_gdn (by omega) (by decide), pk_let, pk_let, nI_1, nI_clamp (show j + 1 < 2 ^ 31 by omega), nI_clamp (show j < 2 ^ 31 by omega), h1 j (Nat.le_refl _), h2 (j + 1) (by omega) (by omega), nI_min (by omega) (by omega), show (1 : Int32) + nI (min (edr prev w i b j) (prev (j + 1))) = nI (1 + min (edr prev w i b j) (prev (j + 1))) from nI_add 1 _, nI_min (by omega) (by omega)]
      have ev : min (1 + min (edr prev w i b j) (prev (j + 1))) (prev j + d) = edr prev w i b (j + 1) := by
        rw [edr, ← hd]
        omega
      rw [ev]
      refine ih c (j + 1) _ (by omega) (by omega) (hs.tr wC.u) (fun q hq => ?_) (fun q hq hq2 => ?_)
      · rw [ui_same]
        by_cases e : q = j + 1
        · rw [e, upd_at]
        · rw [upd_ne e]; exact h1 q (by omega)
      · rw [ui_same, upd_ne (by omega)]; exact h2 q (by omega) hq2
    by_cases q : w = b j
    · rw [if_pos (hq.mpr q)]
      exact fin 0 (by rw [if_pos q])
    · rw [if_neg (fun z => q (hq.mp z))]
      exact fin 1 (by rw [if_neg q])
theorem chg62_L (hN : 5000 ≤ N) {S : rx_S} {v u nn m : Nat} {a b : Nat → Nat} (hv : v < 2 ^ 31) (hu : u < 2 ^ 31) (hn : nn ≤ 5) (hm : m ≤ 5) (ha : ∀ i, a i = wd v nn i) (hb : ∀ j, b j = wd u m j) {Q : Int32 → rx_S → Prop} {K : Int32 → rx_S → Option (Int32 × rx_S)} (kk : ∀ S', wC 83 S S' → (∀ q, q ≤ m → S'.1 83 q = nI (edi a b nn q)) → pk (K (nI m) S') Q) : ∀ (k c i : Nat) (S1 : rx_S), i + k = nn → k < c → wC 83 S S1 → (∀ q, q ≤ m → S1.1 83 q = nI (edi a b i q)) → pk (f_X5_changes_L62 N K c (nI v) (nI u) (nI nn) (nI m) (nI (i + 1)) S1) Q := by
  intro k
  induction k with
  | zero =>
    intro c i S1 hi hc hs h1
    obtain ⟨c, rfl⟩ : ∃ q, c = q + 1 := ⟨c - 1, by omega⟩
    have : i = nn := by omega
    subst this
    rw [f_X5_changes_L62, if_pos (nI_lt (by omega) (by omega))]
    exact kk S1 hs h1
  | succ k ih =>
    intro c i S1 hi hc hs h1
    obtain ⟨c, rfl⟩ : ∃ q, c = q + 1 := ⟨c - 1, by omega⟩
    rw [f_X5_changes_L62, if_neg (nI_nlt (by omega) (by omega)), show nI (i + 1) - 1 = nI i from nI_pred i, wordAt_eq hv hn (by omega), bd_some]
    have h2 : pk (f_X5_goDown N (nI (i + 1)) (nI (wd v nn i)) (nI u) (nI m) S1) (fun _ S' => wC 83 S1 S' ∧ ∀ q, q ≤ m → S'.1 83 q = nI (edr (edi a b i) (wd v nn i) (i + 1) b q)) := by
      unfold f_X5_goDown
      rw [pk_let, pk_let, h1 0 (by omega)]
      refine down_L (prev := edi a b i) (i := i + 1) hu hm (fun j => Nat.le_trans edi_le (by omega)) (by omega) (wd_lt _ _ _) hb m N 0 _ (by omega) (by omega) wC.u (fun q hq => ?_) (fun q hq hq2 => ?_)
      · have : q = 0 := by omega
        subst this
        rw [ui_same, upd_at]
        rfl
      · rw [ui_same, upd_ne (by omega)]
        exact h1 q hq2
    refine pk_bdm h2 (fun _ S2 h3 => ?_)
    rw [pk_let, nI_1]
    refine ih c (i + 1) S2 (by omega) (by omega) (hs.tr h3.1) (fun q hq => ?_)
    rw [h3.2 q hq, edi, ha i]
theorem chg27_L {S : rx_S} {x y z : Int32} {m : Nat} (hm : m ≤ 5) {Q : Int32 → rx_S → Prop} {K : Int32 → Int32 → Int32 → Int32 → rx_S → Option (Int32 × rx_S)} (kk : ∀ S', wC 83 S S' → (∀ q, q ≤ m → S'.1 83 q = nI q) → pk (K x y z (nI m) S') Q) : ∀ (k c j : Nat) (S1 : rx_S), j + k = m + 1 → k < c → wC 83 S S1 → (∀ q, q < j → S1.1 83 q = nI q) → pk (f_X5_changes_L27 N K c x y z (nI m) (nI j) S1) Q := by
  intro k
  induction k with
  | zero =>
    intro c j S1 hj hc hs h1
    obtain ⟨c, rfl⟩ : ∃ q, c = q + 1 := ⟨c - 1, by omega⟩
    rw [f_X5_changes_L27, if_pos (nI_lt (by omega) (by omega))]
    exact kk S1 hs (fun q hq => h1 q (by omega))
  | succ k ih =>
    intro c j S1 hj hc hs h1
    obtain ⟨c, rfl⟩ : ∃ q, c = q + 1 := ⟨c - 1, by omega⟩
    rw [f_X5_changes_L27, if_neg (nI_nlt (by omega) (by omega)), if_neg (show ¬ (6 : Int32) ≤ nI j from nI_ge (b := 6) (by omega) (by decide)), pk_gdn (by omega) (by decide), pk_let, pk_let, nI_1, nI_clamp (by omega)]
    refine ih c (j + 1) _ (by omega) (by omega) (hs.tr wC.u) (fun q hq => ?_)
    rw [ui_same]
    by_cases e : q = j
    · rw [e, upd_at]
    · rw [upd_ne e]; exact h1 q (by omega)
theorem changes_ok (hN : 5000 ≤ N) {S : rx_S} {v u : Nat} (hv : okr v) (hu : okr u) : pk (f_X5_changes N (nI v) (nI u) S) (fun r S' => r = nI (alt v u) ∧ wC 83 S S') := by
  have h1 := rl_le v
  have h2 := rl_le u
  have hv17 := okr_lt hv
  have hu17 := okr_lt hu
  have hn1 : ∀ k : Nat, k ≤ 5 → ¬ nI k = -1 := by decide
  unfold f_X5_changes
  rw [size_eq hN, bd_some, size_eq hN, bd_some, rsz_okr hv, rsz_okr hu, if_neg (hn1 _ h1), if_neg (hn1 _ h2), pk_let]
  refine chg27_L (S := S) h2 (fun S1 hs1 g1 => ?_) (rl u + 1) N 0 S (by omega) (by omega) wC.rf (fun q hq => absurd hq (by omega))
  rw [pk_let]
  refine chg62_L (S := S) (a := wd v (rl v)) (b := wd u (rl u)) hN (by omega) (by omega) h1 h2 (fun _ => rfl) (fun _ => rfl) (fun S2 hs2 g2 => ?_) (rl v) N 0 S1 (by omega) (by omega) hs1 (fun q hq => by rw [g1 q hq]; rfl)
  rw [if_neg (show ¬ (6 : Int32) ≤ nI (rl u) from nI_ge (b := 6) (by omega) (by decide)), pk_gdn (by omega) (by decide), pk_some, nI_clamp (by omega)]
  exact ⟨g2 _ (Nat.le_refl _), hs2⟩
/-- the reference: a square -/
def edG (a b : Nat → Nat) (m i j : Nat) (S : rx_S) : Prop := ∀ p q, q ≤ m → (p < i ∨ (p = i ∧ q < j)) → S.1 130 (6 * p + q) = nI (edi a b p q)
theorem al23_L (hN : 5000 ≤ N) {S : rx_S} {v u nn m i : Nat} {a b : Nat → Nat} (hv : v < 2 ^ 31) (hu : u < 2 ^ 31) (hn : nn ≤ 5) (hm : m ≤ 5) (hi : i ≤ nn) (ha : ∀ i, a i = wd v nn i) (hb : ∀ j, b j = wd u m j) {Q : Int32 → rx_S → Prop} {K : Int32 → Int32 → Int32 → Int32 → Int32 → rx_S → Option (Int32 × rx_S)} (kk : ∀ S', xM 130 S S' → edG a b m (i + 1) 0 S' → pk (K (nI v) (nI u) (nI nn) (nI m) (nI i) S') Q) : ∀ (k c j : Nat) (S1 : rx_S), j + k = m + 1 → k < c → xM 130 S S1 → edG a b m i j S1 → pk (f_X11_alteredOf_L23 N K c (nI v) (nI u) (nI nn) (nI m) (nI i) (nI j) S1) Q := by
  intro k
  induction k with
  | zero =>
    intro c j S1 hj hc hs h1
    obtain ⟨c, rfl⟩ : ∃ q, c = q + 1 := ⟨c - 1, by omega⟩
    rw [f_X11_alteredOf_L23, if_pos (nI_lt (by omega) (by omega))]
    exact kk S1 hs (fun p q hq h => h1 p q hq (by omega))
  | succ k ih =>
    intro c j S1 hj hc hs h1
    obtain ⟨c, rfl⟩ : ∃ q, c = q + 1 := ⟨c - 1, by omega⟩
    have e6 : (6 : Int32) * nI i = nI (6 * i) := nI_mul 6 i
    have fin : ∀ x : Int32, x = nI (edi a b i j) → pk (rx_gd ((6 : Int32) * nI i + nI j) 36 (f_X11_alteredOf_L23 N K c (nI v) (nI u) (nI nn) (nI m) (nI i) (nI j + 1) (rx_ui S1 130 (Int32.toNatClampNeg ((6 : Int32) * nI i + nI j)) x))) Q := by
      intro x hx
      rw [e6, nI_add, pk_gdn (by omega) (by decide), nI_clamp (by omega), nI_1, hx]
      refine ih c (j + 1) _ (by omega) (by omega) (hs.tr xM.u) (fun p q hq h => ?_)
      rw [ui_same]
      by_cases e : p = i ∧ q = j
      · obtain ⟨rfl, rfl⟩ := e
        rw [upd_at]
      · rw [upd_ne (by omega)]
        exact h1 p q hq (by omega)
    rw [f_X11_alteredOf_L23, if_neg (nI_nlt (by omega) (by omega))]
    simp only [rx_let]
    rcases Nat.eq_zero_or_pos i with e0 | e0
    · have z : nI i = 0 := by rw [e0]; rfl
      rw [if_pos z, if_pos (show nI i ≤ 0 by rw [z]; decide)]
      exact fin _ (by rw [e0]; rfl)
    · rw [if_neg (nI_ne0 e0 (by omega)), if_neg (nI_nle e0 (by omega))]
      obtain ⟨i', rfl⟩ : ∃ q, i = q + 1 := ⟨i - 1, by omega⟩
      rcases Nat.eq_zero_or_pos j with f0 | f0
      · subst f0
        rw [if_pos (show nI 0 ≤ 0 by decide)]
        exact fin _ rfl
      · rw [if_neg (nI_nle f0 (by omega))]
        obtain ⟨j', rfl⟩ : ∃ q, j = q + 1 := ⟨j - 1, by omega⟩
        have A1 : nI (i' + 1) - 1 = nI i' := nI_pred i'
        have A2 : nI (j' + 1) - 1 = nI j' := nI_pred j'
        have A3 : (6 : Int32) * nI i' = nI (6 * i') := nI_mul 6 i'
        have A4 : nI (6 * i') + nI (j' + 1) = nI (6 * i' + (j' + 1)) := nI_add _ _
        have A5 : nI (6 * i' + (j' + 1)) - 1 = nI (6 * i' + j') := nI_pred _
        have A7 : nI (6 * (i' + 1)) + nI (j' + 1) = nI (6 * (i' + 1) + (j' + 1)) := nI_add _ _
        have A8 : nI (6 * (i' + 1) + (j' + 1)) - 1 = nI (6 * (i' + 1) + j') := nI_pred _
        have G1 : ∀ {β : Type} (A : Option β), rx_gd (nI (6 * i' + j')) 36 A = A := fun A => rx_gd_in (vp_in_nI (by omega) (by decide))
        have G2 : ∀ {β : Type} (A : Option β), rx_gd (nI (6 * i' + (j' + 1))) 36 A = A := fun A => rx_gd_in (vp_in_nI (by omega) (by decide))
        have G3 : ∀ {β : Type} (A : Option β), rx_gd (nI (6 * (i' + 1) + j')) 36 A = A := fun A => rx_gd_in (vp_in_nI (by omega) (by decide))
        have C1 : (nI (6 * i' + j')).toNatClampNeg = 6 * i' + j' := nI_clamp (by omega)
        have C2 : (nI (6 * i' + (j' + 1))).toNatClampNeg = 6 * i' + (j' + 1) := nI_clamp (by omega)
        have C3 : (nI (6 * (i' + 1) + j')).toNatClampNeg = 6 * (i' + 1) + j' := nI_clamp (by omega)
        have W1 : ∀ S : rx_S, f_X11_wordIn N (nI v) (nI nn) (nI i') S = some (nI (wd v nn i'), S) := fun S => wordIn_eq hN hv hn (by omega)
        have W2 : ∀ S : rx_S, f_X11_wordIn N (nI u) (nI m) (nI j') S = some (nI (wd u m j'), S) := fun S => wordIn_eq hN hu hm (by omega)
        have V1 := h1 i' j' (by omega) (by omega)
        have V2 := h1 i' (j' + 1) (by omega) (by omega)
        have V3 := h1 (i' + 1) j' (by omega) (by omega)
        have b1 := edi_le (a := a) (b := b) (i := i') (j := j')
        have b2 := edi_le (a := a) (b := b) (i := i') (j := j' + 1)
        have b3 := edi_le (a := a) (b := b) (i := i' + 1) (j := j')
        have ev : edi a b (i' + 1) (j' + 1) = min (edi a b i' j' + (if wd v nn i' = wd u m j' then 0 else 1)) (min (edi a b i' (j' + 1) + 1) (edi a b (i' + 1) j' + 1)) := by
          show edr (edi a b i') (a i') (i' + 1) b (j' + 1) = _
          rw [edr, hb, show edi a b (i' + 1) j' = edr (edi a b i') (a i') (i' + 1) b j' from rfl, ha]
        simp only [e6, A7, nI_1] at fin
        simp only [A1, A2, A3, A4, A5, e6, A7, A8, G1, G2, G3, C1, C2, C3, W1, W2, bd_some, V1, V2, V3, nI_1, Int32.add_zero]
        have hwv := wd_lt v nn i'
        have hwu := wd_lt u m j'
        have tail : ∀ d : Nat, d = (if wd v nn i' = wd u m j' then 0 else 1) → pk (if nI (edi a b i' j' + d) ≤ nI (edi a b i' (j' + 1) + 1) then (if nI (edi a b i' j' + d) ≤ nI (edi a b (i' + 1) j' + 1) then rx_gd (nI (6 * (i' + 1) + (j' + 1))) 36 (f_X11_alteredOf_L23 N K c (nI v) (nI u) (nI nn) (nI m) (nI (i' + 1)) (nI (j' + 1 + 1)) (rx_ui S1 130 (Int32.toNatClampNeg (nI (6 * (i' + 1) + (j' + 1)))) (nI (edi a b i' j' + d)))) else rx_gd (nI (6 * (i' + 1) + (j' + 1))) 36 (f_X11_alteredOf_L23 N K c (nI v) (nI u) (nI nn) (nI m) (nI (i' + 1)) (nI (j' + 1 + 1)) (rx_ui S1 130 (Int32.toNatClampNeg (nI (6 * (i' + 1) + (j' + 1)))) (nI (edi a b (i' + 1) j' + 1))))) else (if nI (edi a b i' (j' + 1) + 1) ≤ nI (edi a b (i' + 1) j' + 1) then rx_gd (nI (6 * (i' + 1) + (j' + 1))) 36 (f_X11_alteredOf_L23 N K c (nI v) (nI u) (nI nn) (nI m) (nI (i' + 1)) (nI (j' + 1 + 1)) (rx_ui S1 130 (Int32.toNatClampNeg (nI (6 * (i' + 1) + (j' + 1)))) (nI (edi a b i' (j' + 1) + 1)))) else rx_gd (nI (6 * (i' + 1) + (j' + 1))) 36 (f_X11_alteredOf_L23 N K c (nI v) (nI u) (nI nn) (nI m) (nI (i' + 1)) (nI (j' + 1 + 1)) (rx_ui S1 130 (Int32.toNatClampNeg (nI (6 * (i' + 1) + (j' + 1)))) (nI (edi a b (i' + 1) j' + 1)))))) Q := by
          intro d hd
          have hd1 : d ≤ 1 := by rw [hd]; split <;> omega
          rw [← hd] at ev
          by_cases z1 : edi a b i' j' + d ≤ edi a b i' (j' + 1) + 1
          · rw [if_pos (nI_le z1 (by omega))]
            by_cases z2 : edi a b i' j' + d ≤ edi a b (i' + 1) j' + 1
            · rw [if_pos (nI_le z2 (by omega))]
              exact fin _ (congrArg nI (by rw [ev]; omega))
            · rw [if_neg (nI_ge (by omega) (by omega))]
              exact fin _ (congrArg nI (by rw [ev]; omega))
          · rw [if_neg (nI_ge (by omega) (by omega))]
            by_cases z2 : edi a b i' (j' + 1) + 1 ≤ edi a b (i' + 1) j' + 1
            · rw [if_pos (nI_le z2 (by omega))]
              exact fin _ (congrArg nI (by rw [ev]; omega))
            · rw [if_neg (nI_ge (by omega) (by omega))]
              exact fin _ (congrArg nI (by rw [ev]; omega))
        by_cases q : wd v nn i' = wd u m j'
        · rw [if_pos (congrArg nI q)]
          exact tail 0 (by rw [if_pos q])
        · rw [if_neg (fun z => q ((nI_eq (by omega) (by omega)).mp z))]
          exact tail 1 (by rw [if_neg q])
theorem al14_L (hN : 5000 ≤ N) {S : rx_S} {v u nn m : Nat} {a b : Nat → Nat} (hv : v < 2 ^ 31) (hu : u < 2 ^ 31) (hn : nn ≤ 5) (hm : m ≤ 5) (ha : ∀ i, a i = wd v nn i) (hb : ∀ j, b j = wd u m j) {Q : Int32 → rx_S → Prop} {K : Int32 → Int32 → rx_S → Option (Int32 × rx_S)} (kk : ∀ S', xM 130 S S' → edG a b m (nn + 1) 0 S' → pk (K (nI nn) (nI m) S') Q) : ∀ (k c i : Nat) (S1 : rx_S), i + k = nn + 1 → k < c → xM 130 S S1 → edG a b m i 0 S1 → pk (f_X11_alteredOf_L14 N K c (nI v) (nI u) (nI nn) (nI m) (nI i) S1) Q := by
  intro k
  induction k with
  | zero =>
    intro c i S1 hi hc hs h1
    obtain ⟨c, rfl⟩ : ∃ q, c = q + 1 := ⟨c - 1, by omega⟩
    have : i = nn + 1 := by omega
    subst this
    rw [f_X11_alteredOf_L14, if_pos (nI_lt (by omega) (by omega))]
    exact kk S1 hs h1
  | succ k ih =>
    intro c i S1 hi hc hs h1
    obtain ⟨c, rfl⟩ : ∃ q, c = q + 1 := ⟨c - 1, by omega⟩
    rw [f_X11_alteredOf_L14, if_neg (nI_nlt (by omega) (by omega)), pk_let]
    refine al23_L (S := S) hN hv hu hn hm (show i ≤ nn by omega) ha hb (fun S2 h2 g2 => ?_) (m + 1) N 0 S1 (by omega) (by omega) hs h1
    rw [pk_let, nI_1]
    exact ih c (i + 1) S2 (by omega) (by omega) h2 g2
theorem altered_ok (hN : 5000 ≤ N) {S : rx_S} {v u : Nat} (hv : okr v) (hu : okr u) : pk (f_X11_alteredOf N (nI v) (nI u) S) (fun r S' => r = nI (alt v u) ∧ xM 130 S S') := by
  have h1 := rl_le v
  have h2 := rl_le u
  have hv17 := okr_lt hv
  have hu17 := okr_lt hu
  unfold f_X11_alteredOf
  rw [wordsIn_eq hN, bd_some, wordsIn_eq hN, bd_some, rsz_okr hv, rsz_okr hu, pk_let]
  refine al14_L (S := S) (a := wd v (rl v)) (b := wd u (rl u)) hN (by omega) (by omega) h1 h2 (fun _ => rfl) (fun _ => rfl) (fun S2 hs2 g2 => ?_) (rl v + 1) N 0 S (by omega) (by omega) xM.rf (fun p q hq h => by omega)
  have e6 : (6 : Int32) * nI (rl v) = nI (6 * rl v) := nI_mul 6 _
  rw [e6, nI_add, pk_gdn (by omega) (by decide), pk_some, nI_clamp (by omega)]
  exact ⟨g2 _ _ (Nat.le_refl _) (by omega), hs2⟩
theorem nk83 : ¬ kpC 83 := by unfold kpC; omega
theorem st_altered (hN : 5000 ≤ N) : ST_altered N (Inv N) := by
  intro n SC SM hn h x1 x2
  unfold f_X10_altered f_X11_altered
  have no : ∃ r SC' SM', (some ((-1 : Int32), SC) : Option (Int32 × rx_S)) = some (r, SC') ∧ (some ((-1 : Int32), SM) : Option (Int32 × rx_S)) = some (r, SM') ∧ Inv N (n + 1) SC' SM' := st_q (R := -1) h (by rw [pk_some]; exact ⟨rfl, iC.rf⟩) (by rw [pk_some]; exact ⟨rfl, iM.rf⟩)
  rcases row_cases (SC := SC) (SM := SM) hN x1 with ⟨v, hv, rfl, e1, e2⟩ | ⟨e1, e2⟩
  · rw [e1, bd_some, if_neg (show ¬ (1 : Int32) = 0 by decide), e2, bd_some, if_neg (show ¬ (1 : Int32) = 0 by decide)]
    rcases row_cases (SC := SC) (SM := SM) hN x2 with ⟨u, hu, rfl, e1, e2⟩ | ⟨e1, e2⟩
    · rw [e1, bd_some, if_neg (show ¬ (1 : Int32) = 0 by decide), e2, bd_some, if_neg (show ¬ (1 : Int32) = 0 by decide)]
      refine st_q (R := nI (alt v u)) h ?_ ?_
      · refine pk_bdm (changes_ok hN hv hu) (fun r S2 h2 => ?_)
        rw [pk_some]
        exact ⟨h2.1, h2.2.i nk83⟩
      · refine pk_bdm (altered_ok hN hv hu) (fun r S2 h2 => ?_)
        rw [pk_some]
        exact ⟨h2.1, h2.2.i (by omega)⟩
    · rw [e1, bd_some, if_pos rfl, e2, bd_some, if_pos rfl]
      exact no
  · rw [e1, bd_some, if_pos rfl, e2, bd_some, if_pos rfl]
    exact no
theorem stR.w {S S' : rx_S} {kk : Nat} (h : stR T (S.1 32) st) (hk : 32 < kk) (hs : wC kk S S') : stR T (S'.1 32) st := by rw [hs.1 32 (by decide) (by decide) (by omega)]; exact h
theorem putA_ok (hN : 5000 ≤ N) {S : rx_S} (hF : WF T) (hT : TC N T S) (hR : stR T (S.1 32) st) (hW : WS T w0 st) {i v : Nat} (hi : i < tT T) (hv : okr v) {P : Int32 → rx_S → Prop} (k : ∀ S', wC 83 S S' → P (nI (alt v (put T st i v))) S') : pk (rx_bd (f_X7_putRow 32 N (nI i) (nI v) S) (fun x11 S10 => rx_bd (f_X5_changes N (nI v) x11 S10) (fun x14 S13 => some (x14, S13)))) P := by
  refine pk_bdm (putRow_ok hN hF hT (by decide) hR hW hi hv) (fun r S2 h2 => ?_)
  rw [h2.1]
  refine pk_bdm (changes_ok hN hv (put_ok _ _ _ _)) (fun r S3 h3 => ?_)
  rw [pk_some, h3.1]
  exact k S3 (h2.2.w.tr h3.2)
theorem lostC_ok (hN : 5000 ≤ N) {S : rx_S} (hF : WF T) (hT : TC N T S) (hR : stR T (S.1 32) st) (hW : WS T w0 st) {i j v : Nat} (hi : i < tT T) (hj : j < tT T) (hv : okr v) : pk (f_X6_lostByTwo N (nI i) (nI j) (nI v) S) (fun r S' => r = nI (alt v (put T st j (put T st i v))) ∧ wC 83 S S') := by
  unfold f_X6_lostByTwo
  refine pk_bdm (putRow_ok hN hF hT (by decide) hR hW hi hv) (fun r S2 h2 => ?_)
  rw [h2.1]
  refine pk_bdm (putRow_ok hN hF (hT.ag h2.2.ag) (by decide) (hR.s (by decide) h2.2) hW hj (put_ok _ _ _ _)) (fun r S3 h3 => ?_)
  rw [h3.1]
  refine pk_bdm (changes_ok hN hv (put_ok _ _ _ _)) (fun r S4 h4 => ?_)
  rw [pk_some]
  exact ⟨h4.1, (h2.2.w.tr h3.2.w).tr h4.2⟩
theorem lostM_ok (hN : 5000 ≤ N) {S : rx_S} (hF : WF T) (hT : TM N T S) {i j v : Nat} (hi : i < tT T) (hj : j < tT T) (hv : okr v) : pk (f_X11_losesBy N (nI i) (nI j) (nI v) S) (fun r S' => r = nI (alt v (put T (S.1 127) j (put T (S.1 127) i v))) ∧ xM 130 S S') := by
  unfold f_X11_losesBy
  refine pk_bdm (putN_ok hN hF hT hi hv) (fun r S2 h2 => ?_)
  rw [h2.1]
  refine pk_bdm (putN_ok hN hF (hT.ag h2.2.ag) hj (put_ok _ _ _ _)) (fun r S3 h3 => ?_)
  rw [h3.1, h2.2.st]
  refine pk_bdm (altered_ok hN hv (put_ok _ _ _ _)) (fun r S4 h4 => ?_)
  rw [pk_some]
  exact ⟨h4.1, (h2.2.x.tr h3.2.x).tr h4.2⟩
theorem st_loses (hN : 5000 ≤ N) : ST_loses N (Inv N) := by
  intro n SC SM hn h x1 x2 x3
  obtain ⟨-, -, -, -, -, T, ⟨hF, hC', hM⟩, ⟨hR, w, hw, hW⟩, -, -⟩ := id h
  unfold f_X10_loses f_X11_loses
  have n1 : ¬ (1 : Int32) = 0 := by decide
  have no : ∃ r SC' SM', (some ((-1 : Int32), SC) : Option (Int32 × rx_S)) = some (r, SC') ∧ (some ((-1 : Int32), SM) : Option (Int32 × rx_S)) = some (r, SM') ∧ Inv N (n + 1) SC' SM' := st_q (R := -1) h (by rw [pk_some]; exact ⟨rfl, iC.rf⟩) (by rw [pk_some]; exact ⟨rfl, iM.rf⟩)
  rcases third_cases hF hC' hM x1 with ⟨i, hi, rfl, e1, e2⟩ | ⟨e1, e2⟩
  · rw [e1, bd_some, if_neg n1, e2, bd_some, if_neg n1]
    rcases third_cases hF hC' hM x2 with ⟨j, hj, rfl, e1, e2⟩ | ⟨e1, e2⟩
    · rw [e1, bd_some, if_neg n1, e2, bd_some, if_neg n1]
      rcases row_cases (SC := SC) (SM := SM) hN x3 with ⟨v, hv, rfl, e1, e2⟩ | ⟨e1, e2⟩
      · rw [e1, bd_some, if_neg n1, e2, bd_some, if_neg n1]
        obtain ⟨u, S1, e3, hc⟩ := copies_ok hN hM
        have hc : cM T SM S1 := hc
        rw [e3, bd_some]
        refine st_q (R := nI (alt v (put T (S1.1 127) j (put T (S1.1 127) i v)))) h ?_ ?_
        · refine pk_bdm (lostC_ok hN hF hC' (hc.st hR) (hc.ws hW) hi hj hv) (fun r S2 h2 => ?_)
          rw [pk_some]
          exact ⟨h2.1, h2.2.i nk83⟩
        · refine pk_bdm (lostM_ok hN hF (hM.ag hc.i.ag) hi hj hv) (fun r S2 h2 => ?_)
          rw [pk_some]
          exact ⟨h2.1, hc.i.tr (h2.2.i (by omega))⟩
      · rw [e1, bd_some, if_pos rfl, e2, bd_some, if_pos rfl]
        exact no
    · rw [e1, bd_some, if_pos rfl, e2, bd_some, if_pos rfl]
      exact no
  · rw [e1, bd_some, if_pos rfl, e2, bd_some, if_pos rfl]
    exact no
/-- the first best -/
def bs2 (g : Nat → Nat × Nat) (acc : Int32 × Int32) : Nat → Int32 × Int32
  | 0 => acc
  | k + 1 => if (bs2 g acc k).2 ≤ nI (g k).2 then bs2 g acc k else (nI (g k).1, nI (g k).2)
def bs3 (g : Nat → Nat → Nat × Nat) (t : Nat) : Nat → Int32 × Int32
  | 0 => (-2, 1000000)
  | o + 1 => bs2 (g o) (bs3 g t o) t
def okb (a : Int32 × Int32) : Prop := a = (-2, 1000000) ∨ ∃ x y : Nat, x ≤ 1000 ∧ y ≤ 1000 ∧ a = (nI x, nI y)
def few (a : Int32 × Int32) : Int32 := if a.1 = -2 then 0 else a.2
theorem okb.step {a : Int32 × Int32} (h : okb a) {x y : Nat} (hx : x ≤ 1000) (hy : y ≤ 1000) : okb (if a.2 ≤ nI y then a else (nI x, nI y)) := by
  split
  · exact h
  · exact Or.inr ⟨x, y, hx, hy, rfl⟩
theorem bs2_ok {g : Nat → Nat × Nat} {acc : Int32 × Int32} (h : okb acc) : ∀ k, (∀ j, j < k → (g j).1 ≤ 1000 ∧ (g j).2 ≤ 1000) → okb (bs2 g acc k) := by
  intro k
  induction k with
  | zero => intro _; exact h
  | succ k ih =>
    intro hg
    have := hg k (by omega)
    exact (ih (fun j hj => hg j (by omega))).step this.1 this.2
theorem bs3_ok {g : Nat → Nat → Nat × Nat} {t : Nat} : ∀ o, (∀ i j, i < o → j < t → (g i j).1 ≤ 1000 ∧ (g i j).2 ≤ 1000) → okb (bs3 g t o) := by
  intro o
  induction o with
  | zero => intro _; exact Or.inl rfl
  | succ o ih => intro hg; exact bs2_ok (ih (fun i j hi hj => hg i j (by omega) hj)) t (fun j hj => hg o j (by omega) hj)
/-- the reference's test -/
theorem few_test {a : Int32 × Int32} (h : okb a) {y : Nat} (hy : y ≤ 1000) {α : Type} {A B : α} : (if a.1 < 0 then A else if nI y < few a then A else B) = if a.2 ≤ nI y then B else A := by
  rcases h with rfl | ⟨x, z, hx, hz, rfl⟩
  · rw [if_pos (show ((-2 : Int32), (1000000 : Int32)).1 < 0 by decide), if_neg (show ¬ (1000000 : Int32) ≤ nI y from nI_ge (b := 1000000) (by omega) (by decide))]
  · have e : few (nI x, nI z) = nI z := if_neg (nI_m2 (by omega))
    rw [e, if_neg (show ¬ nI x < 0 from nI_pos (by omega))]
    by_cases q : z ≤ y
    · rw [if_neg (nI_nlt q (by omega)), if_pos (show nI z ≤ nI y from nI_le q (by omega))]
    · rw [if_pos (nI_lt (by omega) (by omega)), if_neg (show ¬ nI z ≤ nI y from nI_ge (by omega) (by omega))]
theorem few_new {x y : Nat} (hx : x ≤ 1000) : few (nI x, nI y) = nI y := if_neg (nI_m2 (by omega))
def tg (T : tx) (st : Nat → Int32) (v : Nat) (i : Nat) : Nat × Nat := (i, alt v (put T st i v))
theorem truC_L (hN : 5000 ≤ N) {S : rx_S} (hF : WF T) (hT : TC N T S) (hR : stR T (S.1 32) st) (hW : WS T w0 st) {v : Nat} (hv : okr v) : ∀ (m c i : Nat) (S1 : rx_S), i + m = tT T → m < c → wC 83 S S1 → pk (f_X6_bestThird_L10 N c (nI v) (bs2 (tg T st v) (-2, 1000000) i).1 (bs2 (tg T st v) (-2, 1000000) i).2 (nI i) S1) (fun r S' => r = (bs2 (tg T st v) (-2, 1000000) (tT T)).1 ∧ wC 83 S S') := by
  intro m
  have h4 := hF.2.2.1
  induction m with
  | zero =>
    intro c i S1 hi hc hs
    obtain ⟨c, rfl⟩ : ∃ q, c = q + 1 := ⟨c - 1, by omega⟩
    have : i = tT T := by omega
    subst this
    rw [f_X6_bestThird_L10, (hT.ag (hs.ag (by decide))).1.2.2.1, if_pos (nI_le (Nat.le_refl _) (by omega)), pk_some]
    exact ⟨rfl, hs⟩
  | succ m ih =>
    intro c i S1 hi hc hs
    obtain ⟨c, rfl⟩ : ∃ q, c = q + 1 := ⟨c - 1, by omega⟩
    have hT1 := hT.ag (hs.ag (by decide))
    rw [f_X6_bestThird_L10, hT1.1.2.2.1, if_neg (nI_ge (by omega) (by omega))]
    refine pk_bdm (putRow_ok hN hF hT1 (by decide) (hR.w (by decide) hs) hW (show i < tT T by omega) hv) (fun r S2 h2 => ?_)
    rw [h2.1]
    refine pk_bdm (changes_ok hN hv (put_ok _ _ _ _)) (fun r S3 h3 => ?_)
    have hs3 := (hs.tr h2.2.w).tr h3.2
    rw [h3.1, pk_ite, pk_let, pk_let, nI_1]
    split
    · rename_i z
      have e : bs2 (tg T st v) (-2, 1000000) (i + 1) = bs2 (tg T st v) (-2, 1000000) i := by rw [bs2]; exact if_pos z
      rw [← e]
      exact ih c (i + 1) S3 (by omega) (by omega) hs3
    · rename_i z
      have e : bs2 (tg T st v) (-2, 1000000) (i + 1) = (nI i, nI (alt v (put T st i v))) := by rw [bs2]; exact if_neg z
      have := ih c (i + 1) S3 (by omega) (by omega) hs3
      rw [e] at this
      exact this
theorem truM_L (hN : 5000 ≤ N) {S : rx_S} (hF : WF T) (hT : TM N T S) {v : Nat} (hv : okr v) : ∀ (m c i : Nat) (S1 : rx_S), i + m = tT T → m < c → xM 130 S S1 → pk (f_X11_truest_L21 N c (nI v) (bs2 (tg T (S.1 127) v) (-2, 1000000) i).1 (few (bs2 (tg T (S.1 127) v) (-2, 1000000) i)) (nI i) S1) (fun r S' => r = (bs2 (tg T (S.1 127) v) (-2, 1000000) (tT T)).1 ∧ xM 130 S S') := by
  intro m
  have h4 := hF.2.2.1
  induction m with
  | zero =>
    intro c i S1 hi hc hs
    obtain ⟨c, rfl⟩ : ∃ q, c = q + 1 := ⟨c - 1, by omega⟩
    have : i = tT T := by omega
    subst this
    obtain ⟨lv, hlv, t⟩ := (hT.ag (hs.ag (by decide))).1
    rw [f_X11_truest_L21, t.1, pk_gdn hlv (by decide), nI_clamp (by omega), t.2.2.2.1, if_pos (nI_le (Nat.le_refl _) (by omega)), pk_some]
    exact ⟨rfl, hs⟩
  | succ m ih =>
    intro c i S1 hi hc hs
    obtain ⟨c, rfl⟩ : ∃ q, c = q + 1 := ⟨c - 1, by omega⟩
    have hT1 := hT.ag (hs.ag (by decide))
    obtain ⟨lv, hlv, t⟩ := hT1.1
    rw [f_X11_truest_L21, t.1, pk_gdn hlv (by decide), nI_clamp (by omega), t.2.2.2.1, if_neg (nI_ge (by omega) (by omega))]
    refine pk_bdm (putN_ok hN hF hT1 (show i < tT T by omega) hv) (fun r S2 h2 => ?_)
    rw [h2.1, hs.st (by decide)]
    refine pk_bdm (altered_ok hN hv (put_ok _ _ _ _)) (fun r S3 h3 => ?_)
    have hs3 := (hs.tr h2.2.x).tr h3.2
    have hb : okb (bs2 (tg T (S.1 127) v) (-2, 1000000) i) := bs2_ok (Or.inl rfl) i (fun j hj => ⟨by show j ≤ 1000; omega, Nat.le_trans alt_le (by decide)⟩)
    rw [h3.1, pk_let, few_test hb (Nat.le_trans alt_le (by decide)), pk_ite, pk_let, pk_let, nI_1]
    split
    · rename_i z
      have e : bs2 (tg T (S.1 127) v) (-2, 1000000) (i + 1) = bs2 (tg T (S.1 127) v) (-2, 1000000) i := by rw [bs2]; exact if_pos z
      rw [← e]
      exact ih c (i + 1) S3 (by omega) (by omega) hs3
    · rename_i z
      have e : bs2 (tg T (S.1 127) v) (-2, 1000000) (i + 1) = (nI i, nI (alt v (put T (S.1 127) i v))) := by rw [bs2]; exact if_neg z
      have := ih c (i + 1) S3 (by omega) (by omega) hs3
      rw [e, few_new (by omega)] at this
      exact this
theorem st_truest (hN : 5000 ≤ N) : ST_truest N (Inv N) := by
  intro n SC SM hn h x1
  obtain ⟨-, -, -, -, -, T, ⟨hF, hC', hM⟩, ⟨hR, w, hw, hW⟩, -, -⟩ := id h
  unfold f_X10_truest f_X11_truest
  have n1 : ¬ (1 : Int32) = 0 := by decide
  have h4 := hF.2.2.1
  rcases row_cases (SC := SC) (SM := SM) hN x1 with ⟨v, hv, rfl, e1, e2⟩ | ⟨e1, e2⟩
  · rw [e1, bd_some, if_neg n1, e2, bd_some, if_neg n1]
    obtain ⟨u, S1, e3, hc⟩ := copies_ok hN hM
    have hc : cM T SM S1 := hc
    rw [e3, bd_some]
    refine st_q (R := (bs2 (tg T (S1.1 127) v) (-2, 1000000) (tT T)).1) h ?_ ?_
    · unfold f_X6_bestThird
      refine pk_bdm (truC_L hN hF hC' (hc.st hR) (hc.ws hW) hv (tT T) N 0 SC (by omega) (by omega) wC.rf) (fun r S2 h2 => ?_)
      rw [pk_some]
      exact ⟨h2.1, h2.2.i nk83⟩
    · exact pk_mono (truM_L hN hF (hM.ag hc.i.ag) hv (tT T) N 0 S1 (by omega) (by omega) xM.rf) (fun r S2 h2 => ⟨h2.1, hc.i.tr (h2.2.i (by omega))⟩)
  · rw [e1, bd_some, if_pos rfl, e2, bd_some, if_pos rfl]
    exact st_q (R := -1) h (by rw [pk_some]; exact ⟨rfl, iC.rf⟩) (by rw [pk_some]; exact ⟨rfl, iM.rf⟩)
def lg (T : tx) (st : Nat → Int32) (v : Nat) (o i : Nat) : Nat × Nat := (10 * o + i, alt v (put T st i (put T st o v)))
theorem prC_i (hN : 5000 ≤ N) {S : rx_S} (hF : WF T) (hT : TC N T S) (hR : stR T (S.1 32) st) (hW : WS T w0 st) {v o : Nat} {acc : Int32 × Int32} (hv : okr v) (ho : o < tT T) {Q : Int32 → rx_S → Prop} {K : Int32 → Int32 → Int32 → Int32 → rx_S → Option (Int32 × rx_S)} (kk : ∀ S', wC 83 S S' → pk (K (nI v) (bs2 (lg T st v o) acc (tT T)).1 (bs2 (lg T st v o) acc (tT T)).2 (nI o) S') Q) : ∀ (m c i : Nat) (S1 : rx_S), i + m = tT T → m < c → wC 83 S S1 → pk (f_X6_bestPair_L25 N K c (nI v) (bs2 (lg T st v o) acc i).1 (bs2 (lg T st v o) acc i).2 (nI o) (nI i) S1) Q := by
  intro m
  have h4 := hF.2.2.1
  induction m with
  | zero =>
    intro c i S1 hi hc hs
    obtain ⟨c, rfl⟩ : ∃ q, c = q + 1 := ⟨c - 1, by omega⟩
    have : i = tT T := by omega
    subst this
    rw [f_X6_bestPair_L25, (hT.ag (hs.ag (by decide))).1.2.2.1, if_pos (nI_le (Nat.le_refl _) (by omega))]
    exact kk S1 hs
  | succ m ih =>
    intro c i S1 hi hc hs
    obtain ⟨c, rfl⟩ : ∃ q, c = q + 1 := ⟨c - 1, by omega⟩
    have hT1 := hT.ag (hs.ag (by decide))
    rw [f_X6_bestPair_L25, hT1.1.2.2.1, if_neg (nI_ge (by omega) (by omega))]
    refine pk_bdm (lostC_ok hN hF hT1 (hR.w (by decide) hs) hW ho (show i < tT T by omega) hv) (fun r S3 h3 => ?_)
    have hs3 := hs.tr h3.2
    have e10 : (10 : Int32) * nI o + nI i = nI (10 * o + i) := by
      have : (10 : Int32) * nI o = nI (10 * o) := nI_mul 10 o
      rw [this, nI_add]
    rw [h3.1, pk_ite, pk_let, pk_let, pk_let, nI_1, e10]
    split
    · rename_i z
      have e : bs2 (lg T st v o) acc (i + 1) = bs2 (lg T st v o) acc i := by rw [bs2]; exact if_pos z
      rw [← e]
      exact ih c (i + 1) S3 (by omega) (by omega) hs3
    · rename_i z
      have e : bs2 (lg T st v o) acc (i + 1) = (nI (10 * o + i), nI (alt v (put T st i (put T st o v)))) := by rw [bs2]; exact if_neg z
      have := ih c (i + 1) S3 (by omega) (by omega) hs3
      rw [e] at this
      exact this
theorem prC_o (hN : 5000 ≤ N) {S : rx_S} (hF : WF T) (hT : TC N T S) (hR : stR T (S.1 32) st) (hW : WS T w0 st) {v : Nat} (hv : okr v) : ∀ (m c o : Nat) (S1 : rx_S), o + m = tT T → m < c → wC 83 S S1 → pk (f_X6_bestPair_L10 N c (nI v) (bs3 (lg T st v) (tT T) o).1 (bs3 (lg T st v) (tT T) o).2 (nI o) S1) (fun r S' => r = (bs3 (lg T st v) (tT T) (tT T)).1 ∧ wC 83 S S') := by
  intro m
  have h4 := hF.2.2.1
  induction m with
  | zero =>
    intro c i S1 hi hc hs
    obtain ⟨c, rfl⟩ : ∃ q, c = q + 1 := ⟨c - 1, by omega⟩
    have : i = tT T := by omega
    subst this
    rw [f_X6_bestPair_L10, (hT.ag (hs.ag (by decide))).1.2.2.1, if_pos (nI_le (Nat.le_refl _) (by omega)), pk_some]
    exact ⟨rfl, hs⟩
  | succ m ih =>
    intro c o S1 ho hc hs
    obtain ⟨c, rfl⟩ : ∃ q, c = q + 1 := ⟨c - 1, by omega⟩
    have hT1 := hT.ag (hs.ag (by decide))
    rw [f_X6_bestPair_L10, hT1.1.2.2.1, if_neg (nI_ge (by omega) (by omega)), pk_let]
    refine prC_i (S := S) (acc := bs3 (lg T st v) (tT T) o) hN hF hT hR hW hv (show o < tT T by omega) (fun S2 h2 => ?_) (tT T) N 0 S1 (by omega) (by omega) hs
    rw [pk_let, nI_1]
    exact ih c (o + 1) S2 (by omega) (by omega) h2
theorem prM_i (hN : 5000 ≤ N) {S : rx_S} (hF : WF T) (hT : TM N T S) {v o : Nat} {acc : Int32 × Int32} (hacc : okb acc) (hv : okr v) (ho : o < tT T) {Q : Int32 → rx_S → Prop} {K : Int32 → Int32 → Int32 → Int32 → rx_S → Option (Int32 × rx_S)} (kk : ∀ S', xM 130 S S' → pk (K (nI v) (bs2 (lg T (S.1 127) v o) acc (tT T)).1 (few (bs2 (lg T (S.1 127) v o) acc (tT T))) (nI o) S') Q) : ∀ (m c i : Nat) (S1 : rx_S), i + m = tT T → m < c → xM 130 S S1 → pk (f_X11_least_L38 N K c (nI v) (bs2 (lg T (S.1 127) v o) acc i).1 (few (bs2 (lg T (S.1 127) v o) acc i)) (nI o) (nI i) S1) Q := by
  intro m
  have h4 := hF.2.2.1
  induction m with
  | zero =>
    intro c i S1 hi hc hs
    obtain ⟨c, rfl⟩ : ∃ q, c = q + 1 := ⟨c - 1, by omega⟩
    have : i = tT T := by omega
    subst this
    obtain ⟨lv, hlv, t⟩ := (hT.ag (hs.ag (by decide))).1
    rw [f_X11_least_L38, t.1, pk_gdn hlv (by decide), nI_clamp (by omega), t.2.2.2.1, if_pos (nI_le (Nat.le_refl _) (by omega))]
    exact kk S1 hs
  | succ m ih =>
    intro c i S1 hi hc hs
    obtain ⟨c, rfl⟩ : ∃ q, c = q + 1 := ⟨c - 1, by omega⟩
    have hT1 := hT.ag (hs.ag (by decide))
    obtain ⟨lv, hlv, t⟩ := hT1.1
    rw [f_X11_least_L38, t.1, pk_gdn hlv (by decide), nI_clamp (by omega), t.2.2.2.1, if_neg (nI_ge (by omega) (by omega))]
    refine pk_bdm (lostM_ok hN hF hT1 ho (show i < tT T by omega) hv) (fun r S3 h3 => ?_)
    have hs3 := hs.tr h3.2
    have e10 : (10 : Int32) * nI o + nI i = nI (10 * o + i) := by
      have : (10 : Int32) * nI o = nI (10 * o) := nI_mul 10 o
      rw [this, nI_add]
    have hb : okb (bs2 (lg T (S.1 127) v o) acc i) := bs2_ok hacc i (fun j hj => ⟨by show 10 * o + j ≤ 1000; omega, Nat.le_trans alt_le (by decide)⟩)
    rw [h3.1, hs.st (by decide), pk_let, few_test hb (Nat.le_trans alt_le (by decide)), pk_ite, pk_let, pk_let, pk_let, nI_1, e10]
    split
    · rename_i z
      have e : bs2 (lg T (S.1 127) v o) acc (i + 1) = bs2 (lg T (S.1 127) v o) acc i := by rw [bs2]; exact if_pos z
      rw [← e]
      exact ih c (i + 1) S3 (by omega) (by omega) hs3
    · rename_i z
      have e : bs2 (lg T (S.1 127) v o) acc (i + 1) = (nI (10 * o + i), nI (alt v (put T (S.1 127) i (put T (S.1 127) o v)))) := by rw [bs2]; exact if_neg z
      have := ih c (i + 1) S3 (by omega) (by omega) hs3
      rw [e, few_new (by omega)] at this
      exact this
theorem prM_o (hN : 5000 ≤ N) {S : rx_S} (hF : WF T) (hT : TM N T S) {v : Nat} (hv : okr v) : ∀ (m c o : Nat) (S1 : rx_S), o + m = tT T → m < c → xM 130 S S1 → pk (f_X11_least_L21 N c (nI v) (bs3 (lg T (S.1 127) v) (tT T) o).1 (few (bs3 (lg T (S.1 127) v) (tT T) o)) (nI o) S1) (fun r S' => r = (bs3 (lg T (S.1 127) v) (tT T) (tT T)).1 ∧ xM 130 S S') := by
  intro m
  have h4 := hF.2.2.1
  induction m with
  | zero =>
    intro c i S1 hi hc hs
    obtain ⟨c, rfl⟩ : ∃ q, c = q + 1 := ⟨c - 1, by omega⟩
    have : i = tT T := by omega
    subst this
    obtain ⟨lv, hlv, t⟩ := (hT.ag (hs.ag (by decide))).1
    rw [f_X11_least_L21, t.1, pk_gdn hlv (by decide), nI_clamp (by omega), t.2.2.2.1, if_pos (nI_le (Nat.le_refl _) (by omega)), pk_some]
    exact ⟨rfl, hs⟩
  | succ m ih =>
    intro c o S1 ho hc hs
    obtain ⟨c, rfl⟩ : ∃ q, c = q + 1 := ⟨c - 1, by omega⟩
    have hT1 := hT.ag (hs.ag (by decide))
    obtain ⟨lv, hlv, t⟩ := hT1.1
    rw [f_X11_least_L21, t.1, pk_gdn hlv (by decide), nI_clamp (by omega), t.2.2.2.1, if_neg (nI_ge (by omega) (by omega)), pk_let]
    have hacc : okb (bs3 (lg T (S.1 127) v) (tT T) o) := bs3_ok o (fun i j hi hj => ⟨by show 10 * i + j ≤ 1000; omega, Nat.le_trans alt_le (by decide)⟩)
    refine prM_i (S := S) hN hF hT hacc hv (show o < tT T by omega) (fun S2 h2 => ?_) (tT T) N 0 S1 (by omega) (by omega) hs
    rw [pk_let, nI_1]
    exact ih c (o + 1) S2 (by omega) (by omega) h2
theorem st_least (hN : 5000 ≤ N) : ST_least N (Inv N) := by
  intro n SC SM hn h x1
  obtain ⟨-, -, -, -, -, T, ⟨hF, hC', hM⟩, ⟨hR, w, hw, hW⟩, -, -⟩ := id h
  unfold f_X10_least f_X11_least
  have n1 : ¬ (1 : Int32) = 0 := by decide
  have h4 := hF.2.2.1
  rcases row_cases (SC := SC) (SM := SM) hN x1 with ⟨v, hv, rfl, e1, e2⟩ | ⟨e1, e2⟩
  · rw [e1, bd_some, if_neg n1, e2, bd_some, if_neg n1]
    obtain ⟨u, S1, e3, hc⟩ := copies_ok hN hM
    have hc : cM T SM S1 := hc
    rw [e3, bd_some]
    refine st_q (R := (bs3 (lg T (S1.1 127) v) (tT T) (tT T)).1) h ?_ ?_
    · unfold f_X6_bestPair
      refine pk_bdm (prC_o hN hF hC' (hc.st hR) (hc.ws hW) hv (tT T) N 0 SC (by omega) (by omega) wC.rf) (fun r S2 h2 => ?_)
      rw [pk_some]
      exact ⟨h2.1, h2.2.i nk83⟩
    · exact pk_mono (prM_o hN hF (hM.ag hc.i.ag) hv (tT T) N 0 S1 (by omega) (by omega) xM.rf) (fun r S2 h2 => ⟨h2.1, hc.i.tr (h2.2.i (by omega))⟩)
  · rw [e1, bd_some, if_pos rfl, e2, bd_some, if_pos rfl]
    exact st_q (R := -1) h (by rw [pk_some]; exact ⟨rfl, iC.rf⟩) (by rw [pk_some]; exact ⟨rfl, iM.rf⟩)
end OPI
