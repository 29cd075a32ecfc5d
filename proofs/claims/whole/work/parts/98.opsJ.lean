/-! ===== oaths ===== -/
def obit (s i : Nat) : Int32 := nI (s / 2 ^ i % 2)
def swo (s : Nat) (st : Nat → Int32) : Nat → Nat → Int32
  | 0 => st
  | i + 1 => upd (swo s st i) (32 + i) (obit s i)
theorem obit_dec : ∀ s, s < 16 → ∀ i, i < 4 → rx_ushr (nI s) (nI i) &&& 1 = obit s i ∧ (nI s >>> (nI i &&& 31)) &&& 1 = obit s i ∧ (obit s i = 0 ∨ obit s i = 1) := by decide +kernel
theorem flp_dec : ∀ t, t < 5 → ∀ s, s < 2 ^ t → ∀ i, i < t → (nI s ^^^ ((1 : Int32) <<< (nI i &&& 31))) = nI (s ^^^ 2 ^ i) ∧ s ^^^ 2 ^ i < 2 ^ t := by decide +kernel
theorem shl_dec : ∀ t, t < 5 → (1 : Int32) <<< (nI t &&& 31) = nI (2 ^ t) ∧ 2 ^ t ≤ 16 := by decide +kernel
section OPJ
variable {N : Nat} {T : tx} {n : Nat} {SC SM SC' SM' : rx_S} {st : Nat → Int32} {w0 : Nat}
theorem swo_ne {s j : Nat} : ∀ i, (j < 32 ∨ 32 + i ≤ j) → swo s st i j = st j := by
  intro i
  induction i with
  | zero => intro _; rfl
  | succ i ih =>
    intro h
    rw [swo, upd_ne (by omega)]
    exact ih (by omega)
theorem swo_ws (hF : WF T) (hW : WS T w0 st) {s : Nat} (hs : s < 16) : ∀ i, i ≤ tT T → WS T w0 (swo s st i) := by
  intro i
  have h4 := hF.2.2.1
  induction i with
  | zero => intro _; exact hW
  | succ i ih =>
    intro h
    exact (ih (by omega)).up (wsj_sw (by omega) (by omega) (obit_dec s hs i (by omega)).2.2)
theorem obit0 {s t i : Nat} (hs : s < 2 ^ t) (hi : t ≤ i) : obit s i = 0 := by
  have h : 2 ^ t ≤ 2 ^ i := Nat.pow_le_pow_right (by decide) hi
  unfold obit
  rw [Nat.div_eq_of_lt (by omega)]
  rfl
theorem swo_top (hF : WF T) (hW : WS T w0 st) {s : Nat} (hs : s < 2 ^ tT T) : ∀ k, tT T + k ≤ 4 → swo s st (tT T + k) = swo s st (tT T) := by
  intro k
  induction k with
  | zero => intro _; rfl
  | succ k ih =>
    intro h
    rw [show tT T + (k + 1) = (tT T + k) + 1 by omega, swo, ih (by omega), obit0 hs (by omega)]
    funext j
    by_cases e : j = 32 + (tT T + k)
    · rw [e, upd_at, swo_ne (tT T) (by omega)]
      exact (hW.sw0 (by omega) (by omega)).symm
    · rw [upd_ne e]
theorem swo_4 (hF : WF T) (hW : WS T w0 st) {s : Nat} (hs : s < 2 ^ tT T) : swo s st 4 = swo s st (tT T) := by
  have h4 := hF.2.2.1
  have := swo_top hF hW hs (4 - tT T) (by omega)
  rw [show tT T + (4 - tT T) = 4 by omega] at this
  exact this
def yC (S S' : rx_S) : Prop := (∀ k, k ≠ 6 → k ≠ 7 → k ≠ 89 → k ≠ 90 → S'.1 k = S.1 k) ∧ S'.2 = S.2
theorem yC.rf {S : rx_S} : yC S S := ⟨fun _ _ _ _ _ => rfl, rfl⟩
theorem yC.tr {S S' S'' : rx_S} (h : yC S S') (g : yC S' S'') : yC S S'' := ⟨fun k h1 h2 h3 h4 => (g.1 k h1 h2 h3 h4).trans (h.1 k h1 h2 h3 h4), g.2.trans h.2⟩
theorem wC.y9 {S S' : rx_S} (h : wC 89 S S') : yC S S' := ⟨fun k h1 h2 h3 _ => h.1 k h1 h2 h3, h.2⟩
theorem yC.u0 {S : rx_S} {i : Nat} {v : Int32} : yC S (rx_ui S 90 i v) := ⟨fun k _ _ _ h => ui_row h, rfl⟩
theorem yC.i {S S' : rx_S} (h : yC S S') : iC S S' := ⟨fun k hq => h.1 k (by unfold kpC at hq; omega) (by unfold kpC at hq; omega) (by unfold kpC at hq; omega) (by unfold kpC at hq; omega), h.2⟩
theorem to15_L (hF : WF T) {S : rx_S} (hT : TC N T S) {s : Nat} {x : Int32} (hs16 : s < 16) {Q : Unit → rx_S → Prop} {K : Int32 → Int32 → rx_S → Option (Unit × rx_S)} (kk : ∀ S', wC 89 S S' → stR T (S'.1 89) (swo s st (tT T)) → pk (K x (nI s) S') Q) : ∀ (m c i : Nat) (S1 : rx_S), i + m = tT T → m < c → wC 89 S S1 → stR T (S1.1 89) (swo s st i) → pk (f_X0_tryOaths_L15 N K c x (nI s) (nI i) S1) Q := by
  intro m
  have h4 := hF.2.2.1
  induction m with
  | zero =>
    intro c i S1 hi hc hs h1
    obtain ⟨c, rfl⟩ : ∃ q, c = q + 1 := ⟨c - 1, by omega⟩
    have : i = tT T := by omega
    subst this
    rw [f_X0_tryOaths_L15, (hT.ag (hs.ag (by decide))).1.2.2.1, if_pos (nI_le (Nat.le_refl _) (by omega))]
    exact kk S1 hs h1
  | succ m ih =>
    intro c i S1 hi hc hs h1
    obtain ⟨c, rfl⟩ : ∃ q, c = q + 1 := ⟨c - 1, by omega⟩
    have c36 : (36 : Int32) + nI i = nI (36 + i) := nI_add 36 i
    rw [f_X0_tryOaths_L15, (hT.ag (hs.ag (by decide))).1.2.2.1, if_neg (nI_ge (by omega) (by omega)), c36, pk_gdn (by omega) (by decide), pk_let, pk_let, nI_1, nI_clamp (by omega), (obit_dec s hs16 i (by omega)).1]
    refine ih c (i + 1) _ (by omega) (by omega) (hs.tr wC.u) ?_
    rw [ui_same]
    exact h1.u (by omega) (by omega) (by omega)
theorem to52_L (hN : 5000 ≤ N) {S : rx_S} (hF : WF T) (hT : TC N T S) {w M : Nat} {x : Int32} (hM : M ≤ 4000) (hw : w + M < 2 ^ 31) (hW : WS T w st) {Q : Unit → rx_S → Prop} {K : Int32 → rx_S → Option (Unit × rx_S)} (kk : ∀ S', wC 89 S S' → stR T (S'.1 89) (wks T (tE T) st M) → pk (K x S') Q) : ∀ (m c j : Nat) (S1 : rx_S), j + m = M → m < c → wC 89 S S1 → stR T (S1.1 89) (wks T (tE T) st j) → pk (f_X0_tryOaths_L52 N K c (nI M) x (nI j) S1) Q := by
  intro m
  induction m with
  | zero =>
    intro c j S1 hj hc hs h1
    obtain ⟨c, rfl⟩ : ∃ q, c = q + 1 := ⟨c - 1, by omega⟩
    rw [f_X0_tryOaths_L52, if_pos (nI_le (by omega) (by omega))]
    have : j = M := by omega
    rw [this] at h1
    exact kk S1 hs h1
  | succ m ih =>
    intro c j S1 hj hc hs h1
    obtain ⟨c, rfl⟩ : ∃ q, c = q + 1 := ⟨c - 1, by omega⟩
    have hT1 := hT.ag (hs.ag (by decide))
    rw [f_X0_tryOaths_L52, if_neg (nI_ge (by omega) (by omega)), hT1.1.2.2.2.2.1]
    refine pk_bdm (weekC_ok hN hF hT1 (by decide) h1 (w := w + j) (by omega) (ws_wks hF hW j)) (fun _ S2 h2 => ?_)
    rw [pk_let, nI_1]
    exact ih c (j + 1) S2 (by omega) (by omega) (hs.tr h2.2) h2.1
theorem to85_L (hF : WF T) {S : rx_S} (hT : TC N T S) {s : Nat} (hs16 : s < 16) {st' : Nat → Int32} (hR : stR T (S.1 89) st') : ∀ (m c i : Nat) (S1 : rx_S), i + m = tT T → m < c → fK 90 S S1 → (∀ j, j < i → S1.1 90 (s * 4 + j) = st' (36 + j)) → (∀ j, (j < s * 4 ∨ s * 4 + 4 ≤ j) → S1.1 90 j = S.1 90 j) → pk (f_X0_tryOaths_L85 N c (nI s) (nI i) S1) (fun _ S' => fK 90 S S' ∧ (∀ j, j < tT T → S'.1 90 (s * 4 + j) = st' (36 + j)) ∧ (∀ j, (j < s * 4 ∨ s * 4 + 4 ≤ j) → S'.1 90 j = S.1 90 j)) := by
  intro m
  have h4 := hF.2.2.1
  induction m with
  | zero =>
    intro c i S1 hi hc hs h1 h2
    obtain ⟨c, rfl⟩ : ∃ q, c = q + 1 := ⟨c - 1, by omega⟩
    have : i = tT T := by omega
    subst this
    rw [f_X0_tryOaths_L85, (hs.1 2 (by decide)), hT.1.2.2.1, if_pos (nI_le (Nat.le_refl _) (by omega)), pk_some]
    exact ⟨hs, h1, h2⟩
  | succ m ih =>
    intro c i S1 hi hc hs h1 h2
    obtain ⟨c, rfl⟩ : ∃ q, c = q + 1 := ⟨c - 1, by omega⟩
    have c40 : (40 : Int32) + nI i = nI (40 + i) := nI_add 40 i
    have c4 : nI s * 4 = nI (s * 4) := nI_mul s 4
    rw [f_X0_tryOaths_L85, (hs.1 2 (by decide)), hT.1.2.2.1, if_neg (nI_ge (by omega) (by omega)), c40, c4, nI_add, pk_gdn (by omega) (by decide), pk_gdn (by omega) (by decide), pk_let, pk_let, nI_1, nI_clamp (show s * 4 + i < 2 ^ 31 by omega), nI_clamp (show 40 + i < 2 ^ 31 by omega), hs.1 89 (by decide), hR.at (k := 40 + i) (j := 36 + i) (by omega) (by omega) (by omega)]
    refine ih c (i + 1) _ (by omega) (by omega) (hs.tr fK.ui) (fun j hj => ?_) (fun j hj => ?_)
    · rw [ui_same]
      by_cases e : j = i
      · rw [e, upd_at]
      · rw [upd_ne (by omega)]; exact h1 j (by omega)
    · rw [ui_same, upd_ne (by omega)]; exact h2 j hj
def eo (T : tx) (st : Nat → Int32) (M s i : Nat) : Int32 := wks T (tE T) (swo s st (tT T)) M (36 + i)
theorem try_ok (hN : 5000 ≤ N) {S : rx_S} (hF : WF T) (hT : TC N T S) (hR : stR T (S.1 32) st) {w M s : Nat} (hM : M ≤ 4000) (hw : w + M < 2 ^ 31) (hW : WS T w st) (hs16 : s < 16) : pk (f_X0_tryOaths N (nI M) (nI s) S) (fun _ S' => yC S S' ∧ (∀ j, j < tT T → S'.1 90 (s * 4 + j) = eo T st M s j) ∧ (∀ j, (j < s * 4 ∨ s * 4 + 4 ≤ j) → S'.1 90 j = S.1 90 j)) := by
  have h4 := hF.2.2.1
  unfold f_X0_tryOaths
  rw [pk_let, pk_let]
  have hs0 : wC 89 S (rx_ur S 89 (va_cpy (S.1 32) (S.1 89) 0 0 48)) := ⟨fun k _ _ hk => by rw [ur_get, if_neg hk], rfl⟩
  refine to15_L (S := S) (st := st) hF hT hs16 (fun S1 hs1 h1 => ?_) (tT T) N 0 _ (by omega) (by omega) hs0 (by rw [ur_same]; exact hR.cpy)
  rw [pk_let]
  refine to52_L (S := S) hN hF hT hM hw (swo_ws hF hW hs16 (tT T) (Nat.le_refl _)) (fun S2 hs2 h2 => ?_) M N 0 S1 (by omega) (by omega) hs1 h1
  refine pk_mono (to85_L (N := N) hF (hT.ag (hs2.ag (by decide))) hs16 h2 (tT T) N 0 S2 (by omega) (by omega) fK.rf (fun j hj => absurd hj (by omega)) (fun _ _ => rfl)) (fun _ S3 h3 => ?_)
  refine ⟨hs2.y9.tr ⟨fun k _ _ _ h => h3.1.1 k h, h3.1.2⟩, h3.2.1, fun j hj => ?_⟩
  rw [h3.2.2 j hj, hs2.1 90 (by decide) (by decide) (by decide)]
/-- two pictures of one row of the class: alike -/
theorem eo_same (hN : 5000 ≤ N) {S : rx_S} {st' : Nat → Int32} (hF : WF T) (hT : TC N T S) (hR : stR T (S.1 32) st) (hR' : stR T (S.1 32) st') {w M s i : Nat} (hM : M ≤ 4000) (hw : w + M < 2 ^ 31) (hW : WS T w st) (hW' : WS T w st') (hs16 : s < 16) (hi : i < tT T) : eo T st M s i = eo T st' M s i := by
  obtain ⟨_, A, e1, -, h1, -⟩ := try_ok hN hF hT hR hM hw hW hs16
  obtain ⟨_, B, e2, -, h2, -⟩ := try_ok hN hF hT hR' hM hw hW' hs16
  rw [e1] at e2
  cases e2
  rw [← h1 i hi, ← h2 i hi]
theorem otC_L (hN : 5000 ≤ N) {S : rx_S} (hF : WF T) (hT : TC N T S) (hR : stR T (S.1 32) st) {w M : Nat} {x : Int32} (hM : M ≤ 4000) (hw : w + M < 2 ^ 31) (hW : WS T w st) {Q : Int32 → rx_S → Prop} {K : Int32 → rx_S → Option (Int32 × rx_S)} (kk : ∀ S', yC S S' → (∀ s i, s < 2 ^ tT T → i < tT T → S'.1 90 (s * 4 + i) = eo T st M s i) → pk (K x S') Q) : ∀ (m c s : Nat) (S1 : rx_S), s + m = 2 ^ tT T → m < c → yC S S1 → (∀ p i, p < s → i < tT T → S1.1 90 (p * 4 + i) = eo T st M p i) → pk (f_X10_oaths_L20 N K c (nI M) x (nI s) S1) Q := by
  intro m
  have h4 := hF.2.2.1
  have h5 := shl_dec (tT T) (by omega)
  induction m with
  | zero =>
    intro c s S1 hs0 hc hs h1
    obtain ⟨c, rfl⟩ : ∃ q, c = q + 1 := ⟨c - 1, by omega⟩
    rw [f_X10_oaths_L20, hs.1 2 (by decide) (by decide) (by decide) (by decide), hT.1.2.2.1, h5.1, if_pos (nI_le (by omega) (by omega))]
    exact kk S1 hs (fun s i h2 h3 => h1 s i (by omega) h3)
  | succ m ih =>
    intro c s S1 hs0 hc hs h1
    obtain ⟨c, rfl⟩ : ∃ q, c = q + 1 := ⟨c - 1, by omega⟩
    have hTs := hT.ag (S' := S1) (fun k hk => hs.1 k (by omega) (by omega) (by omega) (by omega))
    rw [f_X10_oaths_L20, hTs.1.2.2.1, h5.1, if_neg (nI_ge (by omega) (by omega))]
    refine pk_bdm (try_ok hN hF hTs (by rw [hs.1 32 (by decide) (by decide) (by decide) (by decide)]; exact hR) hM hw hW (show s < 16 by omega)) (fun _ S2 h2 => ?_)
    rw [pk_let, nI_1]
    refine ih c (s + 1) S2 (by omega) (by omega) (hs.tr h2.1) (fun p i hp hi => ?_)
    by_cases e : p = s
    · rw [e]; exact h2.2.1 i hi
    · rw [h2.2.2 _ (by omega)]; exact h1 p i (by omega) hi
def rsb (e : Nat → Nat → Int32) (s : Nat) : Nat → Bool
  | 0 => true
  | i + 1 => rsb e s i && decide (e (s ^^^ 2 ^ i) i ≤ e s i)
theorem rsb_no {e : Nat → Nat → Int32} {s i : Nat} (h : rsb e s i = false) : ∀ m, rsb e s (i + m) = false := by
  intro m
  induction m with
  | zero => exact h
  | succ m ih => rw [show i + (m + 1) = (i + m) + 1 by omega, rsb, ih]; rfl
theorem rsC_L {S : rx_S} {t : Nat} {e : Nat → Nat → Int32} (ht : t < 5) (h2 : S.1 2 8 = nI t) (he : ∀ s i, s < 2 ^ t → i < t → S.1 90 (s * 4 + i) = e s i) {s : Nat} (hs : s < 2 ^ t) : ∀ (m c i : Nat), i + m = t → m < c → rsb e s i = true → f_X0_isResting_L2 N c (nI s) (nI i) S = some (if rsb e s t = true then 1 else 0, S) := by
  intro m
  have h5 := shl_dec t ht
  induction m with
  | zero =>
    intro c i hi hc hr
    obtain ⟨c, rfl⟩ : ∃ q, c = q + 1 := ⟨c - 1, by omega⟩
    have : i = t := by omega
    subst this
    rw [f_X0_isResting_L2, h2, if_pos (nI_le (Nat.le_refl _) (by omega)), if_pos hr]
  | succ m ih =>
    intro c i hi hc hr
    obtain ⟨c, rfl⟩ : ∃ q, c = q + 1 := ⟨c - 1, by omega⟩
    have hf := flp_dec t ht s hs i (by omega)
    have c1 : nI s * 4 = nI (s * 4) := nI_mul s 4
    have c2 : nI (s ^^^ 2 ^ i) * 4 = nI ((s ^^^ 2 ^ i) * 4) := nI_mul _ 4
    have hx : (s ^^^ 2 ^ i) < 16 := by omega
    rw [f_X0_isResting_L2, h2, if_neg (nI_ge (by omega) (by omega))]
    simp only [rx_let]
    rw [hf.1, c1, c2, nI_add, nI_add, rx_gd_in (vp_in_nI (by omega) (by decide)), rx_gd_in (vp_in_nI (by omega) (by decide)), nI_clamp (by omega), nI_clamp (by omega), he _ i hf.2 (by omega), he s i hs (by omega), nI_1]
    by_cases q : e (s ^^^ 2 ^ i) i ≤ e s i
    · rw [if_pos q]
      exact ih c (i + 1) (by omega) (by omega) (by rw [rsb, hr, Bool.true_and]; exact decide_eq_true q)
    · rw [if_neg q]
      have e1 : rsb e s (i + 1) = false := by rw [rsb, hr, Bool.true_and]; exact decide_eq_false q
      have e2 := rsb_no e1 m
      rw [show i + 1 + m = t by omega] at e2
      rw [e2]
      rfl
theorem rsM_L {S : rx_S} {t lv : Nat} {e : Nat → Nat → Int32} (ht : t < 5) (hlv : lv < 2) (h1 : S.1 94 18 = nI lv) (h2 : S.1 109 lv = nI t) (he : ∀ s i, s < 2 ^ t → i < t → S.1 133 (4 * s + i) = e s i) {s : Nat} (hs : s < 2 ^ t) : ∀ (m c i : Nat), i + m = t → m < c → rsb e s i = true → f_X11_isResting_L2 N c (nI s) (nI i) S = some (if rsb e s t = true then 1 else 0, S) := by
  intro m
  have h5 := shl_dec t ht
  induction m with
  | zero =>
    intro c i hi hc hr
    obtain ⟨c, rfl⟩ : ∃ q, c = q + 1 := ⟨c - 1, by omega⟩
    have : i = t := by omega
    subst this
    rw [f_X11_isResting_L2, h1, rx_gd_in (vp_in_nI hlv (by decide)), nI_clamp (show lv < 2 ^ 31 by omega), h2, if_pos (nI_le (Nat.le_refl _) (by omega)), if_pos hr]
  | succ m ih =>
    intro c i hi hc hr
    obtain ⟨c, rfl⟩ : ∃ q, c = q + 1 := ⟨c - 1, by omega⟩
    have hf := flp_dec t ht s hs i (by omega)
    have c1 : (4 : Int32) * nI s = nI (4 * s) := nI_mul 4 s
    have c2 : (4 : Int32) * nI (s ^^^ 2 ^ i) = nI (4 * (s ^^^ 2 ^ i)) := nI_mul 4 _
    have hx : (s ^^^ 2 ^ i) < 16 := by omega
    rw [f_X11_isResting_L2, h1, rx_gd_in (vp_in_nI hlv (by decide)), nI_clamp (show lv < 2 ^ 31 by omega), h2, if_neg (nI_ge (by omega) (by omega))]
    simp only [rx_let]
    rw [hf.1, c1, c2, nI_add, nI_add, rx_gd_in (vp_in_nI (show 4 * (s ^^^ 2 ^ i) + i < 64 by omega) (by decide)), rx_gd_in (vp_in_nI (show 4 * s + i < 64 by omega) (by decide)), nI_clamp (show 4 * (s ^^^ 2 ^ i) + i < 2 ^ 31 by omega), nI_clamp (show 4 * s + i < 2 ^ 31 by omega), he _ i hf.2 (by omega), he s i hs (by omega), nI_1]
    by_cases q : e (s ^^^ 2 ^ i) i ≤ e s i
    · rw [if_pos q]
      exact ih c (i + 1) (by omega) (by omega) (by rw [rsb, hr, Bool.true_and]; exact decide_eq_true q)
    · rw [if_neg q]
      have e1 : rsb e s (i + 1) = false := by rw [rsb, hr, Bool.true_and]; exact decide_eq_false q
      have e2 := rsb_no e1 m
      rw [show i + 1 + m = t by omega] at e2
      rw [e2]
      rfl
def rsf (p : Nat → Bool) (x : Int32) : Nat → Nat → Nat → Int32
  | 0, _, f => if x = -1 then nI f else -1
  | m + 1, s, f => if p s = true then (if nI f = x then nI s else rsf p x m (s + 1) (f + 1)) else rsf p x m (s + 1) f
theorem roC_L (hN : 5000 ≤ N) {S : rx_S} {t : Nat} {e : Nat → Nat → Int32} {x : Int32} (ht : t < 5) (h2 : S.1 2 8 = nI t) (he : ∀ s i, s < 2 ^ t → i < t → S.1 90 (s * 4 + i) = e s i) : ∀ (m c s f : Nat), s + m = 2 ^ t → m < c → f_X0_restingOaths_L4 N (fun x3 x4 S5 => if x3 = (-1) then (some (x4, S5)) else (some ((-1), S5))) c x (nI f) (nI s) S = some (rsf (fun s => rsb e s t) x m s f, S) := by
  intro m
  have h5 := shl_dec t ht
  induction m with
  | zero =>
    intro c s f hs hc
    obtain ⟨c, rfl⟩ : ∃ q, c = q + 1 := ⟨c - 1, by omega⟩
    rw [f_X0_restingOaths_L4, h2, h5.1, if_pos (nI_le (by omega) (by omega)), rsf]
    split <;> rfl
  | succ m ih =>
    intro c s f hs hc
    obtain ⟨c, rfl⟩ : ∃ q, c = q + 1 := ⟨c - 1, by omega⟩
    have e1 : f_X0_isResting N (nI s) S = _ := rsC_L (N := N) ht h2 he (s := s) (by omega) t N 0 (by omega) (by omega) rfl
    rw [f_X0_restingOaths_L4, h2, h5.1, if_neg (nI_ge (by omega) (by omega)), e1, bd_some, rsf]
    simp only [rx_let, nI_1]
    by_cases q : rsb e s t = true
    · rw [if_pos q, if_neg (show ¬ (1 : Int32) = 0 by decide), if_pos q]
      by_cases z : nI f = x
      · rw [if_pos z, if_pos z]
      · rw [if_neg z, if_neg z]
        exact ih c (s + 1) (f + 1) (by omega) (by omega)
    · rw [if_neg q, if_pos rfl, if_neg q]
      exact ih c (s + 1) f (by omega) (by omega)
theorem roM_L (hN : 5000 ≤ N) {S : rx_S} {t lv : Nat} {e : Nat → Nat → Int32} {x : Int32} (ht : t < 5) (hlv : lv < 2) (h1 : S.1 94 18 = nI lv) (h2 : S.1 109 lv = nI t) (he : ∀ s i, s < 2 ^ t → i < t → S.1 133 (4 * s + i) = e s i) : ∀ (m c s f : Nat), s + m = 2 ^ t → m < c → f_X11_oaths_L57 N (fun x14 x15 S16 => if x14 = (-1) then (some (x15, S16)) else (some ((-1), S16))) c x (nI (2 ^ t)) (nI f) (nI s) S = some (rsf (fun s => rsb e s t) x m s f, S) := by
  intro m
  have h5 := shl_dec t ht
  induction m with
  | zero =>
    intro c s f hs hc
    obtain ⟨c, rfl⟩ : ∃ q, c = q + 1 := ⟨c - 1, by omega⟩
    rw [f_X11_oaths_L57, if_pos (nI_le (by omega) (by omega)), rsf]
    split <;> rfl
  | succ m ih =>
    intro c s f hs hc
    obtain ⟨c, rfl⟩ : ∃ q, c = q + 1 := ⟨c - 1, by omega⟩
    have e1 : f_X11_isResting N (nI s) S = _ := rsM_L (N := N) ht hlv h1 h2 he (s := s) (by omega) t N 0 (by omega) (by omega) rfl
    rw [f_X11_oaths_L57, if_neg (nI_ge (by omega) (by omega)), e1, bd_some, rsf]
    simp only [rx_let, nI_1]
    by_cases q : rsb e s t = true
    · rw [if_pos q, if_neg (show ¬ (1 : Int32) = 0 by decide), if_pos q]
      by_cases z : nI f = x
      · rw [if_pos z, if_pos z]
      · rw [if_neg z, if_neg z]
        exact ih c (s + 1) (f + 1) (by omega) (by omega)
    · rw [if_neg q, if_pos rfl, if_neg q]
      exact ih c (s + 1) f (by omega) (by omega)
theorem fp6_L {S : rx_S} {s : Nat} {x : Int32} (hs16 : s < 16) {Q : Unit → rx_S → Prop} {K : Int32 → Int32 → rx_S → Option (Unit × rx_S)} (kk : ∀ S', fK 127 S S' → S'.1 127 = swo s (S.1 127) 4 → pk (K (nI s) x S') Q) : ∀ (m c i : Nat) (S1 : rx_S), i + m = 4 → m < c → fK 127 S S1 → S1.1 127 = swo s (S.1 127) i → pk (f_X11_fillsPaid_L6 N K c (nI s) x (nI i) S1) Q := by
  intro m
  induction m with
  | zero =>
    intro c i S1 hi hc hs h1
    obtain ⟨c, rfl⟩ : ∃ q, c = q + 1 := ⟨c - 1, by omega⟩
    have : i = 4 := by omega
    subst this
    rw [f_X11_fillsPaid_L6, if_pos (by decide)]
    exact kk S1 hs h1
  | succ m ih =>
    intro c i S1 hi hc hs h1
    obtain ⟨c, rfl⟩ : ∃ q, c = q + 1 := ⟨c - 1, by omega⟩
    have c32 : (32 : Int32) + nI i = nI (32 + i) := nI_add 32 i
    rw [f_X11_fillsPaid_L6, if_neg (show ¬ (4 : Int32) ≤ nI i from nI_ge (b := 4) (by omega) (by decide)), c32, pk_gdn (by omega) (by decide), pk_let, pk_let, nI_1, nI_clamp (by omega), (obit_dec s hs16 i (by omega)).2.1]
    refine ih c (i + 1) _ (by omega) (by omega) (hs.tr fK.ui) ?_
    rw [ui_same, h1]
    rfl
theorem fp38_L {S : rx_S} {s : Nat} (hs16 : s < 16) : ∀ (m c i : Nat) (S1 : rx_S), i + m = 4 → m < c → fK 133 S S1 → (∀ j, j < i → S1.1 133 (4 * s + j) = S.1 127 (36 + j)) → (∀ j, (j < 4 * s ∨ 4 * s + 4 ≤ j) → S1.1 133 j = S.1 133 j) → pk (f_X11_fillsPaid_L38 N c (nI s) (nI i) S1) (fun _ S' => fK 133 S S' ∧ (∀ j, j < 4 → S'.1 133 (4 * s + j) = S.1 127 (36 + j)) ∧ (∀ j, (j < 4 * s ∨ 4 * s + 4 ≤ j) → S'.1 133 j = S.1 133 j)) := by
  intro m
  induction m with
  | zero =>
    intro c i S1 hi hc hs h1 h2
    obtain ⟨c, rfl⟩ : ∃ q, c = q + 1 := ⟨c - 1, by omega⟩
    rw [f_X11_fillsPaid_L38, if_pos (show (4 : Int32) ≤ nI i from nI_le (a := 4) (by omega) (by omega)), pk_some]
    exact ⟨hs, fun j hj => h1 j (by omega), h2⟩
  | succ m ih =>
    intro c i S1 hi hc hs h1 h2
    obtain ⟨c, rfl⟩ : ∃ q, c = q + 1 := ⟨c - 1, by omega⟩
    have c36 : (36 : Int32) + nI i = nI (36 + i) := nI_add 36 i
    have c4 : (4 : Int32) * nI s = nI (4 * s) := nI_mul 4 s
    rw [f_X11_fillsPaid_L38, if_neg (show ¬ (4 : Int32) ≤ nI i from nI_ge (b := 4) (by omega) (by decide)), c36, c4, nI_add, pk_gdn (by omega) (by decide), pk_gdn (by omega) (by decide), pk_let, pk_let, nI_1, nI_clamp (show 4 * s + i < 2 ^ 31 by omega), nI_clamp (show 36 + i < 2 ^ 31 by omega), hs.1 127 (by decide)]
    refine ih c (i + 1) _ (by omega) (by omega) (hs.tr fK.ui) (fun j hj => ?_) (fun j hj => ?_)
    · rw [ui_same]
      by_cases e : j = i
      · rw [e, upd_at]
      · rw [upd_ne (by omega)]; exact h1 j (by omega)
    · rw [ui_same, upd_ne (by omega)]; exact h2 j hj
theorem fp_ok (hN : 5000 ≤ N) {S : rx_S} (hF : WF T) (hT : TM N T S) (hTC : TC N T SC) (hR : stR T (SC.1 32) (S.1 126)) {w M s : Nat} (hM : M ≤ 4000) (hw : w + M < 2 ^ 31) (hW : WS T w (S.1 126)) (hs : s < 2 ^ tT T) : pk (f_X11_fillsPaid N (nI s) (nI M) S) (fun _ S' => iM S S' ∧ (∀ j, j < tT T → S'.1 133 (4 * s + j) = eo T (S.1 126) M s j) ∧ (∀ j, (j < 4 * s ∨ 4 * s + 4 ≤ j) → S'.1 133 j = S.1 133 j)) := by
  have h4 := hF.2.2.1
  have h5 := shl_dec (tT T) (by omega)
  have hs16 : s < 16 := by omega
  unfold f_X11_fillsPaid
  obtain ⟨u, S1, e3, hc⟩ := copies_ok hN hT
  have hc : cM T S S1 := hc
  rw [e3, bd_some, pk_let]
  refine fp6_L (S := S1) hs16 (fun S2 f2 g2 => ?_) 4 N 0 S1 (by omega) (by omega) fK.rf rfl
  have hW1 := hc.ws hW
  have hR1 := hc.st hR
  rw [swo_4 hF hW1 hs] at g2
  have hm2 : iM S S2 := hc.i.tr (wM.i (wM.f7 f2))
  refine pk_bdm (goes_ok (M := M) hN hF (hT.ag hm2.ag) (by omega) hw (by rw [g2]; exact swo_ws hF hW1 hs16 (tT T) (Nat.le_refl _))) (fun _ S3 h3 => ?_)
  have hl : S2.1 94 51 = tE T := by rw [f2.1 94 (by decide)]; exact hc.2.1
  rw [hl, g2] at h3
  refine pk_mono (fp38_L (N := N) (S := S3) hs16 4 N 0 S3 (by omega) (by omega) fK.rf (fun j hj => absurd hj (by omega)) (fun _ _ => rfl)) (fun _ S4 h4' => ?_)
  refine ⟨(hm2.tr h3.2.i).tr ⟨fun k j hk => by rw [h4'.1.1 k (by unfold kpM at hk; omega)], h4'.1.2⟩, fun j hj => ?_, fun j hj => ?_⟩
  · rw [h4'.2.1 j (by omega), h3.1]
    exact eo_same hN hF hTC hR1 hR hM hw hW1 hW hs16 hj
  · rw [h4'.2.2 j hj, h3.2.row (by decide) (by decide) (by decide) (by decide), f2.1 133 (by decide), hc.2.2.1 133 (by decide) (by decide)]
theorem otM_L (hN : 5000 ≤ N) {S : rx_S} (hF : WF T) (hT : TM N T S) (hTC : TC N T SC) (hR : stR T (SC.1 32) (S.1 126)) {w M : Nat} {x : Int32} (hM : M ≤ 4000) (hw : w + M < 2 ^ 31) (hW : WS T w (S.1 126)) {Q : Int32 → rx_S → Prop} {K : Int32 → Int32 → rx_S → Option (Int32 × rx_S)} (kk : ∀ S', iM S S' → (∀ s i, s < 2 ^ tT T → i < tT T → S'.1 133 (4 * s + i) = eo T (S.1 126) M s i) → pk (K x (nI (2 ^ tT T)) S') Q) : ∀ (m c s : Nat) (S1 : rx_S), s + m = 2 ^ tT T → m < c → iM S S1 → (∀ p i, p < s → i < tT T → S1.1 133 (4 * p + i) = eo T (S.1 126) M p i) → pk (f_X11_oaths_L32 N K c (nI M) x (nI (2 ^ tT T)) (nI s) S1) Q := by
  intro m
  have h4 := hF.2.2.1
  have h5 := shl_dec (tT T) (by omega)
  induction m with
  | zero =>
    intro c s S1 hs0 hc hs h1
    obtain ⟨c, rfl⟩ : ∃ q, c = q + 1 := ⟨c - 1, by omega⟩
    rw [f_X11_oaths_L32, if_pos (nI_le (by omega) (by omega))]
    exact kk S1 hs (fun s i h2 h3 => h1 s i (by omega) h3)
  | succ m ih =>
    intro c s S1 hs0 hc hs h1
    obtain ⟨c, rfl⟩ : ∃ q, c = q + 1 := ⟨c - 1, by omega⟩
    have e126 : S1.1 126 = S.1 126 := hs.row (by omega)
    rw [f_X11_oaths_L32, if_neg (nI_ge (by omega) (by omega))]
    refine pk_bdm (fp_ok hN hF (hT.ag hs.ag) hTC (by rw [e126]; exact hR) hM hw (by rw [e126]; exact hW) (show s < 2 ^ tT T by omega)) (fun _ S2 h2 => ?_)
    rw [e126] at h2
    rw [pk_let, nI_1]
    refine ih c (s + 1) S2 (by omega) (by omega) (hs.tr h2.1) (fun p i hp hi => ?_)
    by_cases e : p = s
    · rw [e]; exact h2.2.1 i hi
    · rw [h2.2.2 _ (by omega)]; exact h1 p i (by omega) hi
theorem st_oaths (hN : 5000 ≤ N) : ST_oaths N (Inv N) := by
  intro n SC SM hn h x1 x2
  obtain ⟨-, -, -, -, -, T, ⟨hF, hC', hM⟩, ⟨hR, w, hw, hW⟩, -, -⟩ := id h
  have h4 := hF.2.2.1
  have h5 := shl_dec (tT T) (by omega)
  have no : ∃ r SC' SM', (some ((-1 : Int32), SC) : Option (Int32 × rx_S)) = some (r, SC') ∧ (some ((-1 : Int32), SM) : Option (Int32 × rx_S)) = some (r, SM') ∧ Inv N (n + 1) SC' SM' := st_q (R := -1) h (by rw [pk_some]; exact ⟨rfl, iC.rf⟩) (by rw [pk_some]; exact ⟨rfl, iM.rf⟩)
  unfold f_X10_oaths f_X11_oaths
  rw [in_eq, bd_some]
  by_cases q : (1 : Int32) ≤ x1 ∧ x1 ≤ 24
  · rw [if_pos q, if_neg (show ¬ (1 : Int32) = 0 by decide), if_neg (i_nlt.mpr q.1), if_neg (i_nlt.mpr q.2)]
    by_cases q2 : (-1 : Int32) ≤ x2
    · rw [if_pos q2, if_pos q2]
      obtain ⟨M, hM0, rfl⟩ := nI_of' (x := x1) (by
        have h1 := q.1
        rw [i_le] at h1 ⊢
        have : (1 : Int32).toInt = 1 := rfl
        have : (0 : Int32).toInt = 0 := rfl
        omega)
      have hM24 : M ≤ 24 := (nI_leI (b := 24) hM0 (by decide)).mp q.2
      obtain ⟨lv, hlv, t⟩ := hM.1
      refine st_q (R := rsf (fun s => rsb (eo T (SM.1 126) M) s (tT T)) x2 (2 ^ tT T) 0 0) h ?_ ?_
      · rw [pk_let]
        refine otC_L (S := SC) hN hF hC' hR (M := M) (w := w) (by omega) (by omega) hW (fun S2 h2 g2 => ?_) (2 ^ tT T) N 0 SC (by omega) (by omega) yC.rf (fun p i hp => absurd hp (by omega))
        have e : f_X0_restingOaths N x2 S2 = _ := roC_L (N := N) hN (t := tT T) (by omega) (by rw [h2.1 2 (by decide) (by decide) (by decide) (by decide)]; exact hC'.1.2.2.1) g2 (2 ^ tT T) N 0 0 (by omega) (by omega)
        rw [e, bd_some, pk_some]
        exact ⟨rfl, h2.i⟩
      · rw [t.1, pk_gdn hlv (by decide), nI_clamp (by omega), t.2.2.2.1, h5.1, pk_let, pk_let]
        refine otM_L (S := SM) hN hF hM hC' hR (M := M) (w := w) (by omega) (by omega) hW (fun S2 h2 g2 => ?_) (2 ^ tT T) N 0 SM (by omega) (by omega) iM.rf (fun p i hp => absurd hp (by omega))
        rw [pk_let]
        have e := roM_L (N := N) hN (x := x2) (t := tT T) (S := S2) (by omega) hlv (by rw [h2.fld (by omega)]; exact t.1) (by rw [h2.row (by omega)]; exact t.2.2.2.1) g2 (2 ^ tT T) N 0 0 (by omega) (by omega)
        have e : f_X11_oaths_L57 N (fun x14 x15 S16 => if x14 = (-1) then (some (x15, S16)) else (some ((-1), S16))) N x2 (nI (2 ^ tT T)) 0 0 S2 = _ := e
        rw [e, pk_some]
        exact ⟨rfl, h2⟩
    · rw [if_neg q2, if_neg q2]
      exact no
  · rw [if_neg q, if_pos rfl]
    have e : ∀ A : Option (Int32 × rx_S), (if x1 < 1 then some ((-1 : Int32), SC) else if 24 < x1 then some (-1, SC) else A) = some (-1, SC) := fun A => by
      by_cases z : x1 < 1
      · rw [if_pos z]
      · rw [if_neg z, if_pos (i_nle.mp (fun y => q ⟨i_nlt.mp z, y⟩))]
    rw [e]
    exact no
end OPJ
