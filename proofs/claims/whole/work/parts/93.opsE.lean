/-! ===== what is done: hire, swear, weeks, undo, hold, restore ===== -/
section OPE
variable {N : Nat} {T : tx} {n : Nat} {SC SM SC' SM' : rx_S}
theorem min40 {d : Nat} (h : d ≤ 41) : (if nI d < 40 then nI d else 40) = nI (min 40 d) := by
  by_cases q : d < 40
  · rw [if_pos (show nI d < 40 from nI_lt (b := 40) q (by decide)), Nat.min_eq_right (by omega)]
  · rw [if_neg (show ¬ nI d < 40 from nI_nlt (b := 40) (by omega) (by omega)), Nat.min_eq_left (by omega)]
    rfl
def remP (nx ds : Nat) (S S' : rx_S) : Prop := (∀ k, k ≠ 33 → k ≠ 35 + nx → S'.1 k = S.1 k) ∧ (∀ j, j < 48 → S'.1 (35 + nx) j = S.1 32 j) ∧ S'.1 33 3 = nI ((nx + 1) % 40) ∧ S'.1 33 4 = nI (min 40 (ds + 1)) ∧ S'.2 = S.2
theorem rem_ok {S : rx_S} {nx ds : Nat} (hx : nx < 40) (hd : ds ≤ 40) (e3 : S.1 33 3 = nI nx) (e4 : S.1 33 4 = nI ds) : pk (f_X3_remember S) (fun _ S' => remP nx ds S S') := by
  unfold f_X3_remember
  rw [e3, if_neg (nI_pos (by omega)), if_neg (show ¬ (40 : Int32) ≤ nI nx from nI_ge (b := 40) hx (by decide)), pk_gdn hx (by decide), pk_let, pk_let, nI_clamp (by omega)]
  have r3 : ∀ f, (rx_ur S (35 + nx) f).1 33 = S.1 33 := fun f => by rw [ur_get, if_neg (by omega)]
  rw [r3, e3, nI_1]
  have fin : ∀ (f : Nat → Int32) (v : Nat), (∀ j, j < 48 → f j = S.1 32 j) → v = (nx + 1) % 40 → remP nx ds S (rx_ui (rx_ui (rx_ur S (35 + nx) f) 33 3 (nI v)) 33 4 (nI (min 40 (ds + 1)))) := by
    intro f v hf hv
    refine ⟨fun k h1 h2 => ?_, fun j hj => ?_, ?_, ?_, rfl⟩
    · rw [ui_row h1, ui_row h1, ur_get, if_neg h2]
    · rw [ui_row (by omega), ui_row (by omega), ur_same]; exact hf j hj
    · rw [ui_same, upd_ne (by decide), ui_same, upd_at, hv]
    · rw [ui_same, upd_at]
  by_cases q : nx + 1 = 40
  · rw [if_pos (show (40 : Int32) ≤ nI (nx + 1) from nI_le (a := 40) (by omega) (by omega)), pk_let, pk_let, pk_some, ui_same, upd_ne (by decide), r3, e4, nI_1, min40 (by omega)]
    exact fin _ 0 (fun j hj => cpy_get hj) (by omega)
  · rw [if_neg (show ¬ (40 : Int32) ≤ nI (nx + 1) from nI_ge (b := 40) (by omega) (by decide)), pk_let, pk_let, pk_some, ui_same, upd_ne (by decide), r3, e4, nI_1, min40 (by omega)]
    exact fin _ (nx + 1) (fun j hj => cpy_get hj) (by omega)
theorem kRow_L {S0 : rx_S} : ∀ (m c i : Nat) (S : rx_S), i + m = 48 → m < c → fK 126 S0 S → (∀ j, j < i → S.1 126 j = S0.1 127 j) → pk (f_X11_keepsRow_L2 N c (nI i) S) (fun _ S' => fK 126 S0 S' ∧ ∀ j, j < 48 → S'.1 126 j = S0.1 127 j) := by
  intro m
  induction m with
  | zero =>
    intro c i S hi hc f h
    obtain ⟨c, rfl⟩ : ∃ q, c = q + 1 := ⟨c - 1, by omega⟩
    rw [f_X11_keepsRow_L2, if_pos (show (48 : Int32) ≤ nI i from nI_le (a := 48) (by omega) (by omega)), pk_some]
    exact ⟨f, fun j hj => h j (by omega)⟩
  | succ m ih =>
    intro c i S hi hc f h
    obtain ⟨c, rfl⟩ : ∃ q, c = q + 1 := ⟨c - 1, by omega⟩
    rw [f_X11_keepsRow_L2, if_neg (show ¬ (48 : Int32) ≤ nI i from nI_ge (b := 48) (by omega) (by decide)), pk_gdn (by omega) (by decide), pk_gdn (by omega) (by decide), pk_let, pk_let, nI_1, nI_clamp (by omega)]
    refine ih c (i + 1) _ (by omega) (by omega) (f.tr fK.ui) (fun j hj => ?_)
    rw [ui_same]
    by_cases e : j = i
    · subst e
      rw [upd_at, f.1 127 (by decide)]
    · rw [upd_ne e]
      exact h j (by omega)
theorem kRow_ok (hN : 5000 ≤ N) {S : rx_S} : pk (f_X11_keepsRow N S) (fun _ S' => fK 126 S S' ∧ ∀ j, j < 48 → S'.1 126 j = S.1 127 j) := kRow_L 48 N 0 S rfl (by omega) fK.rf (fun j hj => absurd hj (by omega))
theorem kp51_L {d : Nat} (hd : d < 40) {P : Unit → rx_S → Prop} {K : rx_S → Option (Unit × rx_S)} {S0 : rx_S} (e : S0.1 94 52 = nI d) (k : ∀ S', fK 128 S0 S' → (∀ j, j < 48 → S'.1 128 (48 * d + j) = S0.1 126 j) → (∀ j, j < 48 * d → S'.1 128 j = S0.1 128 j) → pk (K S') P) : ∀ (m c i : Nat) (S : rx_S), i + m = 48 → m < c → fK 128 S0 S → (∀ j, j < i → S.1 128 (48 * d + j) = S0.1 126 j) → (∀ j, j < 48 * d → S.1 128 j = S0.1 128 j) → pk (f_X11_keeps_L51 N K c (nI i) S) P := by
  intro m
  induction m with
  | zero =>
    intro c i S hi hc f h1 h2
    obtain ⟨c, rfl⟩ : ∃ q, c = q + 1 := ⟨c - 1, by omega⟩
    rw [f_X11_keeps_L51, if_pos (show (48 : Int32) ≤ nI i from nI_le (a := 48) (by omega) (by omega))]
    exact k S f (fun j hj => h1 j (by omega)) h2
  | succ m ih =>
    intro c i S hi hc f h1 h2
    obtain ⟨c, rfl⟩ : ∃ q, c = q + 1 := ⟨c - 1, by omega⟩
    have ei : (48 : Int32) * nI d + nI i = nI (48 * d + i) := by
      have : (48 : Int32) * nI d = nI (48 * d) := nI_mul 48 d
      rw [this, nI_add]
    rw [f_X11_keeps_L51, if_neg (show ¬ (48 : Int32) ≤ nI i from nI_ge (b := 48) (by omega) (by decide)), f.1 94 (by decide), e, ei, pk_gdn (by omega) (by decide), pk_gdn (by omega) (by decide), pk_let, pk_let, nI_1, nI_clamp (by omega), nI_clamp (by omega)]
    refine ih c (i + 1) _ (by omega) (by omega) (f.tr fK.ui) (fun j hj => ?_) (fun j hj => ?_)
    · rw [ui_same]
      by_cases e : j = i
      · subst e
        rw [upd_at, f.1 126 (by decide)]
      · rw [upd_ne (by omega)]
        exact h1 j (by omega)
    · rw [ui_same, upd_ne (by omega)]
      exact h2 j hj
theorem kp11_L {P : Unit → rx_S → Prop} {K : rx_S → Option (Unit × rx_S)} {S0 : rx_S} (k : ∀ S', fK 128 S0 S' → (∀ j, j < 1872 → S'.1 128 j = S0.1 128 (j + 48)) → pk (K S') P) : ∀ (m c i : Nat) (S : rx_S), i + m = 1872 → m < c → fK 128 S0 S → (∀ j, j < i → S.1 128 j = S0.1 128 (j + 48)) → (∀ j, i ≤ j → S.1 128 j = S0.1 128 j) → pk (f_X11_keeps_L11 N K c (nI i) S) P := by
  intro m
  induction m with
  | zero =>
    intro c i S hi hc f h1 h2
    obtain ⟨c, rfl⟩ : ∃ q, c = q + 1 := ⟨c - 1, by omega⟩
    rw [f_X11_keeps_L11, if_pos (show (1872 : Int32) ≤ nI i from nI_le (a := 1872) (by omega) (by omega))]
    exact k S f (fun j hj => h1 j (by omega))
  | succ m ih =>
    intro c i S hi hc f h1 h2
    obtain ⟨c, rfl⟩ : ∃ q, c = q + 1 := ⟨c - 1, by omega⟩
    have ei : nI i + 48 = nI (i + 48) := nI_add i 48
    rw [f_X11_keeps_L11, if_neg (show ¬ (1872 : Int32) ≤ nI i from nI_ge (b := 1872) (by omega) (by decide)), ei, pk_gdn (by omega) (by decide), pk_gdn (by omega) (by decide), pk_let, pk_let, nI_1, nI_clamp (by omega), nI_clamp (by omega)]
    refine ih c (i + 1) _ (by omega) (by omega) (f.tr fK.ui) (fun j hj => ?_) (fun j hj => ?_)
    · rw [ui_same]
      by_cases e : j = i
      · subst e
        rw [upd_at]
        exact h2 _ (by omega)
      · rw [upd_ne e]
        exact h1 j (by omega)
    · rw [ui_same, upd_ne (by omega)]
      exact h2 j (by omega)
def kpP (d : Nat) (S S' : rx_S) : Prop := (∀ j, j < 48 → S'.1 126 j = S.1 127 j) ∧ S'.1 94 52 = nI (d + 1) ∧ (∀ j, j < 48 * d → S'.1 128 j = S.1 128 j) ∧ (∀ k, k < 48 → S'.1 128 (48 * d + k) = S.1 126 k) ∧ (∀ k, k ≠ 126 → k ≠ 128 → k ≠ 94 → S'.1 k = S.1 k) ∧ (∀ j, j ≠ 52 → S'.1 94 j = S.1 94 j) ∧ S'.2 = S.2
theorem kpT_ok (hN : 5000 ≤ N) {S : rx_S} {d : Nat} (hd : d < 40) (e : S.1 94 52 = nI d) : pk (f_X11_keeps_L51 N (fun S3 => rx_let (rx_ui S3 94 52 ((S3.1 94 52) + 1)) (fun S4 => rx_bd (f_X11_keepsRow N S4) (fun x6 S5 => some ((), S5)))) N 0 S) (fun _ S' => kpP d S S') := by
  refine kp51_L hd e (fun S1 f h1 h2 => ?_) 48 N 0 S rfl (by omega) fK.rf (fun j hj => absurd hj (by omega)) (fun _ _ => rfl)
  rw [pk_let, f.1 94 (by decide), e, nI_1]
  refine pk_bdm (kRow_ok hN) (fun _ S2 h3 => ?_)
  rw [pk_some]
  obtain ⟨g, h3⟩ := h3
  refine ⟨fun j hj => ?_, ?_, fun j hj => ?_, fun j hj => ?_, fun k q1 q2 q3 => ?_, fun j hj => ?_, ?_⟩
  · rw [h3 j hj, ui_row (by decide), f.1 127 (by decide)]
  · rw [g.1 94 (by decide), ui_same, upd_at]
  · rw [g.1 128 (by decide), ui_row (by decide)]; exact h2 j hj
  · rw [g.1 128 (by decide), ui_row (by decide)]; exact h1 j hj
  · rw [g.1 k q1, ui_row q3, f.1 k q2]
  · rw [g.1 94 (by decide), ui_same, upd_ne hj, f.1 94 (by decide)]
  · rw [g.2]; exact f.2
def kepP (ds : Nat) (S S' : rx_S) : Prop := (∀ j, j < 48 → S'.1 126 j = S.1 127 j) ∧ S'.1 94 52 = nI (min 40 (ds + 1)) ∧ (∀ u k, u + 1 < min 40 (ds + 1) → k < 48 → S'.1 128 (48 * u + k) = S.1 128 (48 * (u + (ds + 1 - min 40 (ds + 1))) + k)) ∧ (∀ u k, u + 1 = min 40 (ds + 1) → k < 48 → S'.1 128 (48 * u + k) = S.1 126 k) ∧ (∀ k, k ≠ 126 → k ≠ 128 → k ≠ 94 → S'.1 k = S.1 k) ∧ (∀ j, j ≠ 52 → S'.1 94 j = S.1 94 j) ∧ S'.2 = S.2
theorem keeps_ok (hN : 5000 ≤ N) {S : rx_S} {ds : Nat} (hd : ds ≤ 40) (e : S.1 94 52 = nI ds) : pk (f_X11_keeps N S) (fun _ S' => kepP ds S S') := by
  unfold f_X11_keeps
  rw [pk_let, e]
  by_cases q : ds = 40
  · subst q
    rw [if_pos (show nI 40 = 40 from rfl), pk_let]
    refine kp11_L (S0 := S) (fun S1 f h1 => ?_) 1872 N 0 S rfl (by omega) fK.rf (fun j hj => absurd hj (by omega)) (fun _ _ => rfl)
    rw [pk_let, f.1 94 (by decide), e, show nI 40 - 1 = nI 39 from nI_pred 39]
    refine pk_mono (kpT_ok hN (d := 39) (by decide) (by rw [ui_same, upd_at])) (fun _ S2 h2 => ?_)
    obtain ⟨g1, g2, g3, g4, g5, g6, g7⟩ := h2
    refine ⟨fun j hj => ?_, g2, fun u k hu hk => ?_, fun u k hu hk => ?_, fun k q1 q2 q3 => ?_, fun j hj => ?_, ?_⟩
    · rw [g1 j hj, ui_row (by decide), f.1 127 (by decide)]
    · have hu : u < 39 := by omega
      rw [g3 _ (by omega), ui_row (by decide), h1 _ (by omega)]
      exact congrArg (S.1 128) (by omega)
    · have hu : u = 39 := by omega
      subst hu
      rw [g4 k hk, ui_row (by decide), f.1 126 (by decide)]
    · rw [g5 k q1 q2 q3, ui_row q3, f.1 k q2]
    · rw [g6 j hj, ui_same, upd_ne hj, f.1 94 (by decide)]
    · rw [g7]; exact f.2
  · rw [if_neg (show ¬ nI ds = 40 from fun z => q ((nI_eq (b := 40) (by omega) (by decide)).mp z))]
    refine pk_mono (kpT_ok hN (d := ds) (by omega) e) (fun _ S2 h2 => ?_)
    obtain ⟨g1, g2, g3, g4, g5, g6, g7⟩ := h2
    have em : min 40 (ds + 1) = ds + 1 := by omega
    refine ⟨g1, by rw [em]; exact g2, fun u k hu hk => ?_, fun u k hu hk => ?_, g5, g6, g7⟩
    · rw [g3 _ (by omega)]
      exact congrArg (S.1 128) (by omega)
    · have : u = ds := by omega
      subst this
      exact g4 k hk
/-- a thing is done -/
theorem Inv.did (h : Inv N n SC SM) (hx : iText N T SC SM) (hs : sav T n (SC.1 32) (SM.1 126)) (hh : iHeld T n SC SM) {nx ds : Nat} (u1 : nx < 40) (u2 : ds ≤ 40) (u6 : ∀ u, u < ds → sav T n (SC.1 (35 + (nx + (40 - ds) + u) % 40)) (fun k => SM.1 128 (48 * u + k))) {SC1 SC2 SM2 SM3 : rx_S} (hr : remP nx ds SC SC1) (c1 : ∀ k, kpC k → k ≠ 32 → SC2.1 k = SC1.1 k) (c2 : SC2.2 = SC1.2) (m : iM SM SM2) (mk : kepP ds SM2 SM3) {w : Nat} (hw : w ≤ 60 * (n + 1)) (hR : stR T (SC2.1 32) (SM2.1 127)) (hW : WS T w (SM2.1 127)) : Inv N (n + 1) SC2 SM3 := by
  obtain ⟨hT, hp, k1, k2, ho, -⟩ := h
  obtain ⟨r1, r2, r3, r4, r5⟩ := hr
  obtain ⟨g1, g2, g3, g4, g5, g6, g7⟩ := mk
  have fc : ∀ k, kpC k → k ≠ 32 → k ≠ 33 → k ≠ 35 + nx → SC2.1 k = SC.1 k := fun k h1 h2 h3 h4 => (c1 k h1 h2).trans (r1 k h3 h4)
  have fm : ∀ k, (k = 95 ∨ (104 ≤ k ∧ k ≤ 122) ∨ k = 134 ∨ k = 135 ∨ k = 137 ∨ k = 138) → SM3.1 k = SM.1 k := fun k hk => (g5 k (by omega) (by omega) (by omega)).trans (m.row (by omega))
  have fd : ∀ j, (j = 2 ∨ j = 17 ∨ j = 18 ∨ j = 62) → SM3.1 94 j = SM.1 94 j := fun j hj => (g6 j (by omega)).trans (m.fld (by omega))
  refine ⟨hT.eq ?_ ?_ (fd 2 (by omega)) (fm 95 (by omega)), ?_, ?_, ?_, ho.eq ?_ ?_ ?_ (fd 62 (by omega)) (fm 134 (by omega)) (fm 135 (by omega)), T, ⟨hx.1, hx.2.1.ag (fun k hk => fc k (by unfold kpC; omega) (by omega) (by omega) (by omega)), hx.2.2.ag ⟨fun k h1 h2 => fm k (by omega), fd 18 (by omega)⟩⟩, ⟨hR.eq (fun j hj => g1 j (by omega)), w, hw, fun j => ?_⟩, ⟨(nx + 1) % 40, min 40 (ds + 1), Nat.mod_lt _ (by decide), Nat.min_le_left _ _, ?_, ?_, g2, fun u hu => ?_⟩, hh.eq ?_ (fun s hs => fc _ (by unfold kpC; omega) (by omega) (by omega) (by omega)) (fm 137 (by omega)) (fm 138 (by omega))⟩
  · rw [fc 0 (by unfold kpC; omega) (by omega) (by omega) (by omega)]
  · exact fc 1 (by unfold kpC; omega) (by omega) (by omega) (by omega)
  · rw [fc 0 (by unfold kpC; omega) (by omega) (by omega) (by omega), fd 17 (by omega)]; exact hp
  · rw [c2, r5]; exact k1
  · rw [g7, m.2]; exact k2
  · rw [fc 91 (by unfold kpC; omega) (by omega) (by omega) (by omega)]
  · exact fc 92 (by unfold kpC; omega) (by omega) (by omega) (by omega)
  · exact fc 93 (by unfold kpC; omega) (by omega) (by omega) (by omega)
  · by_cases hj : j < 48
    · rw [g1 j hj]; exact hW j
    · exact wsj_any (by omega)
  · rw [c1 33 (by unfold kpC; omega) (by omega)]; exact r3
  · rw [c1 33 (by unfold kpC; omega) (by omega)]; exact r4
  · by_cases q : u + 1 = min 40 (ds + 1)
    · have ei : ((nx + 1) % 40 + (40 - min 40 (ds + 1)) + u) % 40 = nx := by omega
      rw [ei, c1 _ (by unfold kpC; omega) (by omega)]
      refine (hs.up).eq r2 (fun j hj => ?_)
      rw [g4 u j q hj, m.row (by omega)]
    · have hu2 : u + (ds + 1 - min 40 (ds + 1)) < ds := by omega
      have ei : ((nx + 1) % 40 + (40 - min 40 (ds + 1)) + u) % 40 = (nx + (40 - ds) + (u + (ds + 1 - min 40 (ds + 1)))) % 40 := by omega
      have en : (nx + (40 - ds) + (u + (ds + 1 - min 40 (ds + 1)))) % 40 ≠ nx := by omega
      have hl : (nx + (40 - ds) + (u + (ds + 1 - min 40 (ds + 1)))) % 40 < 40 := Nat.mod_lt _ (by decide)
      rw [ei]
      refine ((u6 _ hu2).up).eq (fun j hj => ?_) (fun j hj => ?_)
      · rw [fc _ (by unfold kpC; omega) (by omega) (by omega) (by omega)]
      · rw [g3 u j (by omega) hj, m.row (by omega)]
  · exact fc 79 (by unfold kpC; omega) (by omega) (by omega) (by omega)
theorem st_weeksC (hN : 5000 ≤ N) {S : rx_S} {st : Nat → Int32} (hF : WF T) (hT : TC N T S) {w M : Nat} (hM : M ≤ 4000) (hw : w + M < 2 ^ 31) (hW : WS T w st) : ∀ (m c j : Nat) (S1 : rx_S), j + m = M → m < c → wC 32 S S1 → stR T (S1.1 32) (wks T (tE T) st j) → pk (f_X10_weeks_L29 N (fun S7 => some ((S7.1 32 0), S7)) c (nI M) (nI j) S1) (fun r S' => r = S'.1 32 0 ∧ stR T (S'.1 32) (wks T (tE T) st M) ∧ wC 32 S S') := by
  intro m
  induction m with
  | zero =>
    intro c j S1 hj hc hs h1
    obtain ⟨c, rfl⟩ : ∃ q, c = q + 1 := ⟨c - 1, by omega⟩
    rw [f_X10_weeks_L29, if_pos (nI_le (by omega) (by omega)), pk_some]
    have : j = M := by omega
    rw [this] at h1
    exact ⟨rfl, h1, hs⟩
  | succ m ih =>
    intro c j S1 hj hc hs h1
    obtain ⟨c, rfl⟩ : ∃ q, c = q + 1 := ⟨c - 1, by omega⟩
    have hT1 := hT.ag (hs.ag (by decide))
    rw [f_X10_weeks_L29, if_neg (nI_ge (by omega) (by omega)), hT1.1.2.2.2.2.1]
    refine pk_bdm (weekC_ok hN hF hT1 (by decide) h1 (w := w + j) (by omega) (ws_wks hF hW j)) (fun _ S2 h2 => ?_)
    rw [pk_let, nI_1]
    exact ih c (j + 1) S2 (by omega) (by omega) (hs.tr h2.2) h2.1
theorem remP.ag {nx ds : Nat} {S S' : rx_S} (h : remP nx ds S S') : agC S S' := fun k hk => h.1 k (by omega) (by omega)
theorem remP.now {nx ds : Nat} {S S' : rx_S} (h : remP nx ds S S') : S'.1 32 = S.1 32 := h.1 32 (by omega) (by omega)
theorem st_weeks (hN : 5000 ≤ N) : ST_weeks N (Inv N) := by
  intro n SC SM hn h x1
  obtain ⟨-, -, -, -, -, T, ⟨hF, hC, hM⟩, ⟨hR, w, hw, hW⟩, ⟨nx, ds, u1, u2, u3, u4, u5, u6⟩, hh⟩ := id h
  unfold f_X10_weeks f_X11_weeks
  rw [in_eq, bd_some]
  rcases rng_cases (x := x1) (y := 60) (m := 60) (by decide) rfl with ⟨m, hm, rfl, q⟩ | q
  · rw [if_neg (i_nlt.mpr q.1), if_pos q.2, if_pos q, if_neg (show ¬ (1 : Int32) = 0 by decide)]
    simp only [rx_let]
    by_cases q0 : m = 0
    · subst q0
      rw [if_pos (show nI 0 ≤ 0 by decide), if_pos (show nI 0 = 0 from rfl)]
      refine st_q (R := SM.1 126 44) h ?_ (by rw [pk_some]; exact ⟨rfl, iM.rf⟩)
      obtain ⟨N', rfl⟩ : ∃ q, N = q + 1 := ⟨N - 1, by omega⟩
      rw [f_X10_weeks_L29, if_pos (show nI 0 ≤ 0 by decide), pk_some]
      exact ⟨hR.2.2.1, iC.rf⟩
    · rw [if_neg (nI_nle (by omega) (by omega)), if_neg (nI_ne0 (by omega) (by omega))]
      obtain ⟨_, SC1, e1, hr⟩ := rem_ok u1 u2 u3 u4
      obtain ⟨_, S1, e2, hc⟩ := copies_ok hN hM
      have hc : cM T SM S1 := hc
      obtain ⟨r, SC2, e3, er, hR2, hs2⟩ := st_weeksC hN hF (hC.ag hr.ag) (M := m) (by omega) (w := w) (by omega) (hc.ws hW) m N 0 SC1 (by omega) (by omega) wC.rf (by rw [hr.now]; exact hc.st hR)
      obtain ⟨_, S2, e4, hg1, hg2⟩ := goes_ok (M := m) hN hF (hM.ag hc.i.ag) (by omega) (w := w) (by omega) (hc.ws hW)
      have e0 : S1.1 94 51 = tE T := hc.2.1
      rw [e0] at hg1
      have hm2 : iM SM S2 := hc.i.tr hg2.i
      obtain ⟨_, S3, e5, hk⟩ := keeps_ok hN u2 (S := S2) (by rw [hm2.fld (by omega)]; exact u5)
      have hW2 := ws_wks hF (hc.ws hW) (seed := tE T) m
      rw [← hg1] at hR2 hW2
      refine ⟨r, SC2, S3, ?_, ?_, h.did ⟨hF, hC, hM⟩ ⟨hR, w, hw, hW⟩ hh u1 u2 u6 hr (fun k h1 h2 => hs2.1 k (by unfold kpC at h1; omega) (by unfold kpC at h1; omega) h2) hs2.2 hm2 hk (w := w + m) (by omega) hR2 hW2⟩
      · rw [e1, bd_some]; exact e3
      · rw [e2, bd_some, e4, bd_some, e5, bd_some, hk.1 44 (by decide), er, hR2.2.2.1]
  · have e : ∀ A : Option (Int32 × rx_S), (if x1 < 0 then some ((-1 : Int32), SC) else if x1 ≤ 60 then A else some (-1, SC)) = some (-1, SC) := fun A => by
      by_cases z : x1 < 0
      · rw [if_pos z]
      · rw [if_neg z, if_neg (fun y => q ⟨i_nlt.mp z, y⟩)]
    rw [e, if_neg q, if_pos rfl]
    exact st_q (R := -1) h (by rw [pk_some]; exact ⟨rfl, iC.rf⟩) (by rw [pk_some]; exact ⟨rfl, iM.rf⟩)
end OPE
