/-! ===== THE REFERENCE: frames, variables, text ===== -/
def fK (k : Nat) (S S' : rx_S) : Prop := (∀ k', k' ≠ k → S'.1 k' = S.1 k') ∧ S'.2 = S.2
theorem fK.rf {k : Nat} {S : rx_S} : fK k S S := ⟨fun _ _ => rfl, rfl⟩
theorem fK.tr {k : Nat} {S S' S'' : rx_S} (h : fK k S S') (g : fK k S' S'') : fK k S S'' := ⟨fun k' hk => (g.1 k' hk).trans (h.1 k' hk), g.2.trans h.2⟩
theorem fK.ui {k i : Nat} {S : rx_S} {v : Int32} : fK k S (rx_ui S k i v) := ⟨fun _ h => ui_row h, rfl⟩
theorem fK.ur {k : Nat} {S : rx_S} {f : Nat → Int32} : fK k S (rx_ur S k f) := ⟨fun k' h => by rw [ur_get, if_neg h], rfl⟩
def sM (S S' : rx_S) : Prop := (∀ k j, k ≠ 124 → k ≠ 125 → ¬ (k = 94 ∧ j = 48) → S'.1 k j = S.1 k j) ∧ S'.2 = S.2
theorem sM.rf {S : rx_S} : sM S S := ⟨fun _ _ _ _ _ => rfl, rfl⟩
theorem sM.tr {S S' S'' : rx_S} (h : sM S S') (g : sM S' S'') : sM S S'' := ⟨fun k j h1 h2 h3 => (g.1 k j h1 h2 h3).trans (h.1 k j h1 h2 h3), g.2.trans h.2⟩
theorem sM.f4 {S S' : rx_S} (h : fK 124 S S') : sM S S' := ⟨fun k j h1 _ _ => by rw [h.1 k h1], h.2⟩
theorem sM.f5 {S S' : rx_S} (h : fK 125 S S') : sM S S' := ⟨fun k j _ h1 _ => by rw [h.1 k h1], h.2⟩
theorem sM.u4 {S : rx_S} {i : Nat} {v : Int32} : sM S (rx_ui S 124 i v) := sM.f4 fK.ui
theorem sM.row {S S' : rx_S} (h : sM S S') {k : Nat} (h1 : k ≠ 124) (h2 : k ≠ 125) (h3 : k ≠ 94) : S'.1 k = S.1 k := funext fun j => h.1 k j h1 h2 (fun q => h3 q.1)
theorem sM.fld {S S' : rx_S} (h : sM S S') {j : Nat} (h1 : j ≠ 48) : S'.1 94 j = S.1 94 j := h.1 94 j (by decide) (by decide) (fun q => h1 q.2)
theorem sM.st {S S' : rx_S} (h : sM S S') : S'.1 127 = S.1 127 := h.row (by decide) (by decide) (by decide)
def vM (S : rx_S) (a0 a1 a2 a3 a4 a5 a6 a7 a8 : Int32) : Prop := S.1 124 0 = a0 ∧ S.1 124 1 = a1 ∧ S.1 124 2 = a2 ∧ S.1 124 3 = a3 ∧ S.1 124 4 = a4 ∧ S.1 124 5 = a5 ∧ S.1 124 6 = a6 ∧ S.1 124 7 = a7 ∧ S.1 124 8 = a8
theorem vM_0 {S : rx_S} {a0 a1 a2 a3 a4 a5 a6 a7 a8 v : Int32} (h : vM S a0 a1 a2 a3 a4 a5 a6 a7 a8) : vM (rx_ui S 124 0 v) v a1 a2 a3 a4 a5 a6 a7 a8 := by
  obtain ⟨h0, h1, h2, h3, h4, h5, h6, h7, h8⟩ := h
  refine ⟨?_, ?_, ?_, ?_, ?_, ?_, ?_, ?_, ?_⟩
  all_goals (rw [ui_get]; simp; try assumption)
theorem vM_1 {S : rx_S} {a0 a1 a2 a3 a4 a5 a6 a7 a8 v : Int32} (h : vM S a0 a1 a2 a3 a4 a5 a6 a7 a8) : vM (rx_ui S 124 1 v) a0 v a2 a3 a4 a5 a6 a7 a8 := by
  obtain ⟨h0, h1, h2, h3, h4, h5, h6, h7, h8⟩ := h
  refine ⟨?_, ?_, ?_, ?_, ?_, ?_, ?_, ?_, ?_⟩
  all_goals (rw [ui_get]; simp; try assumption)
theorem vM_2 {S : rx_S} {a0 a1 a2 a3 a4 a5 a6 a7 a8 v : Int32} (h : vM S a0 a1 a2 a3 a4 a5 a6 a7 a8) : vM (rx_ui S 124 2 v) a0 a1 v a3 a4 a5 a6 a7 a8 := by
  obtain ⟨h0, h1, h2, h3, h4, h5, h6, h7, h8⟩ := h
  refine ⟨?_, ?_, ?_, ?_, ?_, ?_, ?_, ?_, ?_⟩
  all_goals (rw [ui_get]; simp; try assumption)
theorem vM_3 {S : rx_S} {a0 a1 a2 a3 a4 a5 a6 a7 a8 v : Int32} (h : vM S a0 a1 a2 a3 a4 a5 a6 a7 a8) : vM (rx_ui S 124 3 v) a0 a1 a2 v a4 a5 a6 a7 a8 := by
  obtain ⟨h0, h1, h2, h3, h4, h5, h6, h7, h8⟩ := h
  refine ⟨?_, ?_, ?_, ?_, ?_, ?_, ?_, ?_, ?_⟩
  all_goals (rw [ui_get]; simp; try assumption)
theorem vM_4 {S : rx_S} {a0 a1 a2 a3 a4 a5 a6 a7 a8 v : Int32} (h : vM S a0 a1 a2 a3 a4 a5 a6 a7 a8) : vM (rx_ui S 124 4 v) a0 a1 a2 a3 v a5 a6 a7 a8 := by
  obtain ⟨h0, h1, h2, h3, h4, h5, h6, h7, h8⟩ := h
  refine ⟨?_, ?_, ?_, ?_, ?_, ?_, ?_, ?_, ?_⟩
  all_goals (rw [ui_get]; simp; try assumption)
theorem vM_5 {S : rx_S} {a0 a1 a2 a3 a4 a5 a6 a7 a8 v : Int32} (h : vM S a0 a1 a2 a3 a4 a5 a6 a7 a8) : vM (rx_ui S 124 5 v) a0 a1 a2 a3 a4 v a6 a7 a8 := by
  obtain ⟨h0, h1, h2, h3, h4, h5, h6, h7, h8⟩ := h
  refine ⟨?_, ?_, ?_, ?_, ?_, ?_, ?_, ?_, ?_⟩
  all_goals (rw [ui_get]; simp; try assumption)
theorem vM_6 {S : rx_S} {a0 a1 a2 a3 a4 a5 a6 a7 a8 v : Int32} (h : vM S a0 a1 a2 a3 a4 a5 a6 a7 a8) : vM (rx_ui S 124 6 v) a0 a1 a2 a3 a4 a5 v a7 a8 := by
  obtain ⟨h0, h1, h2, h3, h4, h5, h6, h7, h8⟩ := h
  refine ⟨?_, ?_, ?_, ?_, ?_, ?_, ?_, ?_, ?_⟩
  all_goals (rw [ui_get]; simp; try assumption)
theorem vM_7 {S : rx_S} {a0 a1 a2 a3 a4 a5 a6 a7 a8 v : Int32} (h : vM S a0 a1 a2 a3 a4 a5 a6 a7 a8) : vM (rx_ui S 124 7 v) a0 a1 a2 a3 a4 a5 a6 v a8 := by
  obtain ⟨h0, h1, h2, h3, h4, h5, h6, h7, h8⟩ := h
  refine ⟨?_, ?_, ?_, ?_, ?_, ?_, ?_, ?_, ?_⟩
  all_goals (rw [ui_get]; simp; try assumption)
theorem vM_8 {S : rx_S} {a0 a1 a2 a3 a4 a5 a6 a7 a8 v : Int32} (h : vM S a0 a1 a2 a3 a4 a5 a6 a7 a8) : vM (rx_ui S 124 8 v) a0 a1 a2 a3 a4 a5 a6 a7 v := by
  obtain ⟨h0, h1, h2, h3, h4, h5, h6, h7, h8⟩ := h
  refine ⟨?_, ?_, ?_, ?_, ?_, ?_, ?_, ?_, ?_⟩
  all_goals (rw [ui_get]; simp; try assumption)
theorem vM.eq {S S' : rx_S} {a0 a1 a2 a3 a4 a5 a6 a7 a8 : Int32} (h : vM S a0 a1 a2 a3 a4 a5 a6 a7 a8) (e : S'.1 124 = S.1 124) : vM S' a0 a1 a2 a3 a4 a5 a6 a7 a8 := by
  unfold vM at h ⊢
  rw [e]
  exact h
def dfl (k : Nat) (a0 a1 : Int32) : Int32 := if k = 0 then 2 else if k = 1 then a1 else if k = 2 then a0 else 0
def agM (S S' : rx_S) : Prop := (∀ k, 104 ≤ k → k ≤ 122 → S'.1 k = S.1 k) ∧ S'.1 94 18 = S.1 94 18
theorem agM.rf {S : rx_S} : agM S S := ⟨fun _ _ _ => rfl, rfl⟩
theorem agM.tr {S S' S'' : rx_S} (h : agM S S') (g : agM S' S'') : agM S S'' := ⟨fun k h1 h2 => (g.1 k h1 h2).trans (h.1 k h1 h2), g.2.trans h.2⟩
theorem sM.ag {S S' : rx_S} (h : sM S S') : agM S S' := ⟨fun k h1 h2 => h.row (by omega) (by omega) (by omega), h.fld (by decide)⟩
theorem fK.agM {k : Nat} {S S' : rx_S} (h : fK k S S') (h1 : 122 < k) : agM S S' := ⟨fun k' _ _ => h.1 k' (by omega), by rw [h.1 94 (by omega)]⟩
/-- the live half of the reference's text: how large a half of each row is -/
def hsz (k : Nat) : Nat := if k = 105 ∨ k = 106 ∨ k = 108 then 6 else if k = 110 ∨ k = 111 then 4 else if k = 114 ∨ k = 115 then 7 else if 116 ≤ k ∧ k ≤ 120 then 130 else if k = 121 ∨ k = 122 then 420 else 1
def agL (S S' : rx_S) : Prop := S'.1 94 18 = S.1 94 18 ∧ ∀ lv, lv < 2 → S.1 94 18 = nI lv → ∀ k, 104 ≤ k → k ≤ 122 → ∀ j, hsz k * lv ≤ j → j < hsz k * lv + hsz k → S'.1 k j = S.1 k j
theorem agM.l {S S' : rx_S} (h : agM S S') : agL S S' := ⟨h.2, fun lv _ _ k h1 h2 j _ _ => by rw [h.1 k h1 h2]⟩
theorem agL.tr {S S' S'' : rx_S} (h : agL S S') (g : agL S' S'') : agL S S'' := ⟨g.1.trans h.1, fun lv hl e k h1 h2 j h3 h4 => (g.2 lv hl (h.1.trans e) k h1 h2 j h3 h4).trans (h.2 lv hl e k h1 h2 j h3 h4)⟩
def lawM (N : Nat) (T : tx) (S : rx_S) : Prop := ∀ S', agL S S' → ∀ k, k < 7 → ∀ a0 a1 a2 a3 a4 a5 a6 a7 a8 : Int32, vM S' a0 a1 a2 a3 a4 a5 a6 a7 a8 → pk (f_X11_asks N (nI k) (dfl k a0 a1) S') (fun r S'' => r = tL T k a0 a1 a2 a3 a4 a5 a6 a7 a8 ∧ sM S' S'' ∧ S''.1 124 = S'.1 124)
def TMt (T : tx) (lv : Nat) (S : rx_S) : Prop := S.1 94 18 = nI lv ∧ S.1 104 lv = nI (tS T) ∧ S.1 107 lv = nI (tC T) ∧ S.1 109 lv = nI (tT T) ∧ S.1 112 lv = tF T ∧ S.1 113 lv = tE T ∧ (∀ a, a < tS T → S.1 105 (6 * lv + a) = tM T a ∧ S.1 106 (6 * lv + a) = tO T a) ∧ (∀ i, i < tT T → S.1 110 (4 * lv + i) = tR T i ∧ S.1 111 (4 * lv + i) = tD T i) ∧ (∀ c w, c < tC T → w < 2 → S.1 108 (2 * (3 * lv + c) + w) = nI (tP T c w))
def TM (N : Nat) (T : tx) (S : rx_S) : Prop := (∃ lv, lv < 2 ∧ TMt T lv S) ∧ lawM N T S
theorem TM.ag {N : Nat} {T : tx} {S S' : rx_S} (h : TM N T S) (g : agM S S') : TM N T S' := by
  obtain ⟨⟨lv, h0, h1⟩, h2⟩ := h
  refine ⟨⟨lv, h0, ?_⟩, fun S'' g' => h2 S'' (g.l.tr g')⟩
  unfold TMt at h1 ⊢
  rw [g.2, g.1 104 (by decide) (by decide), g.1 105 (by decide) (by decide), g.1 106 (by decide) (by decide), g.1 107 (by decide) (by decide), g.1 108 (by decide) (by decide), g.1 109 (by decide) (by decide), g.1 110 (by decide) (by decide), g.1 111 (by decide) (by decide), g.1 112 (by decide) (by decide), g.1 113 (by decide) (by decide)]
  exact h1
section TKM
variable {N : Nat} {T : tx} {S : rx_S}
theorem in_eq {x a b : Int32} : f_X11_in x a b S = some (if a ≤ x ∧ x ≤ b then 1 else 0, S) := by
  unfold f_X11_in
  by_cases h1 : x < a
  · rw [if_pos h1, if_neg (fun q => i_nlt.mpr q.1 h1)]
  · rw [if_neg h1]
    by_cases h2 : b < x
    · rw [if_pos h2, if_neg (fun q => i_nlt.mpr q.2 h2)]
    · rw [if_neg h2, if_pos ⟨i_nlt.mp h1, i_nlt.mp h2⟩]
theorem held_eq {x a b : Int32} : f_X11_held x a b S = some (hld x a b, S) := by
  unfold f_X11_held hld
  split
  · split <;> rfl
  · rfl
theorem mixed_eq {x y : Int32} : f_X11_mixed x y S = some (mxd x y, S) := rfl
theorem lotOf_eq {x : Int32} : f_X11_lotOf x S = some (lot (S.1 94 51) x, S) := rfl
theorem looks_L {P : Unit → rx_S → Prop} {K : rx_S → Option (Unit × rx_S)} : ∀ (m n i : Nat) (S : rx_S), i + m = 9 → m < n → (∀ S', fK 124 S S' → (∀ j, i ≤ j → j < 9 → S'.1 124 j = 0) → (∀ j, j < i → S'.1 124 j = S.1 124 j) → pk (K S') P) → pk (f_X11_looks_L2 N K n (nI i) S) P := by
  intro m
  induction m with
  | zero =>
    intro n i S hi hn k
    obtain ⟨n, rfl⟩ : ∃ q, n = q + 1 := ⟨n - 1, by omega⟩
    rw [f_X11_looks_L2, if_pos (show (9 : Int32) ≤ nI i from nI_le (a := 9) (by omega) (by omega))]
    exact k S fK.rf (fun j _ _ => by omega) (fun _ _ => rfl)
  | succ m ih =>
    intro n i S hi hn k
    obtain ⟨n, rfl⟩ : ∃ q, n = q + 1 := ⟨n - 1, by omega⟩
    rw [f_X11_looks_L2, if_neg (show ¬ (9 : Int32) ≤ nI i from nI_ge (b := 9) (by omega) (by decide)), pk_gdn (by omega) (by decide), pk_let, pk_let, nI_1, nI_clamp (by omega)]
    refine ih n (i + 1) _ (by omega) (by omega) (fun S' h1 h2 h3 => k S' (fK.ui.tr h1) (fun j hj1 hj2 => ?_) (fun j hj => ?_))
    · by_cases h : j = i
      · subst h
        rw [h3 j (by omega), ui_get]
        simp
      · exact h2 j (by omega) hj2
    · rw [h3 j (by omega), ui_get]
      simp
      omega
theorem looks_ok (hN : 5000 ≤ N) : pk (f_X11_looks N S) (fun _ S' => sM S S' ∧ vM S' 0 0 0 0 0 0 (S.1 127 44) 0 0) := by
  unfold f_X11_looks
  rw [pk_let]
  refine looks_L 9 N 0 S rfl (by omega) (fun S' h1 h2 h3 => ?_)
  rw [pk_let, pk_some]
  have e : S'.1 127 44 = S.1 127 44 := by rw [h1.1 127 (by decide)]
  refine ⟨(sM.f4 h1).tr sM.u4, ?_⟩
  have hv : vM S' 0 0 0 0 0 0 0 0 0 := ⟨h2 0 (by decide) (by decide), h2 1 (by decide) (by decide), h2 2 (by decide) (by decide), h2 3 (by decide) (by decide), h2 4 (by decide) (by decide), h2 5 (by decide) (by decide), h2 6 (by decide) (by decide), h2 7 (by decide) (by decide), h2 8 (by decide) (by decide)⟩
  rw [e]
  exact vM_6 hv
theorem asks_ok (hT : TM N T S) {S' : rx_S} (hg : agM S S') {k : Nat} (hk : k < 7) {a0 a1 a2 a3 a4 a5 a6 a7 a8 pl : Int32} (hv : vM S' a0 a1 a2 a3 a4 a5 a6 a7 a8) (hp : pl = dfl k a0 a1) : pk (f_X11_asks N (nI k) pl S') (fun r S'' => r = tL T k a0 a1 a2 a3 a4 a5 a6 a7 a8 ∧ sM S' S'' ∧ vM S'' a0 a1 a2 a3 a4 a5 a6 a7 a8) := by
  subst hp
  exact pk_mono (hT.2 S' hg.l k hk a0 a1 a2 a3 a4 a5 a6 a7 a8 hv) (fun r S'' h => ⟨h.1, h.2.1, hv.eq h.2.2⟩)
theorem las_ok (hN : 5000 ≤ N) {a : Nat} (ha : a < 48) : pk (f_X11_looksAtSpouse N (nI a) S) (fun _ S' => sM S S' ∧ vM S' 0 0 (S.1 127 a) 0 0 (nI a) (S.1 127 44) 0 0) := by
  unfold f_X11_looksAtSpouse
  refine pk_bdm (looks_ok hN) (fun _ S1 h => ?_)
  rw [pk_gdn ha (by decide), pk_let, pk_let, pk_some, nI_clamp (by omega), h.1.st]
  exact ⟨(h.1.tr sM.u4).tr sM.u4, vM_5 (vM_2 h.2)⟩
theorem lat_ok (hN : 5000 ≤ N) {i : Nat} (ha : i < 4) : pk (f_X11_looksAtThird N (nI i) S) (fun _ S' => sM S S' ∧ vM S' 0 0 0 (S.1 127 (24 + i)) (S.1 127 (28 + i)) (nI i) (S.1 127 44) 0 0) := by
  unfold f_X11_looksAtThird
  refine pk_bdm (looks_ok hN) (fun _ S1 h => ?_)
  have e1 : (24 : Int32) + nI i = nI (24 + i) := nI_add 24 i
  have e2 : (28 : Int32) + nI i = nI (28 + i) := nI_add 28 i
  rw [e1, e2, pk_gdn (by omega) (by decide), pk_let, pk_gdn (by omega) (by decide), pk_let, pk_let, pk_some, nI_clamp (by omega), nI_clamp (by omega), ui_row (by decide), h.1.st]
  exact ⟨((h.1.tr sM.u4).tr sM.u4).tr sM.u4, vM_5 (vM_4 (vM_3 h.2))⟩
theorem said_L (hN : 5000 ≤ N) (hT : TM N T S) {a M : Nat} (ha : a < 48) (hM : M ≤ 5) : ∀ (m n i : Nat) (S1 : rx_S), i + m = M → m < n → sM S S1 → pk (f_X11_saidBy_L22 N n (nI a) (nI M) (nI (sdL T (S.1 127) a i)) (nI i) S1) (fun r S' => r = nI (sdL T (S.1 127) a M) ∧ sM S S') := by
  intro m
  induction m with
  | zero =>
    intro n i S1 hi hn hs
    obtain ⟨n, rfl⟩ : ∃ q, n = q + 1 := ⟨n - 1, by omega⟩
    rw [f_X11_saidBy_L22, if_pos (nI_le (by omega) (by omega)), pk_some]
    have : i = M := by omega
    rw [this]
    exact ⟨rfl, hs⟩
  | succ m ih =>
    intro n i S1 hi hn hs
    obtain ⟨n, rfl⟩ : ∃ q, n = q + 1 := ⟨n - 1, by omega⟩
    rw [f_X11_saidBy_L22, if_neg (nI_ge (by omega) (by omega))]
    refine pk_bdm (las_ok hN ha) (fun _ S2 h => ?_)
    rw [pk_let]
    have h2 := vM_1 (v := nI i) h.2
    refine pk_bdm (asks_ok (k := 1) hT (((hs.tr h.1).tr sM.u4).ag) (by decide) h2 rfl) (fun r S3 h3 => ?_)
    obtain ⟨hr, hs3, -⟩ := h3
    have hss := (((hs.tr h.1).tr sM.u4).tr hs3)
    rw [hs.st] at hr
    have e0 := rst_nI (x := r) (m := 8) (by decide)
    have e1 : ∀ z : Nat, (8 : Int32) * nI (sdL T (S.1 127) a i) + nI z = nI (8 * sdL T (S.1 127) a i + z) := fun z => by
      have : (8 : Int32) * nI (sdL T (S.1 127) a i) = nI (8 * sdL T (S.1 127) a i) := nI_mul 8 _
      rw [this, nI_add]
    have e2 : sdL T (S.1 127) a (i + 1) = 8 * sdL T (S.1 127) a i + rst r 8 := by rw [hr]; rfl
    rw [pk_ite]
    split
    · rename_i hc
      rw [if_pos hc] at e0
      have e0 : rx_rem r 8 = nI (rst r 8) := e0
      rw [pk_let, pk_let, e0, e1, ← e2, nI_1]
      exact ih n (i + 1) S3 (by omega) (by omega) hss
    · rename_i hc
      rw [if_neg hc] at e0
      rw [pk_let, pk_let, e0, e1, ← e2, nI_1]
      exact ih n (i + 1) S3 (by omega) (by omega) hss
theorem saidBy_ok (hN : 5000 ≤ N) (hT : TM N T S) {a : Nat} (ha : a < 48) : pk (f_X11_saidBy N (nI a) S) (fun r S' => r = nI (sd T (S.1 127) a) ∧ sM S S') := by
  unfold f_X11_saidBy
  refine pk_bdm (las_ok hN ha) (fun _ S2 h => ?_)
  refine pk_bdm (asks_ok (k := 0) hT h.1.ag (by decide) h.2 rfl) (fun r S3 h3 => ?_)
  obtain ⟨hr, hs3, -⟩ := h3
  rw [held_eq, bd_some]
  have e : hld r 0 5 = nI (sdN T (S.1 127) a) := by
    rw [hr]
    exact hld_nI (b := 5) (by decide)
  rw [e]
  exact said_L hN hT ha (Nat.min_le_left _ _) _ N 0 S3 (Nat.zero_add _) (by have : sdN T (S.1 127) a ≤ 5 := Nat.min_le_left _ _; omega) (h.1.tr hs3)
end TKM
