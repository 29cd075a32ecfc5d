/-! ===== THE CLASS: frames, variables, text, state ===== -/
def sC (S S' : rx_S) : Prop := (∀ k, k ≠ 6 → k ≠ 7 → S'.1 k = S.1 k) ∧ S'.2 = S.2
theorem sC.rf {S : rx_S} : sC S S := ⟨fun _ _ _ => rfl, rfl⟩
theorem sC.tr {S S' S'' : rx_S} (h : sC S S') (g : sC S' S'') : sC S S'' := ⟨fun k h1 h2 => (g.1 k h1 h2).trans (h.1 k h1 h2), g.2.trans h.2⟩
theorem sC.f6 {S S' : rx_S} (h : fK 6 S S') : sC S S' := ⟨fun k h1 _ => h.1 k h1, h.2⟩
theorem sC.f7 {S S' : rx_S} (h : fK 7 S S') : sC S S' := ⟨fun k _ h1 => h.1 k h1, h.2⟩
theorem sC.u7 {S : rx_S} {i : Nat} {v : Int32} : sC S (rx_ui S 7 i v) := sC.f7 fK.ui
def agC (S S' : rx_S) : Prop := ∀ k, (2 ≤ k ∧ k ≤ 5) ∨ (8 ≤ k ∧ k ≤ 12) → S'.1 k = S.1 k
theorem agC.rf {S : rx_S} : agC S S := fun _ _ => rfl
theorem agC.tr {S S' S'' : rx_S} (h : agC S S') (g : agC S' S'') : agC S S'' := fun k hk => (g k hk).trans (h k hk)
theorem sC.ag {S S' : rx_S} (h : sC S S') : agC S S' := fun k hk => h.1 k (by omega) (by omega)
def vC (S : rx_S) (a0 a1 a2 a3 a4 a5 a6 a7 a8 : Int32) : Prop := S.1 7 0 = a0 ∧ S.1 7 1 = a1 ∧ S.1 7 2 = a2 ∧ S.1 7 3 = a3 ∧ S.1 7 4 = a4 ∧ S.1 7 5 = a5 ∧ S.1 7 6 = a6 ∧ S.1 7 7 = a7 ∧ S.1 7 8 = a8
theorem vC_0 {S : rx_S} {a0 a1 a2 a3 a4 a5 a6 a7 a8 v : Int32} (h : vC S a0 a1 a2 a3 a4 a5 a6 a7 a8) : vC (rx_ui S 7 0 v) v a1 a2 a3 a4 a5 a6 a7 a8 := by
  obtain ⟨h0, h1, h2, h3, h4, h5, h6, h7, h8⟩ := h
  refine ⟨?_, ?_, ?_, ?_, ?_, ?_, ?_, ?_, ?_⟩
  all_goals (rw [ui_get]; simp; try assumption)
theorem vC_1 {S : rx_S} {a0 a1 a2 a3 a4 a5 a6 a7 a8 v : Int32} (h : vC S a0 a1 a2 a3 a4 a5 a6 a7 a8) : vC (rx_ui S 7 1 v) a0 v a2 a3 a4 a5 a6 a7 a8 := by
  obtain ⟨h0, h1, h2, h3, h4, h5, h6, h7, h8⟩ := h
  refine ⟨?_, ?_, ?_, ?_, ?_, ?_, ?_, ?_, ?_⟩
  all_goals (rw [ui_get]; simp; try assumption)
theorem vC_2 {S : rx_S} {a0 a1 a2 a3 a4 a5 a6 a7 a8 v : Int32} (h : vC S a0 a1 a2 a3 a4 a5 a6 a7 a8) : vC (rx_ui S 7 2 v) a0 a1 v a3 a4 a5 a6 a7 a8 := by
  obtain ⟨h0, h1, h2, h3, h4, h5, h6, h7, h8⟩ := h
  refine ⟨?_, ?_, ?_, ?_, ?_, ?_, ?_, ?_, ?_⟩
  all_goals (rw [ui_get]; simp; try assumption)
theorem vC_3 {S : rx_S} {a0 a1 a2 a3 a4 a5 a6 a7 a8 v : Int32} (h : vC S a0 a1 a2 a3 a4 a5 a6 a7 a8) : vC (rx_ui S 7 3 v) a0 a1 a2 v a4 a5 a6 a7 a8 := by
  obtain ⟨h0, h1, h2, h3, h4, h5, h6, h7, h8⟩ := h
  refine ⟨?_, ?_, ?_, ?_, ?_, ?_, ?_, ?_, ?_⟩
  all_goals (rw [ui_get]; simp; try assumption)
theorem vC_4 {S : rx_S} {a0 a1 a2 a3 a4 a5 a6 a7 a8 v : Int32} (h : vC S a0 a1 a2 a3 a4 a5 a6 a7 a8) : vC (rx_ui S 7 4 v) a0 a1 a2 a3 v a5 a6 a7 a8 := by
  obtain ⟨h0, h1, h2, h3, h4, h5, h6, h7, h8⟩ := h
  refine ⟨?_, ?_, ?_, ?_, ?_, ?_, ?_, ?_, ?_⟩
  all_goals (rw [ui_get]; simp; try assumption)
theorem vC_5 {S : rx_S} {a0 a1 a2 a3 a4 a5 a6 a7 a8 v : Int32} (h : vC S a0 a1 a2 a3 a4 a5 a6 a7 a8) : vC (rx_ui S 7 5 v) a0 a1 a2 a3 a4 v a6 a7 a8 := by
  obtain ⟨h0, h1, h2, h3, h4, h5, h6, h7, h8⟩ := h
  refine ⟨?_, ?_, ?_, ?_, ?_, ?_, ?_, ?_, ?_⟩
  all_goals (rw [ui_get]; simp; try assumption)
theorem vC_6 {S : rx_S} {a0 a1 a2 a3 a4 a5 a6 a7 a8 v : Int32} (h : vC S a0 a1 a2 a3 a4 a5 a6 a7 a8) : vC (rx_ui S 7 6 v) a0 a1 a2 a3 a4 a5 v a7 a8 := by
  obtain ⟨h0, h1, h2, h3, h4, h5, h6, h7, h8⟩ := h
  refine ⟨?_, ?_, ?_, ?_, ?_, ?_, ?_, ?_, ?_⟩
  all_goals (rw [ui_get]; simp; try assumption)
theorem vC_7 {S : rx_S} {a0 a1 a2 a3 a4 a5 a6 a7 a8 v : Int32} (h : vC S a0 a1 a2 a3 a4 a5 a6 a7 a8) : vC (rx_ui S 7 7 v) a0 a1 a2 a3 a4 a5 a6 v a8 := by
  obtain ⟨h0, h1, h2, h3, h4, h5, h6, h7, h8⟩ := h
  refine ⟨?_, ?_, ?_, ?_, ?_, ?_, ?_, ?_, ?_⟩
  all_goals (rw [ui_get]; simp; try assumption)
theorem vC_8 {S : rx_S} {a0 a1 a2 a3 a4 a5 a6 a7 a8 v : Int32} (h : vC S a0 a1 a2 a3 a4 a5 a6 a7 a8) : vC (rx_ui S 7 8 v) a0 a1 a2 a3 a4 a5 a6 a7 v := by
  obtain ⟨h0, h1, h2, h3, h4, h5, h6, h7, h8⟩ := h
  refine ⟨?_, ?_, ?_, ?_, ?_, ?_, ?_, ?_, ?_⟩
  all_goals (rw [ui_get]; simp; try assumption)
theorem vC.eq {S S' : rx_S} {a0 a1 a2 a3 a4 a5 a6 a7 a8 : Int32} (h : vC S a0 a1 a2 a3 a4 a5 a6 a7 a8) (e : S'.1 7 = S.1 7) : vC S' a0 a1 a2 a3 a4 a5 a6 a7 a8 := by
  unfold vC at h ⊢
  rw [e]
  exact h
def lawC (N : Nat) (T : tx) (S : rx_S) : Prop := ∀ S', agC S S' → ∀ k, k < 7 → ∀ a0 a1 a2 a3 a4 a5 a6 a7 a8 : Int32, vC S' a0 a1 a2 a3 a4 a5 a6 a7 a8 → pk (f_X2_answer 3 N (nI k) S') (fun r S'' => r = tL T k a0 a1 a2 a3 a4 a5 a6 a7 a8 ∧ fK 6 S' S'')
def TCt (T : tx) (S : rx_S) : Prop := S.1 2 6 = nI (tS T) ∧ S.1 2 7 = nI (tC T) ∧ S.1 2 8 = nI (tT T) ∧ S.1 2 9 = tF T ∧ S.1 2 10 = tE T ∧ (∀ a, a < tS T → S.1 8 a = tM T a ∧ S.1 9 a = tO T a) ∧ (∀ i, i < tT T → S.1 11 i = tR T i ∧ S.1 12 i = tD T i) ∧ (∀ c w, c < tC T → w < 2 → S.1 10 (2 * c + w) = nI (tP T c w))
def TC (N : Nat) (T : tx) (S : rx_S) : Prop := TCt T S ∧ lawC N T S
theorem TC.ag {N : Nat} {T : tx} {S S' : rx_S} (h : TC N T S) (g : agC S S') : TC N T S' := by
  obtain ⟨h1, h2⟩ := h
  refine ⟨?_, fun S'' g' => h2 S'' (g.tr g')⟩
  unfold TCt at h1 ⊢
  rw [g 2 (by decide), g 8 (by decide), g 9 (by decide), g 10 (by decide), g 11 (by decide), g 12 (by decide)]
  exact h1
/-- the class's row of numbers R tells the state st -/
def hC (x : Int32) : Int32 := if x = -2 then -1 else x
def stR (T : tx) (R st : Nat → Int32) : Prop := (∀ j, j < 44 → ¬ (12 ≤ j ∧ j < 15) → R (j + 4) = st j) ∧ (∀ c, c < tC T → c < 3 → R (16 + c) = hC (st (12 + c))) ∧ R 0 = st 44 ∧ R 1 = st 45 ∧ R 2 = st 46 ∧ R 3 = st 40 + st 41 + st 42 + st 43
theorem stR.at {T : tx} {R st : Nat → Int32} (h : stR T R st) {k j : Nat} (e : k = j + 4) (hj : j < 44) (hn : ¬ (12 ≤ j ∧ j < 15)) : R k = st j := by rw [e]; exact h.1 j hj hn
theorem stR.u {T : tx} {R st : Nat → Int32} {v : Int32} (h : stR T R st) {k j : Nat} (e : k = j + 4) (hj : j < 40) (hn : ¬ (12 ≤ j ∧ j < 15)) : stR T (upd R k v) (upd st j v) := by
  subst e
  obtain ⟨h1, h2, h3, h4, h5, h6⟩ := h
  refine ⟨fun q hq hq2 => ?_, fun c hc hc3 => ?_, ?_, ?_, ?_, ?_⟩
  · by_cases z : q = j
    · subst z
      rw [upd_at, upd_at]
    · rw [upd_ne (by omega), upd_ne z]
      exact h1 q hq hq2
  · rw [upd_ne (by omega), upd_ne (by omega)]
    exact h2 c hc hc3
  · rw [upd_ne (by omega), upd_ne (by omega)]; exact h3
  · rw [upd_ne (by omega), upd_ne (by omega)]; exact h4
  · rw [upd_ne (by omega), upd_ne (by omega)]; exact h5
  · rw [upd_ne (by omega), upd_ne (by omega), upd_ne (by omega), upd_ne (by omega), upd_ne (by omega)]; exact h6
theorem stR.u0 {T : tx} {R st : Nat → Int32} {v : Int32} (h : stR T R st) : stR T (upd R 0 v) (upd st 44 v) := by
  obtain ⟨h1, h2, h3, h4, h5, h6⟩ := h
  refine ⟨fun q hq hq2 => ?_, fun c hc hc3 => ?_, ?_, ?_, ?_, ?_⟩
  · rw [upd_ne (by omega), upd_ne (by omega)]; exact h1 q hq hq2
  · rw [upd_ne (by omega), upd_ne (by omega)]; exact h2 c hc hc3
  · rw [upd_at, upd_at]
  · rw [upd_ne (by omega), upd_ne (by omega)]; exact h4
  · rw [upd_ne (by omega), upd_ne (by omega)]; exact h5
  · rw [upd_ne (by omega), upd_ne (by omega), upd_ne (by omega), upd_ne (by omega), upd_ne (by omega)]; exact h6
theorem stR.u1 {T : tx} {R st : Nat → Int32} {v : Int32} (h : stR T R st) : stR T (upd R 1 v) (upd st 45 v) := by
  obtain ⟨h1, h2, h3, h4, h5, h6⟩ := h
  refine ⟨fun q hq hq2 => ?_, fun c hc hc3 => ?_, ?_, ?_, ?_, ?_⟩
  · rw [upd_ne (by omega), upd_ne (by omega)]; exact h1 q hq hq2
  · rw [upd_ne (by omega), upd_ne (by omega)]; exact h2 c hc hc3
  · rw [upd_ne (by omega), upd_ne (by omega)]; exact h3
  · rw [upd_at, upd_at]
  · rw [upd_ne (by omega), upd_ne (by omega)]; exact h5
  · rw [upd_ne (by omega), upd_ne (by omega), upd_ne (by omega), upd_ne (by omega), upd_ne (by omega)]; exact h6
theorem stR.u2 {T : tx} {R st : Nat → Int32} {v : Int32} (h : stR T R st) : stR T (upd R 2 v) (upd st 46 v) := by
  obtain ⟨h1, h2, h3, h4, h5, h6⟩ := h
  refine ⟨fun q hq hq2 => ?_, fun c hc hc3 => ?_, ?_, ?_, ?_, ?_⟩
  · rw [upd_ne (by omega), upd_ne (by omega)]; exact h1 q hq hq2
  · rw [upd_ne (by omega), upd_ne (by omega)]; exact h2 c hc hc3
  · rw [upd_ne (by omega), upd_ne (by omega)]; exact h3
  · rw [upd_ne (by omega), upd_ne (by omega)]; exact h4
  · rw [upd_at, upd_at]
  · rw [upd_ne (by omega), upd_ne (by omega), upd_ne (by omega), upd_ne (by omega), upd_ne (by omega)]; exact h6
theorem stR.uh {T : tx} {R st : Nat → Int32} {v : Int32} (h : stR T R st) {c : Nat} (hc3 : c < 3) : stR T (upd R (16 + c) (hC v)) (upd st (12 + c) v) := by
  obtain ⟨h1, h2, h3, h4, h5, h6⟩ := h
  refine ⟨fun q hq hq2 => ?_, fun d hd hd3 => ?_, ?_, ?_, ?_, ?_⟩
  · rw [upd_ne (by omega), upd_ne (by omega)]; exact h1 q hq hq2
  · by_cases z : d = c
    · subst z
      rw [upd_at, upd_at]
    · rw [upd_ne (by omega), upd_ne (by omega)]; exact h2 d hd hd3
  · rw [upd_ne (by omega), upd_ne (by omega)]; exact h3
  · rw [upd_ne (by omega), upd_ne (by omega)]; exact h4
  · rw [upd_ne (by omega), upd_ne (by omega)]; exact h5
  · rw [upd_ne (by omega), upd_ne (by omega), upd_ne (by omega), upd_ne (by omega), upd_ne (by omega)]; exact h6
theorem stR.uf {T : tx} {R st : Nat → Int32} (h : stR T R st) {i : Nat} (hi : i < 4) : stR T (upd (upd R (44 + i) (R (44 + i) + 1)) 3 (R 3 + 1)) (upd st (40 + i) (st (40 + i) + 1)) := by
  obtain ⟨h1, h2, h3, h4, h5, h6⟩ := h
  have e := h1 (40 + i) (by omega) (by omega)
  have e : R (44 + i) = st (40 + i) := by rw [← e]; congr 1; omega
  refine ⟨fun q hq hq2 => ?_, fun c hc hc3 => ?_, ?_, ?_, ?_, ?_⟩
  · by_cases z : q = 40 + i
    · subst z
      rw [upd_ne (by omega), show 40 + i + 4 = 44 + i by omega, upd_at, upd_at, e]
    · rw [upd_ne (by omega), upd_ne (by omega), upd_ne z]; exact h1 q hq hq2
  · rw [upd_ne (by omega), upd_ne (by omega), upd_ne (by omega)]; exact h2 c hc hc3
  · rw [upd_ne (by omega), upd_ne (by omega), upd_ne (by omega)]; exact h3
  · rw [upd_ne (by omega), upd_ne (by omega), upd_ne (by omega)]; exact h4
  · rw [upd_ne (by omega), upd_ne (by omega), upd_ne (by omega)]; exact h5
  · rw [upd_at, h6]
    match i, hi with
    | 0, _ => rw [upd_at, upd_ne (by decide), upd_ne (by decide), upd_ne (by decide)]; show st 40 + st 41 + st 42 + st 43 + 1 = (st 40 + 1) + st 41 + st 42 + st 43; ac_rfl
    | 1, _ => rw [upd_at, upd_ne (by decide), upd_ne (by decide), upd_ne (by decide)]; show st 40 + st 41 + st 42 + st 43 + 1 = st 40 + (st 41 + 1) + st 42 + st 43; ac_rfl
    | 2, _ => rw [upd_at, upd_ne (by decide), upd_ne (by decide), upd_ne (by decide)]; show st 40 + st 41 + st 42 + st 43 + 1 = st 40 + st 41 + (st 42 + 1) + st 43; ac_rfl
    | 3, _ => rw [upd_at, upd_ne (by decide), upd_ne (by decide), upd_ne (by decide)]; show st 40 + st 41 + st 42 + st 43 + 1 = st 40 + st 41 + st 42 + (st 43 + 1); ac_rfl
theorem stR.eq {T : tx} {R st st' : Nat → Int32} (h : stR T R st) (e : ∀ j, j < 47 → st' j = st j) : stR T R st' := by
  obtain ⟨h1, h2, h3, h4, h5, h6⟩ := h
  refine ⟨fun q hq hq2 => ?_, fun c hc hc3 => ?_, ?_, ?_, ?_, ?_⟩
  · rw [e q (by omega)]; exact h1 q hq hq2
  · rw [e _ (by omega)]; exact h2 c hc hc3
  · rw [e _ (by omega)]; exact h3
  · rw [e _ (by omega)]; exact h4
  · rw [e _ (by omega)]; exact h5
  · rw [e _ (by omega), e _ (by omega), e _ (by omega), e _ (by omega)]; exact h6
theorem let_0 {S : rx_S} {v : Int32} : f_X2_let 3 0 v S = some ((), rx_ui S 7 0 v) := by
  unfold f_X2_let
  rw [if_neg (by decide), if_neg (by decide)]
  exact (rx_gd_in (vp_in_nI (n := 0) (by decide) (by decide))).trans rfl
theorem let_1 {S : rx_S} {v : Int32} : f_X2_let 3 1 v S = some ((), rx_ui S 7 1 v) := by
  unfold f_X2_let
  rw [if_neg (by decide), if_neg (by decide)]
  exact (rx_gd_in (vp_in_nI (n := 1) (by decide) (by decide))).trans rfl
theorem let_2 {S : rx_S} {v : Int32} : f_X2_let 3 2 v S = some ((), rx_ui S 7 2 v) := by
  unfold f_X2_let
  rw [if_neg (by decide), if_neg (by decide)]
  exact (rx_gd_in (vp_in_nI (n := 2) (by decide) (by decide))).trans rfl
theorem let_3 {S : rx_S} {v : Int32} : f_X2_let 3 3 v S = some ((), rx_ui S 7 3 v) := by
  unfold f_X2_let
  rw [if_neg (by decide), if_neg (by decide)]
  exact (rx_gd_in (vp_in_nI (n := 3) (by decide) (by decide))).trans rfl
theorem let_4 {S : rx_S} {v : Int32} : f_X2_let 3 4 v S = some ((), rx_ui S 7 4 v) := by
  unfold f_X2_let
  rw [if_neg (by decide), if_neg (by decide)]
  exact (rx_gd_in (vp_in_nI (n := 4) (by decide) (by decide))).trans rfl
theorem let_5 {S : rx_S} {v : Int32} : f_X2_let 3 5 v S = some ((), rx_ui S 7 5 v) := by
  unfold f_X2_let
  rw [if_neg (by decide), if_neg (by decide)]
  exact (rx_gd_in (vp_in_nI (n := 5) (by decide) (by decide))).trans rfl
theorem let_6 {S : rx_S} {v : Int32} : f_X2_let 3 6 v S = some ((), rx_ui S 7 6 v) := by
  unfold f_X2_let
  rw [if_neg (by decide), if_neg (by decide)]
  exact (rx_gd_in (vp_in_nI (n := 6) (by decide) (by decide))).trans rfl
theorem let_7 {S : rx_S} {v : Int32} : f_X2_let 3 7 v S = some ((), rx_ui S 7 7 v) := by
  unfold f_X2_let
  rw [if_neg (by decide), if_neg (by decide)]
  exact (rx_gd_in (vp_in_nI (n := 7) (by decide) (by decide))).trans rfl
theorem let_8 {S : rx_S} {v : Int32} : f_X2_let 3 8 v S = some ((), rx_ui S 7 8 v) := by
  unfold f_X2_let
  rw [if_neg (by decide), if_neg (by decide)]
  exact (rx_gd_in (vp_in_nI (n := 8) (by decide) (by decide))).trans rfl
section TKC
variable {N : Nat} {T : tx} {S : rx_S}
theorem askIn_L {P : Unit → rx_S → Prop} {K : Int32 → rx_S → Option (Unit × rx_S)} {x : Int32} : ∀ (m n i : Nat) (S : rx_S), i + m = 9 → m < n → (∀ S', fK 7 S S' → (∀ j, i ≤ j → j < 9 → S'.1 7 j = 0) → (∀ j, j < i → S'.1 7 j = S.1 7 j) → pk (K x S') P) → pk (f_X2_askIn_L2 3 N K n x (nI i) S) P := by
  intro m
  induction m with
  | zero =>
    intro n i S hi hn k
    obtain ⟨n, rfl⟩ : ∃ q, n = q + 1 := ⟨n - 1, by omega⟩
    rw [f_X2_askIn_L2, if_pos (show (9 : Int32) ≤ nI i from nI_le (a := 9) (by omega) (by omega))]
    exact k S fK.rf (fun j _ _ => by omega) (fun _ _ => rfl)
  | succ m ih =>
    intro n i S hi hn k
    obtain ⟨n, rfl⟩ : ∃ q, n = q + 1 := ⟨n - 1, by omega⟩
    rw [f_X2_askIn_L2, if_neg (show ¬ (9 : Int32) ≤ nI i from nI_ge (b := 9) (by omega) (by decide)), pk_gdn (by omega) (by decide), pk_let, pk_let, nI_1, nI_clamp (by omega)]
    refine ih n (i + 1) _ (by omega) (by omega) (fun S' h1 h2 h3 => k S' (fK.ui.tr h1) (fun j hj1 hj2 => ?_) (fun j hj => ?_))
    · by_cases h : j = i
      · subst h
        rw [h3 j (by omega), ui_get]
        simp
      · exact h2 j (by omega) hj2
    · rw [h3 j (by omega), ui_get]
      simp
      omega
theorem askIn_ok (hN : 5000 ≤ N) {x : Int32} : pk (f_X2_askIn 3 N x S) (fun _ S' => sC S S' ∧ vC S' 0 0 0 0 0 0 x 0 0) := by
  unfold f_X2_askIn
  rw [pk_let]
  refine askIn_L 9 N 0 S rfl (by omega) (fun S' h1 h2 h3 => ?_)
  rw [pk_let, pk_some]
  refine ⟨(sC.f7 h1).tr sC.u7, ?_⟩
  have hv : vC S' 0 0 0 0 0 0 0 0 0 := ⟨h2 0 (by decide) (by decide), h2 1 (by decide) (by decide), h2 2 (by decide) (by decide), h2 3 (by decide) (by decide), h2 4 (by decide) (by decide), h2 5 (by decide) (by decide), h2 6 (by decide) (by decide), h2 7 (by decide) (by decide), h2 8 (by decide) (by decide)⟩
  exact vC_6 hv
theorem ans_ok (hT : TC N T S) {S' : rx_S} (hg : agC S S') {k : Nat} (hk : k < 7) {a0 a1 a2 a3 a4 a5 a6 a7 a8 : Int32} (hv : vC S' a0 a1 a2 a3 a4 a5 a6 a7 a8) : pk (f_X2_answer 3 N (nI k) S') (fun r S'' => r = tL T k a0 a1 a2 a3 a4 a5 a6 a7 a8 ∧ sC S' S'' ∧ vC S'' a0 a1 a2 a3 a4 a5 a6 a7 a8) :=
  pk_mono (hT.2 S' hg k hk a0 a1 a2 a3 a4 a5 a6 a7 a8 hv) (fun r S'' h => ⟨h.1, sC.f6 h.2, hv.eq (h.2.1 7 (by decide))⟩)
theorem within_eq {x a b : Int32} (hab : a ≤ b) : f_X10_within x a b S = some (hld x a b, S) := by
  unfold f_X10_within hld
  rw [i_le] at hab
  congr 2
  simp only [i_lt, i_le]
  by_cases h1 : x.toInt < b.toInt
  · rw [if_pos h1]
    by_cases h2 : a.toInt < x.toInt
    · rw [if_pos h2, if_pos (by omega), if_pos (by omega)]
    · rw [if_neg h2]
      by_cases h3 : a.toInt ≤ x.toInt
      · rw [if_pos h3, if_pos (by omega)]
        exact i_inj.mpr (by omega)
      · rw [if_neg h3]
  · rw [if_neg h1, if_pos (show a.toInt ≤ x.toInt by omega)]
    by_cases h2 : a.toInt < b.toInt
    · rw [if_pos h2]
      by_cases h3 : x.toInt ≤ b.toInt
      · rw [if_pos h3]
        exact i_inj.mpr (by omega)
      · rw [if_neg h3]
    · rw [if_neg h2]
      by_cases h3 : x.toInt ≤ b.toInt
      · rw [if_pos h3]
        exact i_inj.mpr (by omega)
      · rw [if_neg h3]
        exact i_inj.mpr (by omega)
theorem restOf_eq {x : Int32} {m : Nat} (h0 : 0 < m) (hm : m < 2 ^ 31) : f_X7_restOf x (nI m) S = some (nI (rst x m), S) := by
  unfold f_X7_restOf
  have e := rst_nI (x := x) hm
  by_cases h : x < 0
  · rw [if_pos h]
    rw [if_neg (i_nle.mpr h)] at e
    rw [e]
  · rw [if_neg h, if_pos (show (0 : Int32) < nI m from nI_lt (a := 0) h0 hm), rx_nz_in (nI_ne0 h0 hm)]
    rw [if_pos (i_nlt.mp h)] at e
    rw [e]
variable {kk : Nat} {st : Nat → Int32}
theorem stR.s {S' : rx_S} (h : stR T (S.1 kk) st) (hk : 13 ≤ kk) (hs : sC S S') : stR T (S'.1 kk) st := by rw [hs.1 kk (by omega) (by omega)]; exact h
theorem rowOf_L (hN : 5000 ≤ N) (hT : TC N T S) {a M : Nat} (hM : M ≤ 5) : ∀ (m n i : Nat) (S1 : rx_S) (p : Int32), i + m = M → m < n → sC S S1 → vC S1 0 p (st a) 0 0 (nI a) (st 44) 0 0 → pk (f_X7_rowOf_L52 kk N n (nI M) (nI (sdL T st a i)) (nI i) S1) (fun r S' => r = nI (sdL T st a M) ∧ sC S S') := by
  intro m
  induction m with
  | zero =>
    intro n i S1 p hi hn hs hv
    obtain ⟨n, rfl⟩ : ∃ q, n = q + 1 := ⟨n - 1, by omega⟩
    rw [f_X7_rowOf_L52, if_pos (nI_le (by omega) (by omega)), pk_some]
    have : i = M := by omega
    rw [this]
    exact ⟨rfl, hs⟩
  | succ m ih =>
    intro n i S1 p hi hn hs hv
    obtain ⟨n, rfl⟩ : ∃ q, n = q + 1 := ⟨n - 1, by omega⟩
    rw [f_X7_rowOf_L52, if_neg (nI_ge (by omega) (by omega)), let_1, bd_some]
    refine pk_bdm (ans_ok (k := 1) hT (hs.tr sC.u7).ag (by decide) (vC_1 hv)) (fun r S2 h2 => ?_)
    have er : f_X7_restOf r 8 S2 = some (nI (rst r 8), S2) := restOf_eq (m := 8) (by decide) (by decide)
    rw [er, bd_some]
    unfold f_X5_with
    rw [bd_some, pk_let, nI_1]
    have e1 : nI (sdL T st a i) * 8 + nI (rst r 8) = nI (sdL T st a (i + 1)) := by
      have : nI (sdL T st a i) * 8 = nI (sdL T st a i * 8) := nI_mul _ 8
      rw [this, nI_add, h2.1, Nat.mul_comm]
      rfl
    rw [e1]
    exact ih n (i + 1) S2 _ (by omega) (by omega) ((hs.tr sC.u7).tr h2.2.1) h2.2.2
theorem rowOf_ok (hN : 5000 ≤ N) (hT : TC N T S) (hk : 13 ≤ kk) (h : stR T (S.1 kk) st) {a : Nat} (ha : a < 6) : pk (f_X7_rowOf kk N (nI a) S) (fun r S' => r = nI (sd T st a) ∧ sC S S') := by
  unfold f_X7_rowOf
  refine pk_bdm (askIn_ok hN) (fun _ S1 h1 => ?_)
  have e4 : (4 : Int32) + nI a = nI (4 + a) := nI_add 4 a
  rw [e4, pk_gdn (by omega) (by decide), nI_clamp (by omega), let_2, bd_some, let_5, bd_some, (h.s hk h1.1).at (k := 4 + a) (j := a) (by omega) (by omega) (by omega)]
  have hv := vC_5 (v := nI a) (vC_2 (v := st a) h1.2)
  rw [h.2.2.1] at hv
  have hs := (h1.1.tr (sC.u7 (i := 2) (v := st a))).tr (sC.u7 (i := 5) (v := nI a))
  refine pk_bdm (ans_ok (k := 0) hT hs.ag (by decide) hv) (fun r S2 h2 => ?_)
  rw [within_eq (by decide), bd_some]
  have e : hld r 0 5 = nI (sdN T st a) := by
    rw [h2.1]
    exact hld_nI (b := 5) (by decide)
  rw [e]
  exact rowOf_L hN hT (Nat.min_le_left _ _) _ N 0 S2 _ (Nat.zero_add _) (by have : sdN T st a ≤ 5 := Nat.min_le_left _ _; omega) (hs.tr h2.2.1) h2.2.2
theorem aat_ok (hN : 5000 ≤ N) (hk : 13 ≤ kk) (h : stR T (S.1 kk) st) {i : Nat} (hi : i < 4) : pk (f_X7_askAboutThird kk N (nI i) S) (fun _ S' => sC S S' ∧ vC S' 0 0 0 (st (24 + i)) (st (28 + i)) (nI i) (st 44) 0 0) := by
  unfold f_X7_askAboutThird
  refine pk_bdm (askIn_ok hN) (fun _ S1 h1 => ?_)
  have e28 : (28 : Int32) + nI i = nI (28 + i) := nI_add 28 i
  have e32 : (32 : Int32) + nI i = nI (32 + i) := nI_add 32 i
  have hs := h1.1.tr (sC.u7 (i := 3) (v := st (24 + i)))
  rw [e28, e32, pk_gdn (by omega) (by decide), nI_clamp (by omega), let_3, bd_some, pk_gdn (by omega) (by decide), nI_clamp (by omega), let_4, bd_some, let_5, bd_some, pk_some, (h.s hk h1.1).at (k := 28 + i) (j := 24 + i) (by omega) (by omega) (by omega), (h.s hk hs).at (k := 32 + i) (j := 28 + i) (by omega) (by omega) (by omega)]
  rw [← h.2.2.1]
  exact ⟨(hs.tr sC.u7).tr sC.u7, vC_5 (vC_4 (vC_3 h1.2))⟩
theorem dropsC_ok (hN : 5000 ≤ N) (hT : TC N T S) (hk : 13 ≤ kk) (h : stR T (S.1 kk) st) {i : Nat} (hi : i < 4) : pk (f_X7_dropsOf kk N (nI i) S) (fun r S' => r = drp T st i ∧ sC S S') := by
  unfold f_X7_dropsOf
  refine pk_bdm (aat_ok hN hk h hi) (fun _ S1 h1 => ?_)
  refine pk_bdm (ans_ok (k := 3) hT h1.1.ag (by decide) h1.2) (fun r S2 h2 => ?_)
  rw [within_eq (by decide), bd_some, pk_some, h2.1]
  exact ⟨rfl, h1.1.tr h2.2.1⟩
theorem daringC_ok (hN : 5000 ≤ N) (hT : TC N T S) (hk : 13 ≤ kk) (h : stR T (S.1 kk) st) {i : Nat} (hi : i < 4) : pk (f_X7_isDaring kk N (nI i) S) (fun r S' => r = (if dar T st i = true then 1 else 0) ∧ sC S S') := by
  unfold f_X7_isDaring
  refine pk_bdm (aat_ok hN hk h hi) (fun _ S1 h1 => ?_)
  have e1 : (44 : Int32) + nI i = nI (44 + i) := nI_add 44 i
  rw [e1, pk_gdn (by omega) (by decide), nI_clamp (by omega), let_8, bd_some, (h.s hk h1.1).at (k := 44 + i) (j := 40 + i) (by omega) (by omega) (by omega)]
  refine pk_bdm (ans_ok (k := 6) hT (h1.1.tr sC.u7).ag (by decide) (vC_8 h1.2)) (fun r S2 h2 => ?_)
  have hs := (h1.1.tr sC.u7).tr h2.2.1
  rw [pk_ite, pk_some, pk_some]
  unfold dar
  rw [← h2.1]
  split
  · rename_i q
    rw [if_neg (by rw [decide_eq_true_eq]; exact i_nlt.mpr q)]
    exact ⟨rfl, hs⟩
  · rename_i q
    rw [if_pos (by rw [decide_eq_true_eq]; exact i_nle.mp q)]
    exact ⟨rfl, hs⟩
theorem atb_ok (hN : 5000 ≤ N) (hF : WF T) (hT : TC N T S) (hk : 13 ≤ kk) (h : stR T (S.1 kk) st) {i : Nat} (hi : i < tT T) : pk (f_X7_askToBend kk N (nI i) S) (fun _ S' => sC S S' ∧ vC S' 0 0 0 (st (24 + i)) (st (28 + i)) (nI i) (st 44) (tR T i) 0) := by
  have hi4 := wf_t hF hi
  unfold f_X7_askToBend
  refine pk_bdm (aat_ok hN hk h hi4) (fun _ S1 h1 => ?_)
  rw [pk_gdn hi4 (by decide), nI_clamp (by omega), let_7, bd_some, pk_some, h1.1.1 11 (by decide) (by decide), (hT.1.2.2.2.2.2.2.1 i hi).1]
  exact ⟨h1.1.tr sC.u7, vC_7 h1.2⟩
theorem bentC_ok (hT : TC N T S) {S1 : rx_S} (hs : sC S S1) {i w p : Nat} {x y : Int32} (hv : vC S1 x y 0 (st (24 + i)) (st (28 + i)) (nI i) (st 44) (tR T i) 0) : pk (f_X7_bentWord N (nI w) (nI p) S1) (fun r S' => r = nI (bent T st i w p) ∧ sC S1 S' ∧ vC S' (nI w) (nI p) 0 (st (24 + i)) (st (28 + i)) (nI i) (st 44) (tR T i) 0) := by
  unfold f_X7_bentWord
  rw [let_0, bd_some, let_1, bd_some]
  refine pk_bdm (ans_ok (k := 2) hT ((hs.tr sC.u7).tr sC.u7).ag (by decide) (vC_1 (vC_0 hv))) (fun r S2 h2 => ?_)
  have er : f_X7_restOf r 9 S2 = some (nI (rst r 9), S2) := restOf_eq (m := 9) (by decide) (by decide)
  rw [er, bd_some, pk_some, h2.1]
  exact ⟨rfl, (sC.u7.tr sC.u7).tr h2.2.1, h2.2.2⟩
theorem bnd_of {i : Nat} (h : st (32 + i) = 0 ∨ st (32 + i) = 1) : bnd T st i = (decide (¬ st (32 + i) = 0) && ! dar T st i) := by
  unfold bnd
  rcases h with e | e <;> rw [e] <;> rfl
theorem putWord_ok (hN : 5000 ≤ N) (hF : WF T) (hT : TC N T S) (hk : 13 ≤ kk) (h : stR T (S.1 kk) st) {w0 : Nat} (hW : WS T w0 st) {i w p : Nat} (hi : i < tT T) : pk (f_X7_putWord kk N (nI i) (nI w) (nI p) S) (fun r S' => r = nI (pt T st i w p) ∧ sC S S') := by
  have hi4 := wf_t hF hi
  have hsw := bnd_of (T := T) (hW.sw hi4)
  have J : bnd T st i = false → ∀ S1, sC S S1 → pk (rx_bd (f_X7_askToBend kk N (nI i) S1) (fun x12 S11 => rx_bd (f_X7_bentWord N (nI w) (nI p) S11) (fun x15 S14 => some (x15, S14)))) (fun r S' => r = nI (pt T st i w p) ∧ sC S S') := by
    intro hb S1 hs
    refine pk_bdm (atb_ok hN hF (hT.ag hs.ag) hk (h.s hk hs) hi) (fun _ S2 h2 => ?_)
    refine pk_bdm (bentC_ok hT (hs.tr h2.1) h2.2) (fun r S3 h3 => ?_)
    rw [pk_some]
    refine ⟨?_, (hs.tr h2.1).tr h3.2.1⟩
    unfold pt
    rw [hb, h3.1]
    rfl
  unfold f_X7_putWord
  have e1 : (36 : Int32) + nI i = nI (36 + i) := nI_add 36 i
  rw [e1, pk_gdn (by omega) (by decide), pk_let, nI_clamp (by omega), h.at (k := 36 + i) (j := 32 + i) (by omega) (by omega) (by omega), pk_ite]
  split
  · rename_i q
    exact J (by rw [hsw]; simp [q]) S sC.rf
  · rename_i q
    refine pk_bdm (daringC_ok hN hT hk h hi4) (fun r S1 h1 => ?_)
    rw [pk_ite]
    by_cases hd : dar T st i = true
    · rw [if_pos hd] at h1
      rw [h1.1, if_neg (by decide)]
      exact J (by rw [hsw, hd]; simp) S1 h1.2
    · rw [if_neg hd] at h1
      rw [h1.1, if_pos rfl, pk_some]
      refine ⟨?_, h1.2⟩
      unfold pt
      rw [if_pos (by rw [hsw]; simp [q, hd])]
theorem lotC_eq {x y : Int32} : f_X7_lotOfHundred x y S = some (lot x y, S) := rfl
theorem carr_L (hN : 5000 ≤ N) (hF : WF T) (hT : TC N T S) {w0 : Nat} (hW : WS T w0 st) {i v M : Nat} {drops seed lots : Int32} {bd : Int32} {dr : Nat → Bool} (hi : i < tT T) (hv : v < 2 ^ 31) (hM : M ≤ 5) (hbd : bd = if bnd T st i = true then 1 else 0) (hdr : ∀ j, dr j = (decide (0 < drops) && decide (lot seed (lots + nI j) < drops))) : ∀ (m n j : Nat) (S1 : rx_S) (x y : Int32), j + m = M → m < n → sC S S1 → vC S1 x y 0 (st (24 + i)) (st (28 + i)) (nI i) (st 44) (tR T i) 0 → pk (f_X7_carriedRow_L43 kk N n (nI v) drops seed lots bd (nI M) (nI (cr T st i v M dr j)) (nI j) S1) (fun r S' => r = nI (cr T st i v M dr M) ∧ sC S S') := by
  intro m
  induction m with
  | zero =>
    intro n j S1 x y hj hn hs hv1
    obtain ⟨n, rfl⟩ : ∃ q, n = q + 1 := ⟨n - 1, by omega⟩
    rw [f_X7_carriedRow_L43, if_pos (nI_le (by omega) (by omega)), pk_some]
    have : j = M := by omega
    rw [this]
    exact ⟨rfl, hs⟩
  | succ m ih =>
    intro n j S1 x y hj hn hs hv1
    obtain ⟨n, rfl⟩ : ∃ q, n = q + 1 := ⟨n - 1, by omega⟩
    have h9 := pt_lt T st i (wd v M j) j (wd_lt v M j)
    have c8 : nI (pt T st i (wd v M j) j) = 8 ↔ pt T st i (wd v M j) j = 8 := nI_eq (b := 8) (by omega) (by decide)
    have K1 : ∀ (S2 : rx_S) (x y : Int32), sC S S2 → vC S2 x y 0 (st (24 + i)) (st (28 + i)) (nI i) (st 44) (tR T i) 0 → (pt T st i (wd v M j) j = 8 ∨ dr j = true) → pk (f_X7_carriedRow_L43 kk N n (nI v) drops seed lots bd (nI M) (nI (cr T st i v M dr j)) (nI (j + 1)) S2) (fun r S' => r = nI (cr T st i v M dr M) ∧ sC S S') := by
      intro S2 x y hs2 hv2 q
      have e : cr T st i v M dr (j + 1) = cr T st i v M dr j := by rw [cr, if_pos q]
      rw [← e]
      exact ih n (j + 1) S2 x y (by omega) (by omega) hs2 hv2
    have K2 : ∀ (S2 : rx_S) (x y : Int32), sC S S2 → vC S2 x y 0 (st (24 + i)) (st (28 + i)) (nI i) (st 44) (tR T i) 0 → ¬ (pt T st i (wd v M j) j = 8 ∨ dr j = true) → pk (f_X7_carriedRow_L43 kk N n (nI v) drops seed lots bd (nI M) (nI (cr T st i v M dr j) * 8 + nI (pt T st i (wd v M j) j)) (nI (j + 1)) S2) (fun r S' => r = nI (cr T st i v M dr M) ∧ sC S S') := by
      intro S2 x y hs2 hv2 q
      have e1 : nI (cr T st i v M dr j) * 8 + nI (pt T st i (wd v M j) j) = nI (cr T st i v M dr (j + 1)) := by
        have : nI (cr T st i v M dr j) * 8 = nI (cr T st i v M dr j * 8) := nI_mul _ 8
        rw [this, nI_add, Nat.mul_comm, cr, if_neg q]
      rw [e1]
      exact ih n (j + 1) S2 x y (by omega) (by omega) hs2 hv2
    rw [f_X7_carriedRow_L43, if_neg (nI_ge (by omega) (by omega)), wordAt_eq hv hM (by omega), bd_some, pk_let]
    have J : ∀ (S2 : rx_S) (x y : Int32), sC S S2 → vC S2 x y 0 (st (24 + i)) (st (28 + i)) (nI i) (st 44) (tR T i) 0 → pk (rx_let (fun (x45 : Int32) (x46 : Int32) (x47 : Int32) (x48 : Int32) (x49 : Int32) (x50 : Int32) (x51 : Int32) (x52 : Int32) (x53 : Int32) (x54 : Int32) (S55 : rx_S) => if x53 = 8 then (rx_let (x52 + 1) (fun x57 => f_X7_carriedRow_L43 kk N n x45 x46 x47 x48 x49 x50 x51 x57 S55)) else (if x54 = 0 then (rx_bd (f_X5_with x51 x53 S55) (fun x61 S60 => rx_let (x52 + 1) (fun x63 => f_X7_carriedRow_L43 kk N n x45 x46 x47 x48 x49 x50 x61 x63 S60))) else (rx_let (x52 + 1) (fun x59 => f_X7_carriedRow_L43 kk N n x45 x46 x47 x48 x49 x50 x51 x59 S55)))) (fun J105_3 => rx_let (fun (x64 : Int32) (x65 : Int32) (x66 : Int32) (x67 : Int32) (x68 : Int32) (x69 : Int32) (x70 : Int32) (x71 : Int32) (x72 : Int32) (S73 : rx_S) => J105_3 x64 x65 x66 x67 x68 x69 x70 x71 x72 0 S73) (fun J104_4 => if drops ≤ 0 then (J104_4 (nI v) drops seed lots bd (nI M) (nI (cr T st i v M dr j)) (nI j) (nI (pt T st i (wd v M j) j)) S2) else (rx_bd (f_X7_lotOfHundred seed (lots + nI j) S2) (fun x76 S75 => if drops ≤ x76 then (J104_4 (nI v) drops seed lots bd (nI M) (nI (cr T st i v M dr j)) (nI j) (nI (pt T st i (wd v M j) j)) S75) else (J105_3 (nI v) drops seed lots bd (nI M) (nI (cr T st i v M dr j)) (nI j) (nI (pt T st i (wd v M j) j)) 1 S75)))))) (fun r S' => r = nI (cr T st i v M dr M) ∧ sC S S') := by
      intro S2 x y hs2 hv2
      rw [pk_let, pk_let]
      have z0 : dr j = false → pk (if nI (pt T st i (wd v M j) j) = 8 then (rx_let (nI j + 1) (fun x57 => f_X7_carriedRow_L43 kk N n (nI v) drops seed lots bd (nI M) (nI (cr T st i v M dr j)) x57 S2)) else (if (0 : Int32) = 0 then (rx_bd (f_X5_with (nI (cr T st i v M dr j)) (nI (pt T st i (wd v M j) j)) S2) (fun x61 S60 => rx_let (nI j + 1) (fun x63 => f_X7_carriedRow_L43 kk N n (nI v) drops seed lots bd (nI M) x61 x63 S60))) else (rx_let (nI j + 1) (fun x59 => f_X7_carriedRow_L43 kk N n (nI v) drops seed lots bd (nI M) (nI (cr T st i v M dr j)) x59 S2)))) (fun r S' => r = nI (cr T st i v M dr M) ∧ sC S S') := by
        intro hd
        by_cases q : pt T st i (wd v M j) j = 8
        · rw [if_pos (c8.mpr q), pk_let, nI_1]
          exact K1 S2 x y hs2 hv2 (Or.inl q)
        · rw [if_neg (fun z => q (c8.mp z)), if_pos rfl]
          unfold f_X5_with
          rw [bd_some, pk_let, nI_1]
          exact K2 S2 x y hs2 hv2 (fun z => z.elim q (fun e => by rw [hd] at e; exact absurd e (by decide)))
      have z1 : dr j = true → pk (if nI (pt T st i (wd v M j) j) = 8 then (rx_let (nI j + 1) (fun x57 => f_X7_carriedRow_L43 kk N n (nI v) drops seed lots bd (nI M) (nI (cr T st i v M dr j)) x57 S2)) else (if (1 : Int32) = 0 then (rx_bd (f_X5_with (nI (cr T st i v M dr j)) (nI (pt T st i (wd v M j) j)) S2) (fun x61 S60 => rx_let (nI j + 1) (fun x63 => f_X7_carriedRow_L43 kk N n (nI v) drops seed lots bd (nI M) x61 x63 S60))) else (rx_let (nI j + 1) (fun x59 => f_X7_carriedRow_L43 kk N n (nI v) drops seed lots bd (nI M) (nI (cr T st i v M dr j)) x59 S2)))) (fun r S' => r = nI (cr T st i v M dr M) ∧ sC S S') := by
        intro hd
        rw [if_neg (show ¬ (1 : Int32) = 0 by decide), ite_self, pk_let, nI_1]
        exact K1 S2 x y hs2 hv2 (Or.inr hd)
      rw [pk_ite]
      split
      · rename_i q
        exact z0 (by rw [hdr j, decide_eq_false (i_nlt.mpr q)]; rfl)
      · rename_i q
        rw [lotC_eq, bd_some, pk_ite]
        split
        · rename_i q2
          exact z0 (by rw [hdr j, decide_eq_false (i_nlt.mpr q2), Bool.and_false])
        · rename_i q2
          exact z1 (by rw [hdr j, decide_eq_true (i_nle.mp q), decide_eq_true (i_nle.mp q2)]; rfl)
    dsimp only
    rw [pk_ite]
    by_cases hb : bnd T st i = true
    · rw [if_pos hb] at hbd
      rw [if_neg (by rw [hbd]; decide)]
      have e : wd v M j = pt T st i (wd v M j) j := by unfold pt; rw [if_pos hb]
      have := J S1 x y hs hv1
      rw [← e] at this
      exact this
    · rw [if_neg hb] at hbd
      rw [if_pos (by rw [hbd])]
      refine pk_bdm (bentC_ok hT hs hv1) (fun r S2 h2 => ?_)
      have e : r = nI (pt T st i (wd v M j) j) := by
        rw [h2.1]
        unfold pt
        rw [if_neg hb]
      rw [e]
      exact J S2 _ _ (hs.tr h2.2.1) h2.2.2
theorem carried_ok (hN : 5000 ≤ N) (hF : WF T) (hT : TC N T S) (hk : 13 ≤ kk) (h : stR T (S.1 kk) st) {w0 : Nat} (hW : WS T w0 st) {i v : Nat} {drops seed lots : Int32} {dr : Nat → Bool} (hi : i < tT T) (hv : okr v) (hdr : ∀ j, dr j = (decide (0 < drops) && decide (lot seed (lots + nI j) < drops))) : pk (f_X7_carriedRow kk N (nI i) (nI v) drops seed lots S) (fun r S' => r = nI (cr T st i v (rl v) dr (rl v)) ∧ sC S S') := by
  have hi4 := wf_t hF hi
  have hsw := bnd_of (T := T) (hW.sw hi4)
  have J : ∀ (b : Int32), b = (if bnd T st i = true then 1 else 0) → ∀ S1, sC S S1 → pk (rx_bd (f_X7_askToBend kk N (nI i) S1) (fun x17 S16 => rx_bd (f_X5_size N (nI v) S16) (fun x20 S19 => f_X7_carriedRow_L43 kk N N (nI v) drops seed lots b x20 1 0 S19))) (fun r S' => r = nI (cr T st i v (rl v) dr (rl v)) ∧ sC S S') := by
    intro b hb S1 hs
    refine pk_bdm (atb_ok hN hF (hT.ag hs.ag) hk (h.s hk hs) hi) (fun _ S2 h2 => ?_)
    rw [size_eq hN, bd_some, rsz_okr hv]
    have := okr_lt hv
    have h5 := rl_le v
    exact carr_L hN hF hT hW hi (by omega) (rl_le v) hb hdr (rl v) N 0 S2 _ _ (by omega) (by omega) (hs.tr h2.1) h2.2
  unfold f_X7_carriedRow
  have e1 : (36 : Int32) + nI i = nI (36 + i) := nI_add 36 i
  rw [e1, pk_gdn (by omega) (by decide), pk_let, pk_let, nI_clamp (by omega), h.at (k := 36 + i) (j := 32 + i) (by omega) (by omega) (by omega), pk_ite]
  split
  · rename_i q
    exact J 0 (by rw [hsw]; simp [q]) S sC.rf
  · rename_i q
    refine pk_bdm (daringC_ok hN hT hk h hi4) (fun r S1 h1 => ?_)
    rw [pk_ite]
    by_cases hd : dar T st i = true
    · rw [if_pos hd] at h1
      rw [h1.1, if_neg (by decide)]
      exact J 0 (by rw [hsw, hd]; simp) S1 h1.2
    · rw [if_neg hd] at h1
      rw [h1.1, if_pos rfl]
      exact J 1 (by rw [hsw]; simp [q, hd]) S1 h1.2
theorem putRow_ok (hN : 5000 ≤ N) (hF : WF T) (hT : TC N T S) (hk : 13 ≤ kk) (h : stR T (S.1 kk) st) {w0 : Nat} (hW : WS T w0 st) {i v : Nat} (hi : i < tT T) (hv : okr v) : pk (f_X7_putRow kk N (nI i) (nI v) S) (fun r S' => r = nI (put T st i v) ∧ sC S S') := by
  unfold f_X7_putRow
  refine pk_bdm (carried_ok (drops := 0) (seed := 0) (lots := 0) (dr := fun _ => false) hN hF hT hk h hW hi hv (fun j => by simp)) (fun r S1 h1 => ?_)
  rw [pk_some]
  exact h1
theorem newLove_ok (hN : 5000 ≤ N) (hT : TC N T S) (hk : 13 ≤ kk) (h : stR T (S.1 kk) st) {i a c : Nat} (hi : i < 4) (ha : a < 6) : pk (f_X7_newLove kk N (nI c) (nI a) (nI i) S) (fun r S' => r = hld (tL T 5 0 0 (st a) (st (24 + i)) (st (28 + i)) (nI c) (st 44) 0 0) 0 9 ∧ sC S S') := by
  unfold f_X7_newLove
  refine pk_bdm (aat_ok hN hk h hi) (fun _ S1 h1 => ?_)
  have e4 : (4 : Int32) + nI a = nI (4 + a) := nI_add 4 a
  rw [e4, pk_gdn (by omega) (by decide), nI_clamp (by omega), let_2, bd_some, let_5, bd_some, (h.s hk h1.1).at (k := 4 + a) (j := a) (by omega) (by omega) (by omega)]
  refine pk_bdm (ans_ok (k := 5) hT ((h1.1.tr sC.u7).tr sC.u7).ag (by decide) (vC_5 (vC_2 h1.2))) (fun r S2 h2 => ?_)
  rw [within_eq (by decide), bd_some, pk_some, h2.1]
  exact ⟨rfl, ((h1.1.tr sC.u7).tr sC.u7).tr h2.2.1⟩
theorem moodC_L (hN : 5000 ≤ N) (hT : TC N T S) {a v M : Nat} (hv : v < 2 ^ 31) (hM : M ≤ 5) : ∀ (m n j : Nat) (S1 : rx_S) (x y z : Int32), j + m = M → m < n → sC S S1 → vC S1 x y z 0 0 (nI a) (st 44) 0 0 → pk (f_X7_moodBehind_L35 kk N n (nI v) (nI M) (md T st a v M j) (nI j) S1) (fun r S' => r = md T st a v M M ∧ sC S S') := by
  intro m
  induction m with
  | zero =>
    intro n j S1 x y z hj hn hs hv1
    obtain ⟨n, rfl⟩ : ∃ q, n = q + 1 := ⟨n - 1, by omega⟩
    rw [f_X7_moodBehind_L35, if_pos (nI_le (by omega) (by omega)), pk_some]
    have : j = M := by omega
    rw [this]
    exact ⟨rfl, hs⟩
  | succ m ih =>
    intro n j S1 x y z hj hn hs hv1
    obtain ⟨n, rfl⟩ : ∃ q, n = q + 1 := ⟨n - 1, by omega⟩
    rw [f_X7_moodBehind_L35, if_neg (nI_ge (by omega) (by omega)), wordAt_eq hv hM (by omega), bd_some, let_0, bd_some, let_1, bd_some, let_2, bd_some]
    have hs2 := (((hs.tr (sC.u7 (i := 0) (v := nI (wd v M j)))).tr (sC.u7 (i := 1) (v := nI j))).tr (sC.u7 (i := 2) (v := md T st a v M j)))
    refine pk_bdm (ans_ok (k := 4) hT hs2.ag (by decide) (vC_2 (vC_1 (vC_0 hv1)))) (fun r S3 h3 => ?_)
    rw [within_eq (by decide), bd_some, within_eq (by decide), bd_some, pk_let, nI_1]
    have e : md T st a v M (j + 1) = hld (md T st a v M j + hld r (-9) 9) 0 99 := by
      rw [h3.1]
      rfl
    rw [← e]
    exact ih n (j + 1) S3 _ _ _ (by omega) (by omega) (hs2.tr h3.2.1) h3.2.2
theorem moodC_ok (hN : 5000 ≤ N) (hT : TC N T S) (hk : 13 ≤ kk) (h : stR T (S.1 kk) st) {a v : Nat} (ha : a < 6) (hv : okr v) : pk (f_X7_moodBehind kk N (nI a) (nI v) S) (fun r S' => r = mood T st a v ∧ sC S S') := by
  unfold f_X7_moodBehind
  have e4 : (4 : Int32) + nI a = nI (4 + a) := nI_add 4 a
  rw [size_eq hN, bd_some, rsz_okr hv, e4, pk_gdn (by omega) (by decide), nI_clamp (by omega), pk_let, h.at (k := 4 + a) (j := a) (by omega) (by omega) (by omega)]
  refine pk_bdm (askIn_ok hN) (fun _ S1 h1 => ?_)
  rw [let_5, bd_some]
  have hv1 := vC_5 (v := nI a) h1.2
  rw [h.2.2.1] at hv1
  have := okr_lt hv
  have h5 := rl_le v
  exact moodC_L hN hT (by omega) (rl_le v) (rl v) N 0 _ _ _ _ (by omega) (by omega) (h1.1.tr sC.u7) hv1
end TKC
