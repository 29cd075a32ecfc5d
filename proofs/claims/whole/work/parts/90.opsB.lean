/-! ===== what would come ===== -/
section OPB
variable {N : Nat}
theorem cpy_get {f g : Nat → Int32} {j : Nat} (hj : j < 48) : va_cpy f g 0 0 48 j = f j := by
  unfold va_cpy
  simp [hj]
theorem stR.cpy {T : tx} {R g st : Nat → Int32} (h : stR T R st) : stR T (va_cpy R g 0 0 48) st := by
  obtain ⟨h1, h2, h3, h4, h5, h6⟩ := h
  refine ⟨fun q hq hq2 => ?_, fun c hc hc3 => ?_, ?_, ?_, ?_, ?_⟩
  · rw [cpy_get (by omega)]; exact h1 q hq hq2
  · rw [cpy_get (by omega)]; exact h2 c hc hc3
  · rw [cpy_get (by omega)]; exact h3
  · rw [cpy_get (by omega)]; exact h4
  · rw [cpy_get (by omega)]; exact h5
  · rw [cpy_get (by omega)]; exact h6
theorem ur_same {S : rx_S} {k : Nat} {f : Nat → Int32} : (rx_ur S k f).1 k = f := by rw [ur_get, if_pos rfl]
theorem nk89 : ¬ kpC 89 := by unfold kpC; omega
theorem behind_L (hN : 5000 ≤ N) {T : tx} {S : rx_S} {st : Nat → Int32} (hF : WF T) (hT : TC N T S) {w M : Nat} (hM : M ≤ 4000) (hw : w + M < 2 ^ 31) (hW : WS T w st) : ∀ (m n j : Nat) (S1 : rx_S), j + m = M → m < n → wC 89 S S1 → stR T (S1.1 89) (wks T (tE T) st j) → pk (f_X0_behind_L14 N n (nI M) (nI j) S1) (fun _ S' => stR T (S'.1 89) (wks T (tE T) st M) ∧ wC 89 S S') := by
  intro m
  induction m with
  | zero =>
    intro n j S1 hj hn hs h1
    obtain ⟨n, rfl⟩ : ∃ q, n = q + 1 := ⟨n - 1, by omega⟩
    rw [f_X0_behind_L14, if_pos (nI_le (by omega) (by omega)), pk_some]
    have : j = M := by omega
    rw [this] at h1
    exact ⟨h1, hs⟩
  | succ m ih =>
    intro n j S1 hj hn hs h1
    obtain ⟨n, rfl⟩ : ∃ q, n = q + 1 := ⟨n - 1, by omega⟩
    have hT1 := hT.ag (hs.ag (by decide))
    rw [f_X0_behind_L14, if_neg (nI_ge (by omega) (by omega)), hT1.1.2.2.2.2.1]
    refine pk_bdm (weekC_ok hN hF hT1 (by decide) h1 (w := w + j) (by omega) (ws_wks hF hW j)) (fun _ S2 h2 => ?_)
    rw [pk_let, nI_1]
    exact ih n (j + 1) S2 (by omega) (by omega) (hs.tr h2.2) h2.1
theorem behind_ok (hN : 5000 ≤ N) {T : tx} {S : rx_S} {st : Nat → Int32} (hF : WF T) (hT : TC N T S) (h : stR T (S.1 32) st) {w M : Nat} (hM : M ≤ 4000) (hw : w + M < 2 ^ 31) (hW : WS T w st) : pk (f_X0_behind N (nI M) S) (fun _ S' => stR T (S'.1 89) (wks T (tE T) st M) ∧ wC 89 S S') := by
  unfold f_X0_behind
  rw [pk_let]
  have hs : wC 89 S (rx_ur S 89 (va_cpy (S.1 32) (S.1 89) 0 0 48)) := ⟨fun k _ _ hk => by rw [ur_get, if_neg hk], rfl⟩
  exact behind_L hN hF hT hM hw hW M N 0 _ (by omega) (by omega) hs (by rw [ur_same]; exact h.cpy)
theorem long_cases {SM : rx_S} (x : Int32) : (∃ m, m ≤ 60 ∧ x = nI m ∧ ¬ x < 0 ∧ x ≤ 60 ∧ f_X11_isLong x SM = some (1, SM)) ∨ ((x < 0 ∨ ¬ x ≤ 60) ∧ f_X11_isLong x SM = some (0, SM)) := by
  unfold f_X11_isLong
  rw [in_eq, bd_some]
  rcases rng_cases (x := x) (y := 60) (m := 60) (by decide) rfl with ⟨w, hw, hx, h⟩ | h
  · rw [if_pos h]
    exact Or.inl ⟨w, hw, hx, i_nlt.mpr h.1, h.2, rx_bl_in (Or.inr rfl)⟩
  · rw [if_neg h]
    refine Or.inr ⟨?_, rx_bl_in (Or.inl rfl)⟩
    by_cases q : x < 0
    · exact Or.inl q
    · exact Or.inr (fun z => h ⟨i_nlt.mp q, z⟩)
theorem if_long {α : Type} {x : Int32} {A B : α} (h : x < 0 ∨ ¬ x ≤ 60) : (if x < 0 then B else if x ≤ 60 then A else B) = B := by
  by_cases q : x < 0
  · rw [if_pos q]
  · rw [if_neg q, if_neg (h.resolve_left q)]
theorem st_then (hN : 5000 ≤ N) : ST_then N (Inv N) := by
  intro n SC SM hn h x1 x2
  obtain ⟨-, -, -, -, -, T, ⟨hF, hC, hM⟩, ⟨hR, w, hw, hW⟩, -, -⟩ := id h
  unfold f_X10_then f_X11_then
  have no : ∃ r SC' SM', (some ((-1 : Int32), SC) : Option (Int32 × rx_S)) = some (r, SC') ∧ (some ((-1 : Int32), SM) : Option (Int32 × rx_S)) = some (r, SM') ∧ Inv N (n + 1) SC' SM' := st_q (R := -1) h (by rw [pk_some]; exact ⟨rfl, iC.rf⟩) (by rw [pk_some]; exact ⟨rfl, iM.rf⟩)
  rcases spouse_cases hF hC hM x1 with ⟨a, ha, rfl, e1, e2⟩ | ⟨e1, e2⟩
  · rw [e1, bd_some, if_neg (show ¬ (1 : Int32) = 0 by decide), e2, bd_some, if_neg (show ¬ (1 : Int32) = 0 by decide)]
    have ha6 := wf_s hF ha
    rcases long_cases (SM := SM) x2 with ⟨m, hm, rfl, q1, q2, e3⟩ | ⟨q, e3⟩
    · rw [if_neg q1, if_pos q2, e3, bd_some, if_neg (show ¬ (1 : Int32) = 0 by decide)]
      obtain ⟨u, S1, e4, hc⟩ := copies_ok hN hM
      have hc : cM T SM S1 := hc
      rw [e4, bd_some]
      have c4 : (4 : Int32) + nI a = nI (4 + a) := nI_add 4 a
      refine st_q (R := wks T (tE T) (S1.1 127) m a) h ?_ ?_
      · refine pk_bdm (behind_ok hN hF hC (hc.st hR) (M := m) (by omega) (w := w) (by omega) (hc.ws hW)) (fun _ S2 h2 => ?_)
        rw [c4, pk_gdn (by omega) (by decide), pk_some, nI_clamp (by omega)]
        exact ⟨h2.1.at (by omega) (by omega) (by omega), h2.2.i nk89⟩
      · refine pk_bdm (goes_ok hN hF (hM.ag hc.i.ag) (M := m) (by omega) (w := w) (by omega) (hc.ws hW)) (fun _ S2 h2 => ?_)
        rw [pk_gdn (by omega) (by decide), pk_some, nI_clamp (by omega), h2.1, hc.2.1]
        exact ⟨rfl, hc.i.tr h2.2.i⟩
    · rw [if_long q, e3, bd_some, if_pos rfl]
      exact no
  · rw [e1, bd_some, if_pos rfl, e2, bd_some, if_pos rfl]
    exact no
theorem st_paid (hN : 5000 ≤ N) : ST_paid N (Inv N) := by
  intro n SC SM hn h x1 x2 x3
  obtain ⟨-, -, -, -, -, T, ⟨hF, hC, hM⟩, ⟨hR, w, hw, hW⟩, -, -⟩ := id h
  unfold f_X10_paid f_X11_paid
  have no : ∃ r SC' SM', (some ((-100000 : Int32), SC) : Option (Int32 × rx_S)) = some (r, SC') ∧ (some ((-100000 : Int32), SM) : Option (Int32 × rx_S)) = some (r, SM') ∧ Inv N (n + 1) SC' SM' := st_q (R := -100000) h (by rw [pk_some]; exact ⟨rfl, iC.rf⟩) (by rw [pk_some]; exact ⟨rfl, iM.rf⟩)
  rcases third_cases hF hC hM x1 with ⟨i, hi, rfl, e1, e2⟩ | ⟨e1, e2⟩
  · rw [e1, bd_some, if_neg (show ¬ (1 : Int32) = 0 by decide), e2, bd_some, if_neg (show ¬ (1 : Int32) = 0 by decide)]
    have hi4 := wf_t hF hi
    rcases long_cases (SM := SM) x2 with ⟨m, hm, rfl, q1, q2, e3⟩ | ⟨q, e3⟩
    · rw [if_neg q1, if_pos q2, e3, bd_some, if_neg (show ¬ (1 : Int32) = 0 by decide), in_eq, bd_some]
      obtain ⟨u, S1, e4, hc⟩ := copies_ok hN hM
      have hc : cM T SM S1 := hc
      have cls : ∀ (k j : Nat), k = j + 4 → j < 44 → ¬ (12 ≤ j ∧ j < 15) → pk (rx_bd (f_X0_behind N (nI m) SC) (fun _ S12 => rx_gd (nI k) 48 (some ((S12.1 89 (Int32.toNatClampNeg (nI k))), S12)))) (fun r S' => r = wks T (tE T) (S1.1 127) m j ∧ iC SC S') := by
        intro k j hk hj hn
        refine pk_bdm (behind_ok hN hF hC (hc.st hR) (M := m) (by omega) (w := w) (by omega) (hc.ws hW)) (fun _ S2 h2 => ?_)
        rw [pk_gdn (by omega) (by decide), pk_some, nI_clamp (by omega)]
        exact ⟨h2.1.at hk hj hn, h2.2.i nk89⟩
      have ref : ∀ (j : Nat), j < 44 → pk (rx_bd (f_X11_goes N (nI m) S1) (fun _ S20 => rx_gd (nI j) 48 (some ((S20.1 127 (Int32.toNatClampNeg (nI j))), S20)))) (fun r S' => r = wks T (tE T) (S1.1 127) m j ∧ iM SM S') := by
        intro j hj
        refine pk_bdm (goes_ok hN hF (hM.ag hc.i.ag) (M := m) (by omega) (w := w) (by omega) (hc.ws hW)) (fun _ S2 h2 => ?_)
        rw [pk_gdn (by omega) (by decide), pk_some, nI_clamp (by omega), h2.1, hc.2.1]
        exact ⟨rfl, hc.i.tr h2.2.i⟩
      have c40 : (40 : Int32) + nI i = nI (40 + i) := nI_add 40 i
      have c28 : (28 : Int32) + nI i = nI (28 + i) := nI_add 28 i
      have c32 : (32 : Int32) + nI i = nI (32 + i) := nI_add 32 i
      have c36 : (36 : Int32) + nI i = nI (36 + i) := nI_add 36 i
      have d24 : (20 : Int32) + (4 : Int32) * 1 + nI i = nI (24 + i) := nI_add 24 i
      have d28 : (20 : Int32) + (4 : Int32) * 2 + nI i = nI (28 + i) := nI_add 28 i
      by_cases q0 : x3 = 0
      · subst q0
        rw [if_pos rfl, if_neg (by decide), e4, bd_some]
        simp only [if_true]
        rw [c40, c36]
        exact st_q h (cls (40 + i) (36 + i) (by omega) (by omega) (by omega)) (ref (36 + i) (by omega))
      rw [if_neg q0]
      by_cases q1 : x3 = 1
      · subst q1
        rw [if_pos rfl, if_neg (by decide), e4, bd_some]
        simp only [if_neg (show ¬ (1 : Int32) = 0 by decide)]
        rw [c28, d24]
        exact st_q h (cls (28 + i) (24 + i) (by omega) (by omega) (by omega)) (ref (24 + i) (by omega))
      rw [if_neg q1]
      by_cases q2 : x3 = 2
      · subst q2
        rw [if_pos rfl, if_neg (by decide), e4, bd_some]
        simp only [if_neg (show ¬ (2 : Int32) = 0 by decide)]
        rw [c32, d28]
        exact st_q h (cls (32 + i) (28 + i) (by omega) (by omega) (by omega)) (ref (28 + i) (by omega))
      rw [if_neg q2]
      rcases rng_cases (x := x3) (y := 2) (m := 2) (by decide) rfl with ⟨z, hz, hx, -⟩ | hz
      · exfalso
        rcases (show z = 0 ∨ z = 1 ∨ z = 2 by omega) with e | e | e
        · rw [e] at hx; exact q0 hx
        · rw [e] at hx; exact q1 hx
        · rw [e] at hx; exact q2 hx
      · rw [if_neg hz, if_pos rfl]
        exact no
    · rw [if_long q, e3, bd_some, if_pos rfl]
      exact no
  · rw [e1, bd_some, if_pos rfl, e2, bd_some, if_pos rfl]
    exact no
/-- weeks until a couple parts: m weeks are left, j are gone -/
def wtp (T : tx) (seed : Int32) (st : Nat → Int32) (c : Nat) : Nat → Nat → Int32
  | 0, j => if wks T seed st j (15 + c) = 0 then -2 else nI j
  | m + 1, j => if wks T seed st j (15 + c) = 0 then wtp T seed st c m (j + 1) else nI j
theorem wtpC_L (hN : 5000 ≤ N) {T : tx} {S : rx_S} {st : Nat → Int32} (hF : WF T) (hT : TC N T S) {w M c : Nat} {seed : Int32} (hM : M ≤ 4000) (hw : w + M < 2 ^ 31) (hW : WS T w st) (hc : c < tC T) : ∀ (m n j : Nat) (S1 : rx_S), j + m = M → m < n → wC 89 S S1 → stR T (S1.1 89) (wks T seed st j) → pk (f_X0_weeksToPart_L15 N (fun (x7 : Int32) (x8 : Int32) (S9 : rx_S) => rx_gd ((19 : Int32) + x7) 48 (if (S9.1 89 (Int32.toNatClampNeg ((19 : Int32) + x7))) = 0 then (some ((-2), S9)) else (some (x8, S9)))) n (nI c) (nI M) seed (nI j) S1) (fun r S' => r = wtp T seed st c m j ∧ wC 89 S S') := by
  intro m
  have hc3 := wf_c hF hc
  have c19 : (19 : Int32) + nI c = nI (19 + c) := nI_add 19 c
  induction m with
  | zero =>
    intro n j S1 hj hn hs h1
    obtain ⟨n, rfl⟩ : ∃ q, n = q + 1 := ⟨n - 1, by omega⟩
    rw [f_X0_weeksToPart_L15, if_pos (nI_le (by omega) (by omega)), c19, pk_gdn (by omega) (by decide), nI_clamp (by omega), h1.at (k := 19 + c) (j := 15 + c) (by omega) (by omega) (by omega), pk_ite, pk_some, pk_some]
    unfold wtp
    have : j = M := by omega
    rw [this]
    split
    · exact ⟨rfl, hs⟩
    · exact ⟨rfl, hs⟩
  | succ m ih =>
    intro n j S1 hj hn hs h1
    obtain ⟨n, rfl⟩ : ∃ q, n = q + 1 := ⟨n - 1, by omega⟩
    have hT1 := hT.ag (hs.ag (by decide))
    rw [f_X0_weeksToPart_L15, if_neg (nI_ge (by omega) (by omega)), c19, pk_gdn (by omega) (by decide), nI_clamp (by omega), h1.at (k := 19 + c) (j := 15 + c) (by omega) (by omega) (by omega), pk_ite]
    unfold wtp
    split
    · rename_i q
      refine pk_bdm (weekC_ok hN hF hT1 (by decide) h1 (w := w + j) (by omega) (ws_wks hF hW j)) (fun _ S2 h2 => ?_)
      rw [pk_let, nI_1]
      exact ih n (j + 1) S2 (by omega) (by omega) (hs.tr h2.2) h2.1
    · rw [pk_some]
      exact ⟨rfl, hs⟩
theorem wtpC_ok (hN : 5000 ≤ N) {T : tx} {S : rx_S} {st : Nat → Int32} (hF : WF T) (hT : TC N T S) (h : stR T (S.1 32) st) {w M c : Nat} {seed : Int32} (hM : M ≤ 4000) (hw : w + M < 2 ^ 31) (hW : WS T w st) (hc : c < tC T) : pk (f_X0_weeksToPart N (nI c) (nI M) seed S) (fun r S' => r = wtp T seed st c M 0 ∧ wC 89 S S') := by
  unfold f_X0_weeksToPart
  rw [pk_let, pk_let]
  have hs : wC 89 S (rx_ur S 89 (va_cpy (S.1 32) (S.1 89) 0 0 48)) := ⟨fun k _ _ hk => by rw [ur_get, if_neg hk], rfl⟩
  exact wtpC_L hN hF hT hM hw hW hc M N 0 _ (by omega) (by omega) hs (by rw [ur_same]; exact h.cpy)
theorem wtpM_L (hN : 5000 ≤ N) {T : tx} {S : rx_S} (hF : WF T) (hT : TM N T S) {w c : Nat} (hw : w + 300 < 2 ^ 31) (hW : WS T w (S.1 127)) (hc : c < tC T) : ∀ (m n j : Nat) (S1 : rx_S), j + m = 200 → m + 1 < n → wM S S1 → S1.1 127 = wks T (S.1 94 51) (S.1 127) j → pk (f_X11_parts_L16 N n (nI c) (nI j) S1) (fun r S' => r = wtp T (S.1 94 51) (S.1 127) c m j ∧ wM S S') := by
  intro m
  have hc3 := wf_c hF hc
  have c15 : (15 : Int32) + nI c = nI (15 + c) := nI_add 15 c
  have part : ∀ j, wks T (S.1 94 51) (S.1 127) j (15 + c) = 1 ↔ ¬ wks T (S.1 94 51) (S.1 127) j (15 + c) = 0 := by
    intro j
    rcases (ws_wks hF hW (seed := S.1 94 51) j).part hc3 with e | e
    · rw [e]; decide
    · rw [e]; decide
  induction m with
  | zero =>
    intro n j S1 hj hn hs h1
    obtain ⟨n, rfl⟩ : ∃ q, n = q + 1 + 1 := ⟨n - 2, by omega⟩
    rw [f_X11_parts_L16, if_neg (show ¬ (200 : Int32) < nI j from nI_nlt (b := 200) (a := 200) (by omega) (by decide) |> fun q => by have : j = 200 := by omega
                                                                                                                                     rw [this]; exact q), c15, pk_gdn (by omega) (by decide), nI_clamp (by omega), h1, pk_ite]
    unfold wtp
    split
    · rename_i q
      rw [pk_some, if_neg ((part j).mp q)]
      exact ⟨rfl, hs⟩
    · rename_i q
      have q0 : wks T (S.1 94 51) (S.1 127) j (15 + c) = 0 := Classical.byContradiction (fun z => q ((part j).mpr z))
      refine pk_bdm (weekGoes_ok hN hF (hT.ag hs.ag) (w := w + j) (by omega) (by rw [h1]; exact ws_wks hF hW j)) (fun _ S2 h2 => ?_)
      rw [pk_let, nI_1, f_X11_parts_L16, if_pos (show (200 : Int32) < nI (j + 1) from nI_lt (a := 200) (by omega) (by omega)), pk_some, if_pos q0]
      exact ⟨rfl, hs.tr h2.2⟩
  | succ m ih =>
    intro n j S1 hj hn hs h1
    obtain ⟨n, rfl⟩ : ∃ q, n = q + 1 := ⟨n - 1, by omega⟩
    rw [f_X11_parts_L16, if_neg (show ¬ (200 : Int32) < nI j from nI_nlt (a := 200) (b := j) (by omega) (by decide)), c15, pk_gdn (by omega) (by decide), nI_clamp (by omega), h1, pk_ite]
    unfold wtp
    split
    · rename_i q
      rw [pk_some, if_neg ((part j).mp q)]
      exact ⟨rfl, hs⟩
    · rename_i q
      have q0 : wks T (S.1 94 51) (S.1 127) j (15 + c) = 0 := Classical.byContradiction (fun z => q ((part j).mpr z))
      refine pk_bdm (weekGoes_ok hN hF (hT.ag hs.ag) (w := w + j) (by omega) (by rw [h1]; exact ws_wks hF hW j)) (fun _ S2 h2 => ?_)
      rw [pk_let, nI_1, if_pos q0]
      refine ih n (j + 1) S2 (by omega) (by omega) (hs.tr h2.2) ?_
      rw [h2.1, h1, hs.fld (by decide)]
      rfl
theorem st_parts (hN : 5000 ≤ N) : ST_parts N (Inv N) := by
  intro n SC SM hn h x1
  obtain ⟨-, -, -, -, -, T, ⟨hF, hC, hM⟩, ⟨hR, w, hw, hW⟩, -, -⟩ := id h
  unfold f_X10_parts f_X11_parts
  rcases couple_cases hF hC hM x1 with ⟨c, hcc, rfl, e1, e2⟩ | ⟨e1, e2⟩
  · rw [e1, bd_some, if_neg (show ¬ (1 : Int32) = 0 by decide), e2, bd_some, if_neg (show ¬ (1 : Int32) = 0 by decide)]
    obtain ⟨u, S1, e4, hc⟩ := copies_ok hN hM
    have hc : cM T SM S1 := hc
    rw [e4, bd_some, hC.1.2.2.2.2.1]
    refine st_q (R := wtp T (tE T) (S1.1 127) c 200 0) h ?_ ?_
    · refine pk_bdm (wtpC_ok (M := 200) hN hF hC (hc.st hR) (by decide) (w := w) (by omega) (hc.ws hW) hcc) (fun r S2 h2 => ?_)
      rw [pk_some]
      exact ⟨h2.1, h2.2.i nk89⟩
    · have := wtpM_L hN hF (hM.ag hc.i.ag) (w := w) (by omega) (hc.ws hW) hcc 200 N 0 S1 rfl (by omega) wM.rf rfl
      rw [hc.2.1] at this
      exact pk_mono this (fun r S' h2 => ⟨h2.1, hc.i.tr h2.2.i⟩)
  · rw [e1, bd_some, if_pos rfl, e2, bd_some, if_pos rfl]
    exact st_q (R := -1) h (by rw [pk_some]; exact ⟨rfl, iC.rf⟩) (by rw [pk_some]; exact ⟨rfl, iM.rf⟩)
end OPB
