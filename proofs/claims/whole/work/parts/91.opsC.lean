/-! ===== more questions: year, third, couple, count ===== -/
section OPC
variable {N : Nat} {T : tx} {st : Nat → Int32} {w : Nat} {seed : Int32}
theorem tkU_ne {b c i n m j : Nat} {mo lv pr fi : Int32} {q : Bool} (hb : b < 6) (hc : c < 3) (hi : i < 4) (hj : 12 ≤ j ∧ j < 18) : tkU st b c i n m mo lv pr fi q j = st j := by
  unfold tkU
  dsimp only
  split
  · simp (disch := omega) only [upd_ne]
  · simp (disch := omega) only [upd_ne]
theorem dec1_ne {a j : Nat} (hj : j ≠ a) : dec1 st a j = st j := by
  unfold dec1
  split
  · rfl
  · rw [upd_ne hj]
theorem cpl_ne (hF : WF T) (hW : WS T w st) {c j : Nat} (hc : c < tC T) (hj : 15 ≤ j ∧ j < 18) (hn : j ≠ 15 + c) : cpl T seed st c j = st j := by
  have hc3 := wf_c hF hc
  unfold cpl
  split
  · rfl
  · have step : ∀ s : Nat → Int32, prt T s c j = s j := fun s => by
      unfold prt
      split
      · rw [upd_ne (by omega), upd_ne hn]
      · rfl
    rw [step]
    split
    · have p0 := wf_p hF hc (x := 0) (by decide)
      have p1 := wf_p hF hc (x := 1) (by decide)
      unfold slt
      rw [dec1_ne (by omega), dec1_ne (by omega), upd_ne (by omega)]
    · rename_i q
      obtain ⟨i, hi, e, e2⟩ := ws_hired hF hW hc q
      rw [e2]
      have hp := wf_p hF hc (x := 1 - par st) (by omega)
      exact tkU_ne hp.1 hc3 (wf_t hF hi) (by omega)
theorem cps_part (hF : WF T) (hW : WS T w st) {c : Nat} (hc : c < tC T) (h1 : st (15 + c) = 1) : ∀ d, d ≤ tC T → cps T seed st d (15 + c) = 1 := by
  intro d
  have hc3 := wf_c hF hc
  induction d with
  | zero => intro _; exact h1
  | succ d ih =>
    intro hd
    have ih := ih (by omega)
    rw [cps]
    by_cases e : d = c
    · subst e
      unfold cpl
      rw [if_pos ih]
      exact ih
    · rw [cpl_ne hF (ws_cps hF hW d (by omega)) (by omega) (by omega) (by omega)]
      exact ih
theorem rss_ne {j : Nat} (hj : 12 ≤ j ∧ j < 18) : ∀ i, rss T st i j = st j := by
  intro i
  induction i with
  | zero => rfl
  | succ i ih =>
    rw [rss, rs1]
    split
    · rw [upd_ne (by omega)]; exact ih
    · exact ih
theorem wk_part (hF : WF T) (hW : WS T w st) {c : Nat} (hc : c < tC T) (h1 : st (15 + c) = 1) : wk T seed st (15 + c) = 1 := by
  have hc3 := wf_c hF hc
  unfold wk
  rw [upd_ne (by omega), rss_ne (by omega)]
  exact cps_part hF hW hc h1 _ (Nat.le_refl _)
theorem wks_part (hF : WF T) (hW : WS T w st) {c : Nat} (hc : c < tC T) {j : Nat} (h1 : wks T seed st j (15 + c) = 1) : ∀ m, wks T seed st (j + m) (15 + c) = 1 := by
  intro m
  induction m with
  | zero => exact h1
  | succ m ih => exact wk_part hF (ws_wks hF hW (j + m)) hc ih
theorem nI_m2 {j : Nat} (hj : j ≤ 10000) : nI j ≠ -2 := by
  intro e
  have := i_inj.mp e
  rw [nI_toInt (by omega)] at this
  have h2 : (-2 : Int32).toInt = -2 := rfl
  omega
theorem wtp_iff (hF : WF T) (hW : WS T w st) {c : Nat} (hc : c < tC T) : ∀ m j, j + m ≤ 10000 → (wtp T seed st c m j = -2 ↔ wks T seed st (j + m) (15 + c) = 0) := by
  intro m
  have hc3 := wf_c hF hc
  induction m with
  | zero =>
    intro j hj
    unfold wtp
    by_cases e : wks T seed st j (15 + c) = 0
    · rw [if_pos e]; exact ⟨fun _ => e, fun _ => rfl⟩
    · rw [if_neg e]; exact ⟨fun q => absurd q (nI_m2 (by omega)), fun q => absurd q e⟩
  | succ m ih =>
    intro j hj
    unfold wtp
    by_cases e : wks T seed st j (15 + c) = 0
    · rw [if_pos e, ih (j + 1) (by omega), show j + 1 + m = j + (m + 1) by omega]
    · rw [if_neg e]
      have e1 : wks T seed st j (15 + c) = 1 := ((ws_wks hF hW j).part hc3).resolve_left e
      have e2 := wks_part hF hW hc e1 (m + 1)
      rw [e2]
      exact ⟨fun q => absurd q (nI_m2 (by omega)), fun q => absurd q (by decide)⟩
def yr (T : tx) (st : Nat → Int32) (c n : Nat) : Nat → Int32
  | 0 => 0
  | k + 1 => if wtp T (tE T + nI k) st c n 0 = -2 then yr T st c n k else yr T st c n k + 1
theorem yrC_L (hN : 5000 ≤ N) {S : rx_S} (hF : WF T) (hT : TC N T S) (h : stR T (S.1 32) st) {M c x : Nat} (hM : M ≤ 60) (hw : w + M < 2 ^ 31) (hW : WS T w st) (hc : c < tC T) (hx : x ≤ 20) : ∀ (m n k : Nat) (S1 : rx_S), k + m = x → m < n → wC 89 S S1 → pk (f_X10_year_L40 N n (nI c) (nI M) (nI x) (yr T st c M k) (nI k) S1) (fun r S' => r = yr T st c M x ∧ wC 89 S S') := by
  intro m
  induction m with
  | zero =>
    intro n k S1 hk hn hs
    obtain ⟨n, rfl⟩ : ∃ q, n = q + 1 := ⟨n - 1, by omega⟩
    rw [f_X10_year_L40, if_pos (nI_le (by omega) (by omega)), pk_some]
    have : k = x := by omega
    rw [this]
    exact ⟨rfl, hs⟩
  | succ m ih =>
    intro n k S1 hk hn hs
    obtain ⟨n, rfl⟩ : ∃ q, n = q + 1 := ⟨n - 1, by omega⟩
    have hT1 := hT.ag (hs.ag (by decide))
    rw [f_X10_year_L40, if_neg (nI_ge (by omega) (by omega)), hT1.1.2.2.2.2.1]
    have h1 : stR T (S1.1 32) st := by rw [hs.1 32 (by decide) (by decide) (by decide)]; exact h
    refine pk_bdm (wtpC_ok (M := M) hN hF hT1 h1 (by omega) hw hW hc) (fun r S2 h2 => ?_)
    rw [h2.1, pk_ite]
    split
    · rename_i q
      rw [pk_let, nI_1]
      have e : yr T st c M (k + 1) = yr T st c M k := by rw [yr, if_pos q]
      rw [← e]
      exact ih n (k + 1) S2 (by omega) (by omega) (hs.tr h2.2)
    · rename_i q
      rw [pk_let, pk_let, nI_1]
      have e : yr T st c M (k + 1) = yr T st c M k + 1 := by rw [yr, if_neg q]
      rw [← e]
      exact ih n (k + 1) S2 (by omega) (by omega) (hs.tr h2.2)
theorem yrM_L (hN : 5000 ≤ N) {S SC : rx_S} (hF : WF T) (hT : TM N T S) (hTC : TC N T SC) (h : stR T (SC.1 32) (S.1 126)) {M c x : Nat} (hM : M ≤ 60) (hw : w + M < 2 ^ 31) (hW : WS T w (S.1 126)) (hc : c < tC T) (hx : x ≤ 20) : ∀ (m n k : Nat) (S1 : rx_S), k + m = x → m < n → iM S S1 → pk (f_X11_year_L33 N n (nI c) (nI M) (nI x) (yr T (S.1 126) c M k) (nI k) S1) (fun r S' => r = yr T (S.1 126) c M x ∧ iM S S') := by
  intro m
  have hc3 := wf_c hF hc
  have c15 : (15 : Int32) + nI c = nI (15 + c) := nI_add 15 c
  induction m with
  | zero =>
    intro n k S1 hk hn hs
    obtain ⟨n, rfl⟩ : ∃ q, n = q + 1 := ⟨n - 1, by omega⟩
    rw [f_X11_year_L33, if_pos (nI_le (by omega) (by omega)), pk_some]
    have : k = x := by omega
    rw [this]
    exact ⟨rfl, hs⟩
  | succ m ih =>
    intro n k S1 hk hn hs
    obtain ⟨n, rfl⟩ : ∃ q, n = q + 1 := ⟨n - 1, by omega⟩
    have hT1 := hT.ag hs.ag
    rw [f_X11_year_L33, if_neg (nI_ge (by omega) (by omega))]
    obtain ⟨u, S2, e2, hcp⟩ := copies_ok hN hT1
    have hcp : cM T S1 S2 := hcp
    have e126 : S1.1 126 = S.1 126 := hs.row (by omega)
    rw [e2, bd_some, pk_let, hcp.2.1]
    have w3 : iM S2 (rx_ui S2 94 51 (tE T + nI k)) := ⟨fun k j hk => by
      rw [ui_get]
      split
      · rename_i e; subst e
        rw [if_neg (by unfold kpM at hk; omega)]
      · rfl, rfl⟩
    have r3 : (rx_ui S2 94 51 (tE T + nI k)).1 127 = S2.1 127 := ui_row (by decide)
    have l3 : (rx_ui S2 94 51 (tE T + nI k)).1 94 51 = tE T + nI k := by rw [ui_same, upd_at]
    have hW2 : WS T w (S2.1 127) := hcp.ws (by rw [e126]; exact hW)
    have hR2 : stR T (SC.1 32) (S2.1 127) := hcp.st (by rw [e126]; exact h)
    have hs3 := (hs.tr hcp.i).tr w3
    refine pk_bdm (goes_ok (M := M) hN hF (hT.ag hs3.ag) (by omega) hw (by rw [r3]; exact hW2)) (fun _ S4 h4 => ?_)
    rw [r3, l3] at h4
    rw [c15, pk_gdn (by omega) (by decide), pk_let, pk_let, nI_1, nI_clamp (by omega), h4.1]
    have same : wtp T (tE T + nI k) (S2.1 127) c M 0 = wtp T (tE T + nI k) (S.1 126) c M 0 := by
      obtain ⟨r1, Sx, ex, hr1, -⟩ := wtpC_ok (M := M) (seed := tE T + nI k) hN hF hTC hR2 (by omega) hw hW2 hc
      obtain ⟨r2, Sy, ey, hr2, -⟩ := wtpC_ok (M := M) (seed := tE T + nI k) hN hF hTC h (by omega) hw hW hc
      rw [ex] at ey
      cases ey
      rw [← hr1, ← hr2]
    have hif := wtp_iff (seed := tE T + nI k) hF hW2 hc M 0 (by omega)
    rw [Nat.zero_add, same] at hif
    have e : yr T (S.1 126) c M k + wks T (tE T + nI k) (S2.1 127) M (15 + c) = yr T (S.1 126) c M (k + 1) := by
      rw [yr]
      rcases (ws_wks hF hW2 (seed := tE T + nI k) M).part hc3 with z | z
      · rw [if_pos (hif.mpr z), z, Int32.add_zero]
      · rw [if_neg (fun q => by rw [hif.mp q] at z; exact absurd z (by decide)), z]
    rw [e]
    exact ih n (k + 1) S4 (by omega) (by omega) (hs3.tr h4.2.i)
theorem st_year (hN : 5000 ≤ N) : ST_year N (Inv N) := by
  intro n SC SM hn h x1 x2 x3
  obtain ⟨-, -, -, -, -, T, ⟨hF, hC, hM⟩, ⟨hR, w, hw, hW⟩, -, -⟩ := id h
  unfold f_X10_year f_X11_year
  have no : ∃ r SC' SM', (some ((-1 : Int32), SC) : Option (Int32 × rx_S)) = some (r, SC') ∧ (some ((-1 : Int32), SM) : Option (Int32 × rx_S)) = some (r, SM') ∧ Inv N (n + 1) SC' SM' := st_q (R := -1) h (by rw [pk_some]; exact ⟨rfl, iC.rf⟩) (by rw [pk_some]; exact ⟨rfl, iM.rf⟩)
  rcases couple_cases hF hC hM x1 with ⟨c, hcc, rfl, e1, e2⟩ | ⟨e1, e2⟩
  · rw [e1, bd_some, if_neg (show ¬ (1 : Int32) = 0 by decide), e2, bd_some, if_neg (show ¬ (1 : Int32) = 0 by decide)]
    rcases long_cases (SM := SM) x2 with ⟨m, hm, rfl, q1, q2, e3⟩ | ⟨q, e3⟩
    · rw [if_neg q1, if_neg (i_nlt.mpr q2), e3, bd_some, if_neg (show ¬ (1 : Int32) = 0 by decide), in_eq, bd_some]
      by_cases q : (1 : Int32) ≤ x3 ∧ x3 ≤ 20
      · obtain ⟨x, hx, rfl⟩ := nI_of' (x := x3) (by
          have h1 := q.1
          rw [i_le] at h1 ⊢
          have : (1 : Int32).toInt = 1 := rfl
          have : (0 : Int32).toInt = 0 := rfl
          omega)
        have hx20 : x ≤ 20 := (nI_leI (b := 20) hx (by decide)).mp q.2
        rw [if_pos q, if_neg (i_nlt.mpr q.1), if_pos q.2, if_neg (show ¬ (1 : Int32) = 0 by decide)]
        refine st_q (R := yr T (SM.1 126) c m x) h ?_ ?_
        · exact pk_mono (yrC_L (M := m) hN hF hC hR (by omega) (by omega) hW hcc hx20 x N 0 SC (by omega) (by omega) wC.rf) (fun r S' h2 => ⟨h2.1, h2.2.i nk89⟩)
        · exact yrM_L (M := m) hN hF hM hC hR (by omega) (by omega) hW hcc hx20 x N 0 SM (by omega) (by omega) iM.rf
      · rw [if_neg q, if_pos rfl]
        have e : (if x3 < 1 then (some ((-1 : Int32), SC) : Option (Int32 × rx_S)) else if x3 ≤ 20 then f_X10_year_L40 N N (nI c) (nI m) x3 0 0 SC else some (-1, SC)) = some (-1, SC) := by
          by_cases z : x3 < 1
          · rw [if_pos z]
          · rw [if_neg z, if_neg (fun y => q ⟨i_nlt.mp z, y⟩)]
        rw [e]
        exact no
    · have e : ∀ A : Option (Int32 × rx_S), (if x2 < 0 then some ((-1 : Int32), SC) else if 60 < x2 then some (-1, SC) else A) = some (-1, SC) := fun A => by
        by_cases z : x2 < 0
        · rw [if_pos z]
        · rw [if_neg z, if_pos (i_nle.mp (q.resolve_left z))]
      rw [e, e3, bd_some, if_pos rfl]
      exact no
  · rw [e1, bd_some, if_pos rfl, e2, bd_some, if_pos rfl]
    exact no
end OPC
