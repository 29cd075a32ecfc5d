/-! ===== questions ===== -/
section OPA
variable {N : Nat}
theorem st_place : ST_place N (Inv N) := by
  intro n SC SM hn h
  have hp := h.2.1
  refine st_q (R := SC.1 0 2) h ?_ ?_
  · unfold f_X10_place
    rw [pk_some]
    exact ⟨rfl, iC.rf⟩
  · unfold f_X11_place
    rw [pk_some]
    exact ⟨hp.symm, iM.rf⟩
theorem st_spouse (hN : 5000 ≤ N) : ST_spouse N (Inv N) := by
  intro n SC SM hn h x1 x2
  obtain ⟨-, -, -, -, -, T, ⟨hF, hC, hM⟩, ⟨hR, w, hw, hW⟩, -, -⟩ := id h
  rcases spouse_cases hF hC hM x1 with ⟨a, ha, rfl, e1, e2⟩ | ⟨e1, e2⟩
  · obtain ⟨u, S1, e3, hc⟩ := copies_ok hN hM
    have hc : cM T SM S1 := hc
    have ha6 := wf_s hF ha
    have hW1 := hc.ws hW
    have hR1 := hc.st hR
    have hM1 := hM.ag hc.i.ag
    obtain ⟨lv, hlv, t⟩ := hM1.1
    have c4 : (4 : Int32) + nI a = nI (4 + a) := nI_add 4 a
    have c10 : (10 : Int32) + nI a = nI (10 + a) := nI_add 10 a
    have c6 : (6 : Int32) + nI a = nI (6 + a) := nI_add 6 a
    have cl : (6 : Int32) * nI lv + nI a = nI (6 * lv + a) := by
      have : (6 : Int32) * nI lv = nI (6 * lv) := nI_mul 6 lv
      rw [this, nI_add]
    unfold f_X10_spouse f_X11_spouse
    rw [e1, bd_some, if_neg (show ¬ (1 : Int32) = 0 by decide), e2, bd_some, if_neg (show ¬ (1 : Int32) = 0 by decide), e3, bd_some]
    by_cases q0 : x2 = 0
    · rw [if_pos q0, if_pos q0]
      refine st_q (R := S1.1 127 a) h ?_ ?_
      · rw [c4, pk_gdn (by omega) (by decide), pk_some, nI_clamp (by omega)]
        exact ⟨hR1.at (by omega) (by omega) (by omega), iC.rf⟩
      · rw [pk_gdn (by omega) (by decide), pk_some, nI_clamp (by omega)]
        exact ⟨rfl, hc.i⟩
    rw [if_neg q0, if_neg q0]
    by_cases q1 : x2 = 1
    · rw [if_pos q1, if_pos q1]
      refine st_q (R := tO T a) h ?_ ?_
      · rw [pk_gdn ha6 (by decide), pk_some, nI_clamp (by omega)]
        exact ⟨(hC.1.2.2.2.2.2.1 a ha).2, iC.rf⟩
      · rw [t.1, cl, pk_gdn (by omega) (by decide), pk_some, nI_clamp (by omega)]
        exact ⟨(t.2.2.2.2.2.2.1 a ha).2, hc.i⟩
    rw [if_neg q1, if_neg q1]
    by_cases q2 : x2 = 2
    · rw [if_pos q2, if_pos q2]
      refine st_q (R := nI (sd T (S1.1 127) a)) h ?_ ?_
      · refine pk_bdm (rowOf_ok hN hC (by decide) hR1 ha6) (fun r S2 h2 => ?_)
        rw [pk_some]
        exact ⟨h2.1, h2.2.i⟩
      · refine pk_bdm (saidBy_ok hN hM1 (by omega)) (fun r S2 h2 => ?_)
        rw [pk_some]
        exact ⟨h2.1, hc.i.tr h2.2.i⟩
    rw [if_neg q2, if_neg q2]
    by_cases q3 : x2 = 3
    · rw [if_pos q3, if_pos q3]
      refine st_q (R := S1.1 127 (6 + a)) h ?_ ?_
      · rw [c10, pk_gdn (by omega) (by decide), pk_some, nI_clamp (by omega)]
        exact ⟨hR1.at (by omega) (by omega) (by omega), iC.rf⟩
      · rw [c6, pk_gdn (by omega) (by decide), pk_some, nI_clamp (by omega)]
        exact ⟨rfl, hc.i⟩
    rw [if_neg q3, if_neg q3]
    exact st_q (R := -1) h (by rw [pk_some]; exact ⟨rfl, iC.rf⟩) (by rw [pk_some]; exact ⟨rfl, hc.i⟩)
  · unfold f_X10_spouse f_X11_spouse
    rw [e1, bd_some, if_pos rfl, e2, bd_some, if_pos rfl]
    exact st_q (R := -1) h (by rw [pk_some]; exact ⟨rfl, iC.rf⟩) (by rw [pk_some]; exact ⟨rfl, iM.rf⟩)
theorem st_bends (hN : 5000 ≤ N) : ST_bends N (Inv N) := by
  intro n SC SM hn h x1 x2 x3
  obtain ⟨-, -, -, -, -, T, ⟨hF, hC, hM⟩, ⟨hR, w, hw, hW⟩, -, -⟩ := id h
  unfold f_X10_bends f_X11_bends
  have no : ∃ r SC' SM', (some ((-1 : Int32), SC) : Option (Int32 × rx_S)) = some (r, SC') ∧ (some ((-1 : Int32), SM) : Option (Int32 × rx_S)) = some (r, SM') ∧ Inv N (n + 1) SC' SM' := st_q (R := -1) h (by rw [pk_some]; exact ⟨rfl, iC.rf⟩) (by rw [pk_some]; exact ⟨rfl, iM.rf⟩)
  rcases third_cases hF hC hM x1 with ⟨i, hi, rfl, e1, e2⟩ | ⟨e1, e2⟩
  · rw [e1, bd_some, if_neg (show ¬ (1 : Int32) = 0 by decide), e2, bd_some, if_neg (show ¬ (1 : Int32) = 0 by decide)]
    rcases word_cases (SC := SC) (SM := SM) x2 with ⟨a, ha, rfl, e1, e2⟩ | ⟨e1, e2⟩
    · rw [e1, bd_some, if_neg (show ¬ (1 : Int32) = 0 by decide), e2, bd_some, if_neg (show ¬ (1 : Int32) = 0 by decide)]
      rcases place_cases (SC := SC) (SM := SM) x3 with ⟨p, hp, rfl, e1, e2⟩ | ⟨e1, e2⟩
      · rw [e1, bd_some, if_neg (show ¬ (1 : Int32) = 0 by decide), e2, bd_some, if_neg (show ¬ (1 : Int32) = 0 by decide)]
        obtain ⟨u, S1, e3, hc⟩ := copies_ok hN hM
        have hc : cM T SM S1 := hc
        rw [e3, bd_some]
        refine st_q (R := nI (pt T (S1.1 127) i a p)) h ?_ ?_
        · refine pk_bdm (putWord_ok hN hF hC (by decide) (hc.st hR) (hc.ws hW) hi) (fun r S2 h2 => ?_)
          rw [pk_some]
          exact ⟨h2.1, h2.2.i⟩
        · refine pk_bdm (putAs_ok hN hF (hM.ag hc.i.ag) hi) (fun r S2 h2 => ?_)
          rw [pk_some]
          exact ⟨h2.1, hc.i.tr h2.2.i⟩
      · rw [e1, bd_some, if_pos rfl, e2, bd_some, if_pos rfl]
        exact no
    · rw [e1, bd_some, if_pos rfl, e2, bd_some, if_pos rfl]
      exact no
  · rw [e1, bd_some, if_pos rfl, e2, bd_some, if_pos rfl]
    exact no
theorem st_heard (hN : 5000 ≤ N) : ST_heard N (Inv N) := by
  intro n SC SM hn h x1 x2
  obtain ⟨-, -, -, -, -, T, ⟨hF, hC, hM⟩, ⟨hR, w, hw, hW⟩, -, -⟩ := id h
  unfold f_X10_heard f_X11_heard
  have no : ∃ r SC' SM', (some ((-1 : Int32), SC) : Option (Int32 × rx_S)) = some (r, SC') ∧ (some ((-1 : Int32), SM) : Option (Int32 × rx_S)) = some (r, SM') ∧ Inv N (n + 1) SC' SM' := st_q (R := -1) h (by rw [pk_some]; exact ⟨rfl, iC.rf⟩) (by rw [pk_some]; exact ⟨rfl, iM.rf⟩)
  rcases third_cases hF hC hM x1 with ⟨i, hi, rfl, e1, e2⟩ | ⟨e1, e2⟩
  · rw [e1, bd_some, if_neg (show ¬ (1 : Int32) = 0 by decide), e2, bd_some, if_neg (show ¬ (1 : Int32) = 0 by decide)]
    rcases row_cases (SC := SC) (SM := SM) hN x2 with ⟨v, hv, rfl, e1, e2⟩ | ⟨e1, e2⟩
    · rw [e1, bd_some, if_neg (show ¬ (1 : Int32) = 0 by decide), e2, bd_some, if_neg (show ¬ (1 : Int32) = 0 by decide)]
      obtain ⟨u, S1, e3, hc⟩ := copies_ok hN hM
      have hc : cM T SM S1 := hc
      rw [e3, bd_some]
      refine st_q (R := nI (put T (S1.1 127) i v)) h ?_ ?_
      · refine pk_bdm (putRow_ok hN hF hC (by decide) (hc.st hR) (hc.ws hW) hi hv) (fun r S2 h2 => ?_)
        rw [pk_some]
        exact ⟨h2.1, h2.2.i⟩
      · refine pk_bdm (putN_ok hN hF (hM.ag hc.i.ag) hi hv) (fun r S2 h2 => ?_)
        rw [pk_some]
        exact ⟨h2.1, hc.i.tr h2.2.i⟩
    · rw [e1, bd_some, if_pos rfl, e2, bd_some, if_pos rfl]
      exact no
  · rw [e1, bd_some, if_pos rfl, e2, bd_some, if_pos rfl]
    exact no
theorem st_chain (hN : 5000 ≤ N) : ST_chain N (Inv N) := by
  intro n SC SM hn h x1 x2 x3
  obtain ⟨-, -, -, -, -, T, ⟨hF, hC, hM⟩, ⟨hR, w, hw, hW⟩, -, -⟩ := id h
  unfold f_X10_chain f_X11_chain
  have no : ∃ r SC' SM', (some ((-1 : Int32), SC) : Option (Int32 × rx_S)) = some (r, SC') ∧ (some ((-1 : Int32), SM) : Option (Int32 × rx_S)) = some (r, SM') ∧ Inv N (n + 1) SC' SM' := st_q (R := -1) h (by rw [pk_some]; exact ⟨rfl, iC.rf⟩) (by rw [pk_some]; exact ⟨rfl, iM.rf⟩)
  rcases third_cases hF hC hM x1 with ⟨i, hi, rfl, e1, e2⟩ | ⟨e1, e2⟩
  · rw [e1, bd_some, if_neg (show ¬ (1 : Int32) = 0 by decide), e2, bd_some, if_neg (show ¬ (1 : Int32) = 0 by decide)]
    rcases third_cases hF hC hM x2 with ⟨j, hj, rfl, e1, e2⟩ | ⟨e1, e2⟩
    · rw [e1, bd_some, if_neg (show ¬ (1 : Int32) = 0 by decide), e2, bd_some, if_neg (show ¬ (1 : Int32) = 0 by decide)]
      rcases row_cases (SC := SC) (SM := SM) hN x3 with ⟨v, hv, rfl, e1, e2⟩ | ⟨e1, e2⟩
      · rw [e1, bd_some, if_neg (show ¬ (1 : Int32) = 0 by decide), e2, bd_some, if_neg (show ¬ (1 : Int32) = 0 by decide)]
        obtain ⟨u, S1, e3, hc⟩ := copies_ok hN hM
        have hc : cM T SM S1 := hc
        rw [e3, bd_some]
        have hR1 := hc.st hR
        have hM1 := hM.ag hc.i.ag
        refine st_q (R := nI (put T (S1.1 127) j (put T (S1.1 127) i v))) h ?_ ?_
        · refine pk_bdm (putRow_ok hN hF hC (by decide) hR1 (hc.ws hW) hi hv) (fun r S2 h2 => ?_)
          rw [h2.1]
          refine pk_bdm (putRow_ok hN hF (hC.ag h2.2.ag) (by decide) (hR1.s (by decide) h2.2) (hc.ws hW) hj (put_ok _ _ _ _)) (fun r S3 h3 => ?_)
          rw [pk_some]
          exact ⟨h3.1, h2.2.i.tr h3.2.i⟩
        · refine pk_bdm (putN_ok hN hF hM1 hi hv) (fun r S2 h2 => ?_)
          rw [h2.1]
          refine pk_bdm (putN_ok hN hF (hM1.ag h2.2.ag) hj (put_ok _ _ _ _)) (fun r S3 h3 => ?_)
          rw [pk_some]
          rw [h2.2.st] at h3
          exact ⟨h3.1, (hc.i.tr h2.2.i).tr h3.2.i⟩
      · rw [e1, bd_some, if_pos rfl, e2, bd_some, if_pos rfl]
        exact no
    · rw [e1, bd_some, if_pos rfl, e2, bd_some, if_pos rfl]
      exact no
  · rw [e1, bd_some, if_pos rfl, e2, bd_some, if_pos rfl]
    exact no
theorem st_takes (hN : 5000 ≤ N) : ST_takes N (Inv N) := by
  intro n SC SM hn h x1 x2
  obtain ⟨-, -, -, -, -, T, ⟨hF, hC, hM⟩, ⟨hR, w, hw, hW⟩, -, -⟩ := id h
  unfold f_X10_takes f_X11_takes
  have no : ∃ r SC' SM', (some ((-1 : Int32), SC) : Option (Int32 × rx_S)) = some (r, SC') ∧ (some ((-1 : Int32), SM) : Option (Int32 × rx_S)) = some (r, SM') ∧ Inv N (n + 1) SC' SM' := st_q (R := -1) h (by rw [pk_some]; exact ⟨rfl, iC.rf⟩) (by rw [pk_some]; exact ⟨rfl, iM.rf⟩)
  rcases spouse_cases hF hC hM x1 with ⟨a, ha, rfl, e1, e2⟩ | ⟨e1, e2⟩
  · rw [e1, bd_some, if_neg (show ¬ (1 : Int32) = 0 by decide), e2, bd_some, if_neg (show ¬ (1 : Int32) = 0 by decide)]
    have ha6 := wf_s hF ha
    rcases row_cases (SC := SC) (SM := SM) hN x2 with ⟨v, hv, rfl, e1, e2⟩ | ⟨e1, e2⟩
    · rw [e1, bd_some, if_neg (show ¬ (1 : Int32) = 0 by decide), e2, bd_some, if_neg (show ¬ (1 : Int32) = 0 by decide)]
      obtain ⟨u, S1, e3, hc⟩ := copies_ok hN hM
      have hc : cM T SM S1 := hc
      rw [e3, bd_some]
      refine st_q (R := mood T (S1.1 127) a v) h ?_ ?_
      · refine pk_bdm (moodC_ok hN hC (by decide) (hc.st hR) ha6 hv) (fun r S2 h2 => ?_)
        rw [pk_some]
        exact ⟨h2.1, h2.2.i⟩
      · refine pk_bdm (moodB_ok hN (hM.ag hc.i.ag) (by omega) hv) (fun r S2 h2 => ?_)
        rw [pk_some]
        exact ⟨h2.1, hc.i.tr h2.2.i⟩
    · rw [e1, bd_some, if_pos rfl, e2, bd_some, if_pos rfl]
      exact no
  · rw [e1, bd_some, if_pos rfl, e2, bd_some, if_pos rfl]
    exact no
/-- how many words a third bends -/
def crk (T : tx) (st : Nat → Int32) (i p : Nat) : Nat → Nat
  | 0 => 0
  | w + 1 => if pt T st i w p = w then crk T st i p w else crk T st i p w + 1
theorem crk_le {T : tx} {st : Nat → Int32} {i p : Nat} : ∀ w, crk T st i p w ≤ w := by
  intro w
  induction w with
  | zero => exact Nat.le_refl _
  | succ w ih =>
    unfold crk
    split <;> omega
theorem crkC_L (hN : 5000 ≤ N) {T : tx} {S : rx_S} {st : Nat → Int32} (hF : WF T) (hT : TC N T S) (h : stR T (S.1 32) st) {w0 : Nat} (hW : WS T w0 st) {i p : Nat} (hi : i < tT T) : ∀ (m n w : Nat) (S1 : rx_S), w + m = 8 → m < n → sC S S1 → pk (f_X10_crooked_L25 N n (nI i) (nI p) (nI (crk T st i p w)) (nI w) S1) (fun r S' => r = nI (crk T st i p 8) ∧ sC S S') := by
  intro m
  induction m with
  | zero =>
    intro n w S1 hw hn hs
    obtain ⟨n, rfl⟩ : ∃ q, n = q + 1 := ⟨n - 1, by omega⟩
    have : w = 8 := by omega
    subst this
    rw [f_X10_crooked_L25, if_pos (by decide), pk_some]
    exact ⟨rfl, hs⟩
  | succ m ih =>
    intro n w S1 hw hn hs
    obtain ⟨n, rfl⟩ : ∃ q, n = q + 1 := ⟨n - 1, by omega⟩
    rw [f_X10_crooked_L25, if_neg (show ¬ (8 : Int32) ≤ nI w from nI_ge (b := 8) (by omega) (by decide))]
    refine pk_bdm (putWord_ok hN hF (hT.ag hs.ag) (by decide) (h.s (by decide) hs) hW hi) (fun r S2 h2 => ?_)
    have h9 := pt_lt T st i w p (by omega)
    have hq : r = nI w ↔ pt T st i w p = w := by
      rw [h2.1]
      exact nI_eq (by omega) (by omega)
    rw [pk_ite]
    split
    · rename_i q
      rw [pk_let, nI_1]
      have e : crk T st i p (w + 1) = crk T st i p w := by rw [crk, if_pos (hq.mp q)]
      rw [← e]
      exact ih n (w + 1) S2 (by omega) (by omega) (hs.tr h2.2)
    · rename_i q
      rw [pk_let, pk_let, nI_1, nI_1]
      have e : crk T st i p (w + 1) = crk T st i p w + 1 := by rw [crk, if_neg (fun z => q (hq.mpr z))]
      rw [← e]
      exact ih n (w + 1) S2 (by omega) (by omega) (hs.tr h2.2)
theorem crkM_L (hN : 5000 ≤ N) {T : tx} {S : rx_S} (hF : WF T) (hT : TM N T S) {i p : Nat} (hi : i < tT T) : ∀ (m n w : Nat) (S1 : rx_S), w + m = 8 → m < n → sM S S1 → pk (f_X11_crooked_L28 N n (nI i) (nI p) (nI (crk T (S.1 127) i p w)) (nI w) S1) (fun r S' => r = nI (crk T (S.1 127) i p 8) ∧ sM S S') := by
  intro m
  induction m with
  | zero =>
    intro n w S1 hw hn hs
    obtain ⟨n, rfl⟩ : ∃ q, n = q + 1 := ⟨n - 1, by omega⟩
    have : w = 8 := by omega
    subst this
    rw [f_X11_crooked_L28, if_pos (by decide), pk_some]
    exact ⟨rfl, hs⟩
  | succ m ih =>
    intro n w S1 hw hn hs
    obtain ⟨n, rfl⟩ : ∃ q, n = q + 1 := ⟨n - 1, by omega⟩
    rw [f_X11_crooked_L28, if_neg (show ¬ (8 : Int32) ≤ nI w from nI_ge (b := 8) (by omega) (by decide))]
    refine pk_bdm (putAs_ok hN hF (hT.ag hs.ag) hi) (fun r S2 h2 => ?_)
    rw [hs.st] at h2
    have h9 := pt_lt T (S.1 127) i w p (by omega)
    have hq : r = nI w ↔ pt T (S.1 127) i w p = w := by
      rw [h2.1]
      exact nI_eq (by omega) (by omega)
    rw [pk_ite]
    split
    · rename_i q
      rw [pk_let, nI_1]
      have e : crk T (S.1 127) i p (w + 1) = crk T (S.1 127) i p w := by rw [crk, if_pos (hq.mp q)]
      rw [← e]
      exact ih n (w + 1) S2 (by omega) (by omega) (hs.tr h2.2)
    · rename_i q
      rw [pk_let, pk_let, nI_1, nI_1]
      have e : crk T (S.1 127) i p (w + 1) = crk T (S.1 127) i p w + 1 := by rw [crk, if_neg (fun z => q (hq.mpr z))]
      rw [← e]
      exact ih n (w + 1) S2 (by omega) (by omega) (hs.tr h2.2)
theorem st_crooked (hN : 5000 ≤ N) : ST_crooked N (Inv N) := by
  intro n SC SM hn h x1 x2
  obtain ⟨-, -, -, -, -, T, ⟨hF, hC, hM⟩, ⟨hR, w, hw, hW⟩, -, -⟩ := id h
  unfold f_X10_crooked f_X11_crooked
  have no : ∃ r SC' SM', (some ((-1 : Int32), SC) : Option (Int32 × rx_S)) = some (r, SC') ∧ (some ((-1 : Int32), SM) : Option (Int32 × rx_S)) = some (r, SM') ∧ Inv N (n + 1) SC' SM' := st_q (R := -1) h (by rw [pk_some]; exact ⟨rfl, iC.rf⟩) (by rw [pk_some]; exact ⟨rfl, iM.rf⟩)
  rcases third_cases hF hC hM x1 with ⟨i, hi, rfl, e1, e2⟩ | ⟨e1, e2⟩
  · rw [e1, bd_some, if_neg (show ¬ (1 : Int32) = 0 by decide), e2, bd_some, if_neg (show ¬ (1 : Int32) = 0 by decide)]
    rcases place_cases (SC := SC) (SM := SM) x2 with ⟨p, hp, rfl, e1, e2⟩ | ⟨e1, e2⟩
    · rw [e1, bd_some, if_neg (show ¬ (1 : Int32) = 0 by decide), e2, bd_some, if_neg (show ¬ (1 : Int32) = 0 by decide)]
      obtain ⟨u, S1, e3, hc⟩ := copies_ok hN hM
      have hc : cM T SM S1 := hc
      rw [e3, bd_some]
      refine st_q (R := nI (crk T (S1.1 127) i p 8)) h ?_ ?_
      · exact pk_mono (crkC_L hN hF hC (hc.st hR) (hc.ws hW) hi 8 N 0 SC rfl (by omega) sC.rf) (fun r S' h2 => ⟨h2.1, h2.2.i⟩)
      · exact pk_mono (crkM_L hN hF (hM.ag hc.i.ag) hi 8 N 0 S1 rfl (by omega) sM.rf) (fun r S' h2 => ⟨h2.1, hc.i.tr h2.2.i⟩)
    · rw [e1, bd_some, if_pos rfl, e2, bd_some, if_pos rfl]
      exact no
  · rw [e1, bd_some, if_pos rfl, e2, bd_some, if_pos rfl]
    exact no
end OPA
