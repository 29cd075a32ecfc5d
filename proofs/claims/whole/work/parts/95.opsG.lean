/-! ===== couple, third, count ===== -/
section OPG
variable {N : Nat} {T : tx} {n : Nat} {SC SM SC' SM' : rx_S}
theorem st_couple : ST_couple N (Inv N) := by
  intro n SC SM hn h x1 x2
  obtain ⟨-, -, -, -, -, T, ⟨hF, hC', hM⟩, ⟨hR, w, hw, hW⟩, -, -⟩ := id h
  have no : ∃ r SC' SM', (some ((-1 : Int32), SC) : Option (Int32 × rx_S)) = some (r, SC') ∧ (some ((-1 : Int32), SM) : Option (Int32 × rx_S)) = some (r, SM') ∧ Inv N (n + 1) SC' SM' := st_q (R := -1) h (by rw [pk_some]; exact ⟨rfl, iC.rf⟩) (by rw [pk_some]; exact ⟨rfl, iM.rf⟩)
  have n1 : ¬ (1 : Int32) = 0 := by decide
  unfold f_X10_couple f_X11_couple
  rcases couple_cases hF hC' hM x1 with ⟨c, hc, rfl, e1, e2⟩ | ⟨e1, e2⟩
  · have hc3 := wf_c hF hc
    rw [e1, bd_some, if_neg n1, e2, bd_some, if_neg n1, in_eq, bd_some]
    simp only [rx_let]
    have pr : ∀ x : Nat, x < 2 → ∃ r SC' SM', (rx_gd (((2 : Int32) * nI c) + nI x) 6 (some ((SC.1 10 (Int32.toNatClampNeg (((2 : Int32) * nI c) + nI x))), SC))) = some (r, SC') ∧ (rx_bd (f_X11_partnerIn (nI c) (nI x) SM) (fun x15 S14 => some (x15, S14))) = some (r, SM') ∧ Inv N (n + 1) SC' SM' := by
      intro x hx
      have ei : (2 : Int32) * nI c + nI x = nI (2 * c + x) := by
        have : (2 : Int32) * nI c = nI (2 * c) := nI_mul 2 c
        rw [this, nI_add]
      rw [ei, rx_gd_in (vp_in_nI (show 2 * c + x < 6 by omega) (by decide)), nI_clamp (by omega), hC'.1.2.2.2.2.2.2.2 c x hc hx, partnerIn_eq hF hM hc hx, bd_some]
      exact st_q (R := nI (tP T c x)) h (by rw [pk_some]; exact ⟨rfl, iC.rf⟩) (by rw [pk_some]; exact ⟨rfl, iM.rf⟩)
    have pl : ∀ (k j : Nat), k = j + 4 → j < 24 → ¬ (12 ≤ j ∧ j < 15) → ∃ r SC' SM', (rx_gd (nI k) 48 (some ((SC.1 32 (Int32.toNatClampNeg (nI k))), SC))) = some (r, SC') ∧ (rx_gd (nI j) 48 (some ((SM.1 126 (Int32.toNatClampNeg (nI j))), SM))) = some (r, SM') ∧ Inv N (n + 1) SC' SM' := by
      intro k j hk hj hn
      rw [rx_gd_in (vp_in_nI (show k < 48 by omega) (by decide)), nI_clamp (by omega), rx_gd_in (vp_in_nI (show j < 48 by omega) (by decide)), nI_clamp (by omega), hR.at hk (by omega) hn]
      exact st_q (R := SM.1 126 j) h (by rw [pk_some]; exact ⟨rfl, iC.rf⟩) (by rw [pk_some]; exact ⟨rfl, iM.rf⟩)
    by_cases q0 : x2 = 0
    · subst q0
      rw [if_pos rfl, if_pos (show (0 : Int32) ≤ 0 ∧ (0 : Int32) ≤ 5 by decide), if_neg n1, if_neg (show ¬ (2 : Int32) ≤ 0 by decide)]
      exact pr 0 (by decide)
    rw [if_neg q0]
    by_cases q1 : x2 = 1
    · subst q1
      rw [if_pos rfl, if_pos (show (0 : Int32) ≤ 1 ∧ (1 : Int32) ≤ 5 by decide), if_neg n1, if_neg (show ¬ (2 : Int32) ≤ 1 by decide)]
      exact pr 1 (by decide)
    rw [if_neg q1]
    by_cases q2 : x2 = 2
    · subst q2
      have c16 : (16 : Int32) + nI c = nI (16 + c) := nI_add 16 c
      have c12 : (6 : Int32) + (3 : Int32) * 2 + nI c = nI (12 + c) := nI_add 12 c
      rw [if_pos rfl, if_pos (show (0 : Int32) ≤ 2 ∧ (2 : Int32) ≤ 5 by decide), if_neg n1, if_pos (show (2 : Int32) ≤ 2 by decide), c16, c12, rx_gd_in (vp_in_nI (show 16 + c < 48 by omega) (by decide)), rx_gd_in (vp_in_nI (show 16 + c < 48 by omega) (by decide)), rx_gd_in (vp_in_nI (show 12 + c < 48 by omega) (by decide)), nI_clamp (show 16 + c < 2 ^ 31 by omega), nI_clamp (show 12 + c < 2 ^ 31 by omega), hR.2.1 c hc hc3]
      have e : (if hC (SM.1 126 (12 + c)) = -1 then (some ((-2 : Int32), SC) : Option (Int32 × rx_S)) else some (hC (SM.1 126 (12 + c)), SC)) = some (SM.1 126 (12 + c), SC) := by
        rcases hW.hire hc3 hc with z | ⟨i, hi, z⟩
        · rw [z, show hC (-2) = -1 by decide, if_pos rfl]
        · have hi4 := wf_t hF hi
          have h5 : ∀ k : Nat, k < 4 → ¬ nI k = -1 := by decide
          rw [z, show hC (nI i) = nI i from if_neg (nI_m2 (by omega)), if_neg (h5 i hi4)]
      rw [e]
      exact st_q (R := SM.1 126 (12 + c)) h (by rw [pk_some]; exact ⟨rfl, iC.rf⟩) (by rw [pk_some]; exact ⟨rfl, iM.rf⟩)
    rw [if_neg q2]
    by_cases q3 : x2 = 3
    · subst q3
      rw [if_pos rfl, if_pos (show (0 : Int32) ≤ 3 ∧ (3 : Int32) ≤ 5 by decide), if_neg n1, if_pos (show (2 : Int32) ≤ 3 by decide), show (19 : Int32) + nI c = nI (19 + c) from nI_add 19 c, show (6 : Int32) + (3 : Int32) * 3 + nI c = nI (15 + c) from nI_add 15 c]
      exact pl (19 + c) (15 + c) (by omega) (by omega) (by omega)
    rw [if_neg q3]
    by_cases q4 : x2 = 4
    · subst q4
      rw [if_pos rfl, if_pos (show (0 : Int32) ≤ 4 ∧ (4 : Int32) ≤ 5 by decide), if_neg n1, if_pos (show (2 : Int32) ≤ 4 by decide), show (22 : Int32) + nI c = nI (22 + c) from nI_add 22 c, show (6 : Int32) + (3 : Int32) * 4 + nI c = nI (18 + c) from nI_add 18 c]
      exact pl (22 + c) (18 + c) (by omega) (by omega) (by omega)
    rw [if_neg q4]
    by_cases q5 : x2 = 5
    · subst q5
      rw [if_pos rfl, if_pos (show (0 : Int32) ≤ 5 ∧ (5 : Int32) ≤ 5 by decide), if_neg n1, if_pos (show (2 : Int32) ≤ 5 by decide), show (25 : Int32) + nI c = nI (25 + c) from nI_add 25 c, show (6 : Int32) + (3 : Int32) * 5 + nI c = nI (21 + c) from nI_add 21 c]
      exact pl (25 + c) (21 + c) (by omega) (by omega) (by omega)
    rw [if_neg q5]
    have q : ¬ (0 ≤ x2 ∧ x2 ≤ 5) := fun z => by
      obtain ⟨v, hv, rfl⟩ := nI_of' z.1
      have hv5 : v ≤ 5 := (nI_leI (b := 5) hv (by decide)).mp z.2
      match v, hv5 with
      | 0, _ => exact q0 rfl
      | 1, _ => exact q1 rfl
      | 2, _ => exact q2 rfl
      | 3, _ => exact q3 rfl
      | 4, _ => exact q4 rfl
      | 5, _ => exact q5 rfl
    rw [if_neg q, if_pos rfl]
    exact no
  · rw [e1, bd_some, if_pos rfl, e2, bd_some, if_pos rfl]
    exact no
theorem cplsOf_L (hF : WF T) (hT : TC N T SC) {st : Nat → Int32} (hR : stR T (SC.1 32) st) {w : Nat} (hW : WS T w st) {i : Nat} (hi : i < 4) : ∀ (m k c : Nat), c + m = tC T → m < k → f_X10_couplesOf_L4 N k (nI i) (hbs st i c) (nI c) SC = some (hbs st i (tC T), SC) := by
  intro m
  have h3 := hF.2.1
  induction m with
  | zero =>
    intro k c hc hk
    obtain ⟨k, rfl⟩ : ∃ q, k = q + 1 := ⟨k - 1, by omega⟩
    have : c = tC T := by omega
    subst this
    rw [f_X10_couplesOf_L4, hT.1.2.1, if_pos (nI_le (Nat.le_refl _) (by omega))]
  | succ m ih =>
    intro k c hc hk
    obtain ⟨k, rfl⟩ : ∃ q, k = q + 1 := ⟨k - 1, by omega⟩
    have c16 : (16 : Int32) + nI c = nI (16 + c) := nI_add 16 c
    have hc3 : c < 3 := by omega
    have hcc : c < tC T := by omega
    rw [f_X10_couplesOf_L4, hT.1.2.1, if_neg (nI_ge (by omega) (by omega)), c16, rx_gd_in (vp_in_nI (show 16 + c < 48 by omega) (by decide)), nI_clamp (by omega), hR.2.1 c hcc hc3]
    have hq := hC_eq (i := i) (hW.hire hc3 hcc) hi
    simp only [rx_let, nI_1]
    by_cases q : st (12 + c) = nI i
    · rw [if_pos (hq.mpr q)]
      have e : hbs st i (c + 1) = hbs st i c ||| ((1 : Int32) <<< (nI c &&& 31)) := by rw [hbs, if_pos q]
      rw [← e]
      exact ih k (c + 1) (by omega) (by omega)
    · rw [if_neg (fun z => q (hq.mp z))]
      have e : hbs st i (c + 1) = hbs st i c := by rw [hbs, if_neg q]
      rw [← e]
      exact ih k (c + 1) (by omega) (by omega)
theorem st_third (hN : 5000 ≤ N) : ST_third N (Inv N) := by
  intro n SC SM hn h x1 x2
  obtain ⟨-, -, -, -, -, T, ⟨hF, hC', hM⟩, ⟨hR, w, hw, hW⟩, -, -⟩ := id h
  have n1 : ¬ (1 : Int32) = 0 := by decide
  unfold f_X10_third f_X11_third
  rcases third_cases hF hC' hM x1 with ⟨i, hi, rfl, e1, e2⟩ | ⟨e1, e2⟩
  · have hi4 := wf_t hF hi
    obtain ⟨u, S1, e4, hc⟩ := copies_ok hN hM
    have hc : cM T SM S1 := hc
    have hR1 := hc.st hR
    have hW1 := hc.ws hW
    have hM1 := hM.ag hc.i.ag
    obtain ⟨lv, hlv, t⟩ := hM1.1
    rw [e1, bd_some, if_neg n1, e2, bd_some, if_neg n1, e4, bd_some]
    simp only [rx_let]
    have pl : ∀ (k j : Nat), k = j + 4 → j < 44 → ¬ (12 ≤ j ∧ j < 15) → ∃ r SC' SM', (rx_gd (nI k) 48 (some ((SC.1 32 (Int32.toNatClampNeg (nI k))), SC))) = some (r, SC') ∧ (rx_gd (nI j) 48 (some ((S1.1 127 (Int32.toNatClampNeg (nI j))), S1))) = some (r, SM') ∧ Inv N (n + 1) SC' SM' := by
      intro k j hk hj hn
      rw [rx_gd_in (vp_in_nI (show k < 48 by omega) (by decide)), nI_clamp (by omega), rx_gd_in (vp_in_nI (show j < 48 by omega) (by decide)), nI_clamp (by omega), hR1.at hk (by omega) hn]
      exact st_q (R := S1.1 127 j) h (by rw [pk_some]; exact ⟨rfl, iC.rf⟩) (by rw [pk_some]; exact ⟨rfl, hc.i⟩)
    by_cases q0 : x2 = 0
    · rw [if_pos q0, if_pos q0]
      have cl : (4 : Int32) * nI lv + nI i = nI (4 * lv + i) := by
        have : (4 : Int32) * nI lv = nI (4 * lv) := nI_mul 4 lv
        rw [this, nI_add]
      refine st_q (R := tR T i) h ?_ ?_
      · rw [pk_gdn hi4 (by decide), pk_some, nI_clamp (by omega)]
        exact ⟨(hC'.1.2.2.2.2.2.2.1 i hi).1, iC.rf⟩
      · rw [t.1, cl, pk_gdn (by omega) (by decide), pk_some, nI_clamp (by omega)]
        exact ⟨(t.2.2.2.2.2.2.2.1 i hi).1, hc.i⟩
    rw [if_neg q0, if_neg q0]
    by_cases q1 : x2 = 1
    · subst q1
      rw [if_pos rfl, if_pos rfl, show (28 : Int32) + nI i = nI (28 + i) from nI_add 28 i, show (20 : Int32) + (4 : Int32) * 1 + nI i = nI (24 + i) from nI_add 24 i]
      exact pl (28 + i) (24 + i) (by omega) (by omega) (by omega)
    rw [if_neg q1, if_neg q1]
    by_cases q2 : x2 = 2
    · subst q2
      rw [if_pos rfl, if_pos rfl, show (32 : Int32) + nI i = nI (32 + i) from nI_add 32 i, show (20 : Int32) + (4 : Int32) * 2 + nI i = nI (28 + i) from nI_add 28 i]
      exact pl (32 + i) (28 + i) (by omega) (by omega) (by omega)
    rw [if_neg q2, if_neg q2]
    by_cases q3 : x2 = 3
    · subst q3
      rw [if_pos rfl, if_pos rfl, show (36 : Int32) + nI i = nI (36 + i) from nI_add 36 i, show (20 : Int32) + (4 : Int32) * 3 + nI i = nI (32 + i) from nI_add 32 i]
      exact pl (36 + i) (32 + i) (by omega) (by omega) (by omega)
    rw [if_neg q3, if_neg q3]
    by_cases q4 : x2 = 4
    · subst q4
      rw [if_pos rfl, if_pos rfl, show (40 : Int32) + nI i = nI (40 + i) from nI_add 40 i, show (20 : Int32) + (4 : Int32) * 4 + nI i = nI (36 + i) from nI_add 36 i]
      exact pl (40 + i) (36 + i) (by omega) (by omega) (by omega)
    rw [if_neg q4, if_neg q4]
    by_cases q5 : x2 = 5
    · subst q5
      rw [if_pos rfl, if_pos rfl, show (44 : Int32) + nI i = nI (44 + i) from nI_add 44 i, show (20 : Int32) + (4 : Int32) * 5 + nI i = nI (40 + i) from nI_add 40 i]
      exact pl (44 + i) (40 + i) (by omega) (by omega) (by omega)
    rw [if_neg q5, if_neg q5]
    by_cases q6 : x2 = 6
    · rw [if_pos q6, if_pos q6]
      refine st_q (R := hbs (S1.1 127) i (tC T)) h ?_ ?_
      · unfold f_X10_couplesOf
        have e := cplsOf_L (N := N) hF hC' hR1 hW1 hi4 (tC T) N 0 (by omega) (by have := hF.2.1; omega)
        have e : f_X10_couplesOf_L4 N N (nI i) 0 0 SC = some (hbs (S1.1 127) i (tC T), SC) := e
        rw [e, bd_some, pk_some]
        exact ⟨rfl, iC.rf⟩
      · rw [hiredBy_eq hN hF hM1, bd_some, pk_some]
        exact ⟨rfl, hc.i⟩
    rw [if_neg q6, if_neg q6]
    by_cases q7 : x2 = 7
    · rw [if_pos q7, if_pos q7]
      refine st_q (R := if dar T (S1.1 127) i = true then 1 else 0) h ?_ ?_
      · refine pk_bdm (daringC_ok hN hC' (by decide) hR1 hi4) (fun r S2 h2 => ?_)
        rw [h2.1]
        by_cases z : dar T (S1.1 127) i = true
        · rw [if_pos z, if_neg n1, pk_some]; exact ⟨rfl, h2.2.i⟩
        · rw [if_neg z, if_pos rfl, pk_some]; exact ⟨rfl, h2.2.i⟩
      · refine pk_bdm (isDaring_ok hN hM1 hi4) (fun r S2 h2 => ?_)
        rw [h2.1]
        by_cases z : dar T (S1.1 127) i = true
        · rw [if_pos z, if_neg n1, pk_some]; exact ⟨rfl, hc.i.tr h2.2.i⟩
        · rw [if_neg z, if_pos rfl, pk_some]; exact ⟨rfl, hc.i.tr h2.2.i⟩
    rw [if_neg q7, if_neg q7]
    exact st_q (R := -100000) h (by rw [pk_some]; exact ⟨rfl, iC.rf⟩) (by rw [pk_some]; exact ⟨rfl, hc.i⟩)
  · rw [e1, bd_some, if_pos rfl, e2, bd_some, if_pos rfl]
    exact st_q (R := -100000) h (by rw [pk_some]; exact ⟨rfl, iC.rf⟩) (by rw [pk_some]; exact ⟨rfl, iM.rf⟩)
/-- bits -/
def bts (p : Nat → Bool) : Nat → Int32
  | 0 => 0
  | c + 1 => if p c = true then bts p c ||| ((1 : Int32) <<< (nI c &&& 31)) else bts p c
theorem bts_ext {p q : Nat → Bool} {m : Nat} (h : ∀ c, c < m → p c = q c) : bts p m = bts q m := by
  induction m with
  | zero => rfl
  | succ m ih => rw [bts, bts, h m (by omega), ih (fun c hc => h c (by omega))]
theorem bts_top {p : Nat → Bool} {m : Nat} : ∀ k, (∀ c, m ≤ c → c < m + k → p c = false) → bts p (m + k) = bts p m := by
  intro k
  induction k with
  | zero => intro _; rfl
  | succ k ih =>
    intro h
    rw [show m + (k + 1) = (m + k) + 1 by omega, bts, h (m + k) (by omega) (by omega)]
    rw [if_neg (by decide)]
    exact ih (fun c h1 h2 => h c h1 (by omega))
theorem bitsOf_L {a M : Nat} (ha : a + M ≤ 48) : ∀ (m k c : Nat), c + m = M → m < k → f_X10_bitsOf_L5 N k (nI a) (nI M) (bts (fun c => decide (¬ SC.1 32 (a + c) = 0)) c) (nI c) SC = some (bts (fun c => decide (¬ SC.1 32 (a + c) = 0)) M, SC) := by
  intro m
  induction m with
  | zero =>
    intro k c hc hk
    obtain ⟨k, rfl⟩ : ∃ q, k = q + 1 := ⟨k - 1, by omega⟩
    have : c = M := by omega
    subst this
    rw [f_X10_bitsOf_L5, if_pos (nI_le (Nat.le_refl _) (by omega))]
  | succ m ih =>
    intro k c hc hk
    obtain ⟨k, rfl⟩ : ∃ q, k = q + 1 := ⟨k - 1, by omega⟩
    rw [f_X10_bitsOf_L5, if_neg (nI_ge (by omega) (by omega)), nI_add, rx_gd_in (vp_in_nI (show a + c < 48 by omega) (by decide)), nI_clamp (by omega)]
    simp only [rx_let, nI_1]
    by_cases q : SC.1 32 (a + c) = 0
    · rw [if_pos q]
      have e : bts (fun c => decide (¬ SC.1 32 (a + c) = 0)) (c + 1) = bts (fun c => decide (¬ SC.1 32 (a + c) = 0)) c := by rw [bts, if_neg (by simp [q])]
      rw [← e]
      exact ih k (c + 1) (by omega) (by omega)
    · rw [if_neg q]
      have e : bts (fun c => decide (¬ SC.1 32 (a + c) = 0)) (c + 1) = bts (fun c => decide (¬ SC.1 32 (a + c) = 0)) c ||| ((1 : Int32) <<< (nI c &&& 31)) := by rw [bts, if_pos (by simp [q])]
      rw [← e]
      exact ih k (c + 1) (by omega) (by omega)
theorem bitsNow_L {a M : Nat} (ha : a + M ≤ 48) : ∀ (m k c : Nat), c + m = M → m < k → f_X11_bitsNow_L5 N k (nI a) (nI M) (bts (fun c => decide (SM.1 126 (a + c) = 1)) c) (nI c) SM = some (bts (fun c => decide (SM.1 126 (a + c) = 1)) M, SM) := by
  intro m
  induction m with
  | zero =>
    intro k c hc hk
    obtain ⟨k, rfl⟩ : ∃ q, k = q + 1 := ⟨k - 1, by omega⟩
    have : c = M := by omega
    subst this
    rw [f_X11_bitsNow_L5, if_pos (nI_le (Nat.le_refl _) (by omega))]
  | succ m ih =>
    intro k c hc hk
    obtain ⟨k, rfl⟩ : ∃ q, k = q + 1 := ⟨k - 1, by omega⟩
    rw [f_X11_bitsNow_L5, if_neg (nI_ge (by omega) (by omega)), nI_add, rx_gd_in (vp_in_nI (show a + c < 48 by omega) (by decide)), nI_clamp (by omega)]
    simp only [rx_let, nI_1]
    by_cases q : SM.1 126 (a + c) = 1
    · rw [if_pos q]
      have e : bts (fun c => decide (SM.1 126 (a + c) = 1)) (c + 1) = bts (fun c => decide (SM.1 126 (a + c) = 1)) c ||| ((1 : Int32) <<< (nI c &&& 31)) := by rw [bts, if_pos (by simp [q])]
      rw [← e]
      exact ih k (c + 1) (by omega) (by omega)
    · rw [if_neg q]
      have e : bts (fun c => decide (SM.1 126 (a + c) = 1)) (c + 1) = bts (fun c => decide (SM.1 126 (a + c) = 1)) c := by rw [bts, if_neg (by simp [q])]
      rw [← e]
      exact ih k (c + 1) (by omega) (by omega)
def sms (st : Nat → Int32) : Nat → Int32
  | 0 => 0
  | a + 1 => sms st a + st a
theorem sms_top {st : Nat → Int32} {m : Nat} : ∀ k, (∀ c, m ≤ c → c < m + k → st c = 0) → sms st (m + k) = sms st m := by
  intro k
  induction k with
  | zero => intro _; rfl
  | succ k ih =>
    intro h
    rw [show m + (k + 1) = (m + k) + 1 by omega, sms, h (m + k) (by omega) (by omega), Int32.add_zero]
    exact ih (fun c h1 h2 => h c h1 (by omega))
theorem moods_L {st : Nat → Int32} (hT : TC N T SC) (hF : WF T) (hR : stR T (SC.1 32) st) : ∀ (m k a : Nat), a + m = tS T → m < k → f_X10_allMoods_L4 N k (sms st a) (nI a) SC = some (sms st (tS T), SC) := by
  intro m
  have h6 := hF.1
  induction m with
  | zero =>
    intro k a ha hk
    obtain ⟨k, rfl⟩ : ∃ q, k = q + 1 := ⟨k - 1, by omega⟩
    have : a = tS T := by omega
    subst this
    rw [f_X10_allMoods_L4, hT.1.1, if_pos (nI_le (Nat.le_refl _) (by omega))]
  | succ m ih =>
    intro k a ha hk
    obtain ⟨k, rfl⟩ : ∃ q, k = q + 1 := ⟨k - 1, by omega⟩
    have c4 : (4 : Int32) + nI a = nI (4 + a) := nI_add 4 a
    rw [f_X10_allMoods_L4, hT.1.1, if_neg (nI_ge (by omega) (by omega)), c4, rx_gd_in (vp_in_nI (show 4 + a < 48 by omega) (by decide)), nI_clamp (by omega), hR.at (k := 4 + a) (j := a) (by omega) (by omega) (by omega)]
    simp only [rx_let, nI_1]
    exact ih k (a + 1) (by omega) (by omega)
theorem sumNow_L {a M : Nat} (ha : a + M ≤ 48) : ∀ (m k c : Nat), c + m = M → m < k → f_X11_sumNow_L5 N k (nI a) (nI M) (sms (fun j => SM.1 126 (a + j)) c) (nI (a + c)) SM = some (sms (fun j => SM.1 126 (a + j)) M, SM) := by
  intro m
  induction m with
  | zero =>
    intro k c hc hk
    obtain ⟨k, rfl⟩ : ∃ q, k = q + 1 := ⟨k - 1, by omega⟩
    have : c = M := by omega
    subst this
    rw [f_X11_sumNow_L5, nI_add, if_pos (nI_le (Nat.le_refl _) (by omega))]
  | succ m ih =>
    intro k c hc hk
    obtain ⟨k, rfl⟩ : ∃ q, k = q + 1 := ⟨k - 1, by omega⟩
    rw [f_X11_sumNow_L5, nI_add, if_neg (nI_ge (by omega) (by omega)), rx_gd_in (vp_in_nI (show a + c < 48 by omega) (by decide)), nI_clamp (by omega)]
    simp only [rx_let, nI_1]
    exact ih k (c + 1) (by omega) (by omega)
theorem st_count (hN : 5000 ≤ N) : ST_count N (Inv N) := by
  intro n SC SM hn h x1
  obtain ⟨⟨len, -, tp1, tp2, -⟩, -, -, -, ⟨m, -, o2, o3, -⟩, T, ⟨hF, hC', hM⟩, ⟨hR, w, hw, hW⟩, ⟨nx, ds, -, -, -, u4, u5, -⟩, hh⟩ := id h
  obtain ⟨lv, hlv, t⟩ := hM.1
  have same : ∀ {r s : Int32}, r = s → ∃ r' SC' SM', (some (r, SC) : Option (Int32 × rx_S)) = some (r', SC') ∧ (some (s, SM) : Option (Int32 × rx_S)) = some (r', SM') ∧ Inv N (n + 1) SC' SM' := fun {r s} e => st_q (R := s) h (by rw [pk_some]; exact ⟨e, iC.rf⟩) (by rw [pk_some]; exact ⟨rfl, iM.rf⟩)
  unfold f_X10_count f_X11_count
  simp only [rx_let]
  rw [t.1]
  have hcl : (nI lv).toNatClampNeg = lv := nI_clamp (by omega)
  have hg : ∀ {β : Type} (A : Option β), rx_gd (nI lv) 2 A = A := fun A => rx_gd_in (vp_in_nI hlv (by decide))
  rw [hg, hg, hg, hcl, t.2.1, t.2.2.1, t.2.2.2.1, hC'.1.1, hC'.1.2.1, hC'.1.2.2.1]
  by_cases q0 : x1 = 0
  · rw [if_pos q0, if_pos q0]; exact same rfl
  rw [if_neg q0, if_neg q0]
  by_cases q1 : x1 = 1
  · rw [if_pos q1, if_pos q1]; exact same rfl
  rw [if_neg q1, if_neg q1]
  by_cases q2 : x1 = 2
  · rw [if_pos q2, if_pos q2]; exact same rfl
  rw [if_neg q2, if_neg q2]
  by_cases q3 : x1 = 3
  · rw [if_pos q3, if_pos q3]; exact same hR.2.2.1
  rw [if_neg q3, if_neg q3]
  by_cases q4 : x1 = 4
  · rw [if_pos q4, if_pos q4]
    have h3 := hF.2.1
    have e1 := bitsOf_L (N := N) (SC := SC) (a := 19) (M := tC T) (by omega) (tC T) N 0 (by omega) (by omega)
    have e1 : f_X10_bitsOf N 19 (nI (tC T)) SC = _ := e1
    have e2 := bitsNow_L (N := N) (SM := SM) (a := 15) (M := 3) (by omega) 3 N 0 (by omega) (by omega)
    have e2 : f_X11_bitsNow N 15 3 SM = _ := e2
    rw [e1, bd_some, e2, bd_some]
    refine same ?_
    have z := bts_top (p := fun c => decide (SM.1 126 (15 + c) = 1)) (m := tC T) (3 - tC T) (fun c g1 g2 => by
      have := hW.part0 (c := c) (by omega) g1
      simp only [this]
      decide)
    rw [show tC T + (3 - tC T) = 3 by omega] at z
    rw [z]
    refine bts_ext (fun c hc => ?_)
    have e := hR.at (k := 19 + c) (j := 15 + c) (by omega) (by omega) (by omega)
    simp only [e]
    rcases hW.part (c := c) (by omega) with y | y
    · rw [y]; decide
    · rw [y]; decide
  rw [if_neg q4, if_neg q4]
  by_cases q5 : x1 = 5
  · rw [if_pos q5, if_pos q5]
    have h3 := hF.2.2.1
    have e1 := bitsOf_L (N := N) (SC := SC) (a := 36) (M := tT T) (by omega) (tT T) N 0 (by omega) (by omega)
    have e1 : f_X10_bitsOf N 36 (nI (tT T)) SC = _ := e1
    have e2 := bitsNow_L (N := N) (SM := SM) (a := 32) (M := 4) (by omega) 4 N 0 (by omega) (by omega)
    have e2 : f_X11_bitsNow N 32 4 SM = _ := e2
    rw [e1, bd_some, e2, bd_some]
    refine same ?_
    have z := bts_top (p := fun c => decide (SM.1 126 (32 + c) = 1)) (m := tT T) (4 - tT T) (fun c g1 g2 => by
      have := hW.sw0 (i := c) (by omega) g1
      simp only [this]
      decide)
    rw [show tT T + (4 - tT T) = 4 by omega] at z
    rw [z]
    refine bts_ext (fun c hc => ?_)
    have e := hR.at (k := 36 + c) (j := 32 + c) (by omega) (by omega) (by omega)
    simp only [e]
    rcases hW.sw (i := c) (by omega) with y | y
    · rw [y]; decide
    · rw [y]; decide
  rw [if_neg q5, if_neg q5]
  by_cases q6 : x1 = 6
  · subst q6
    rw [if_pos rfl, if_pos rfl, show (39 : Int32) + 6 = nI 45 by decide, rx_gd_in (vp_in_nI (n := 45) (N := 48) (by decide) (by decide))]
    exact same hR.2.2.2.1
  rw [if_neg q6, if_neg q6]
  by_cases q7 : x1 = 7
  · subst q7
    rw [if_pos rfl, if_pos rfl, show (39 : Int32) + 7 = nI 46 by decide, rx_gd_in (vp_in_nI (n := 46) (N := 48) (by decide) (by decide))]
    exact same hR.2.2.2.2.1
  rw [if_neg q7, if_neg q7]
  by_cases q8 : x1 = 8
  · rw [if_pos q8, if_pos q8]; exact same (tp1.trans tp2.symm)
  rw [if_neg q8, if_neg q8]
  by_cases q9 : x1 = 9
  · rw [if_pos q9, if_pos q9]; exact same (u4.trans u5.symm)
  rw [if_neg q9, if_neg q9]
  by_cases q10 : x1 = 10
  · rw [if_pos q10, if_pos q10]; exact same (o2.trans o3.symm)
  rw [if_neg q10, if_neg q10]
  by_cases q11 : x1 = 11
  · rw [if_pos q11, if_pos q11]
    have hb : ∀ s, s < 3 → ∃ b : Int32, (b = 0 ∨ b = 1) ∧ SC.1 79 s = b ∧ SM.1 137 s = b := fun s hs => by
      rcases hh s hs with ⟨z1, z2⟩ | ⟨z1, z2, -⟩
      · exact ⟨0, Or.inl rfl, z1, z2⟩
      · exact ⟨1, Or.inr rfl, z1, z2⟩
    obtain ⟨b0, v0, y0, z0⟩ := hb 0 (by decide)
    obtain ⟨b1, v1, y1, z1⟩ := hb 1 (by decide)
    obtain ⟨b2, v2, y2, z2⟩ := hb 2 (by decide)
    have step : ∀ (k : Nat) (x : Int32) (s : Nat) (b : Int32), s < 3 → (b = 0 ∨ b = 1) → SC.1 79 s = b → f_X3_heldCount_L4 N (k + 1) x (nI s) SC = f_X3_heldCount_L4 N k (x + b) (nI (s + 1)) SC := by
      intro k x s b hs hb e
      rw [f_X3_heldCount_L4, if_neg (show ¬ (3 : Int32) ≤ nI s from nI_ge (b := 3) hs (by decide)), rx_gd_in (vp_in_nI hs (by decide)), nI_clamp (by omega), e]
      simp only [rx_let, nI_1]
      rcases hb with rfl | rfl
      · rw [if_pos rfl, Int32.add_zero]
      · rw [if_neg (by decide)]
    have e : f_X3_heldCount N SC = some (0 + b0 + b1 + b2, SC) := by
      unfold f_X3_heldCount
      obtain ⟨k, hk⟩ : ∃ k, N = k + 1 + 1 + 1 + 1 := ⟨N - 4, by omega⟩
      have e0 : f_X3_heldCount_L4 N N 0 0 SC = f_X3_heldCount_L4 N (k + 1 + 1 + 1 + 1) 0 (nI 0) SC := by rw [← hk]; rfl
      rw [e0, step _ _ 0 b0 (by decide) v0 y0, step _ _ 1 b1 (by decide) v1 y1, step _ _ 2 b2 (by decide) v2 y2, f_X3_heldCount_L4, if_pos (by decide)]
    rw [e, bd_some, z0, z1, z2]
    rcases v0 with rfl | rfl <;> rcases v1 with rfl | rfl <;> rcases v2 with rfl | rfl <;> exact same (by decide)
  rw [if_neg q11, if_neg q11]
  by_cases q12 : x1 = 12
  · rw [if_pos q12, if_pos q12]
    have e2 := sumNow_L (N := N) (SM := SM) (a := 40) (M := 4) (by omega) 4 N 0 (by omega) (by omega)
    have e2 : f_X11_sumNow N 40 4 SM = _ := e2
    rw [e2, bd_some]
    refine same ?_
    rw [hR.2.2.2.2.2]
    show _ = 0 + SM.1 126 40 + SM.1 126 41 + SM.1 126 42 + SM.1 126 43
    rw [Int32.zero_add]
  rw [if_neg q12, if_neg q12]
  by_cases q13 : x1 = 13
  · rw [if_pos q13, if_pos q13]
    have h6 := hF.1
    have e1 := moods_L (N := N) hC' hF hR (tS T) N 0 (by omega) (by omega)
    have e1 : f_X10_allMoods N SC = _ := e1
    have e2 := sumNow_L (N := N) (SM := SM) (a := 0) (M := 6) (by omega) 6 N 0 (by omega) (by omega)
    have e2 : f_X11_sumNow N 0 6 SM = _ := e2
    rw [e1, bd_some, e2, bd_some]
    refine same ?_
    have z := sms_top (st := fun j => SM.1 126 (0 + j)) (m := tS T) (6 - tS T) (fun c g1 g2 => by
      show SM.1 126 (0 + c) = 0
      rw [Nat.zero_add]
      exact hW.mood0 (by omega) g1)
    rw [show tS T + (6 - tS T) = 6 by omega] at z
    rw [z]
    have : (fun j => SM.1 126 (0 + j)) = SM.1 126 := funext fun j => by rw [Nat.zero_add]
    rw [this]
  rw [if_neg q13, if_neg q13]
  exact same rfl
end OPG
