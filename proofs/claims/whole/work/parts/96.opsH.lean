/-! ===== who, ask ===== -/
def xM (kk : Nat) (S S' : rx_S) : Prop := (∀ k j, k ≠ 124 → k ≠ 125 → k ≠ kk → ¬ (k = 94 ∧ j = 48) → S'.1 k j = S.1 k j) ∧ S'.2 = S.2
theorem xM.rf {kk : Nat} {S : rx_S} : xM kk S S := ⟨fun _ _ _ _ _ _ => rfl, rfl⟩
theorem xM.tr {kk : Nat} {S S' S'' : rx_S} (h : xM kk S S') (g : xM kk S' S'') : xM kk S S'' := ⟨fun k j h1 h2 h3 h4 => (g.1 k j h1 h2 h3 h4).trans (h.1 k j h1 h2 h3 h4), g.2.trans h.2⟩
theorem sM.x {kk : Nat} {S S' : rx_S} (h : sM S S') : xM kk S S' := ⟨fun k j h1 h2 _ h4 => h.1 k j h1 h2 h4, h.2⟩
theorem xM.u {kk : Nat} {S : rx_S} {i : Nat} {v : Int32} : xM kk S (rx_ui S kk i v) := ⟨fun k j _ _ h _ => by rw [ui_row h], rfl⟩
theorem xM.row {kk : Nat} {S S' : rx_S} (h : xM kk S S') {k : Nat} (h1 : k ≠ 124) (h2 : k ≠ 125) (h3 : k ≠ 94) (h4 : k ≠ kk) : S'.1 k = S.1 k := funext fun j => h.1 k j h1 h2 h4 (fun q => h3 q.1)
theorem xM.fld {kk : Nat} {S S' : rx_S} (h : xM kk S S') {j : Nat} (h1 : j ≠ 48) (h2 : 94 ≠ kk) : S'.1 94 j = S.1 94 j := h.1 94 j (by decide) (by decide) h2 (fun q => h1 q.2)
theorem xM.ag {kk : Nat} {S S' : rx_S} (h : xM kk S S') (hk : 122 < kk) : agM S S' := ⟨fun k h1 h2 => h.row (by omega) (by omega) (by omega) (by omega), h.fld (by decide) (by omega)⟩
theorem xM.st {kk : Nat} {S S' : rx_S} (h : xM kk S S') (hk : 127 < kk) : S'.1 127 = S.1 127 := h.row (by decide) (by decide) (by decide) (by omega)
theorem xM.i {kk : Nat} {S S' : rx_S} (h : xM kk S S') (hk : kk = 129 ∨ kk = 130 ∨ kk = 131 ∨ kk = 132 ∨ kk = 133 ∨ kk = 136) : iM S S' := ⟨fun k j hq => h.1 k j (by unfold kpM at hq; omega) (by unfold kpM at hq; omega) (by unfold kpM at hq; omega) (by unfold kpM at hq; omega), h.2⟩
section OPH
variable {N : Nat} {T : tx} {n : Nat} {SC SM SC' SM' : rx_S} {st : Nat → Int32} {W P : Nat → Nat} {w0 : Nat}
def may (T : tx) (st : Nat → Int32) (W P : Nat → Nat) (i : Nat) : Nat → Bool
  | 0 => true
  | j + 1 => may T st W P i j && decide (pt T st i (W j) 0 = P j)
theorem may_no {i j : Nat} (h : may T st W P i j = false) : ∀ m, may T st W P i (j + m) = false := by
  intro m
  induction m with
  | zero => exact h
  | succ m ih => rw [show j + (m + 1) = (j + m) + 1 by omega, may, ih]; rfl
def tld (m : Nat) (W P : Nat → Nat) (SC SM : rx_S) : Prop := ∀ j, j < m → W j < 8 ∧ P j < 9 ∧ SC.1 92 j = nI (W j) ∧ SM.1 134 j = nI (W j) ∧ SM.1 135 j = nI (P j) ∧ SC.1 93 j = nI (if P j = 8 then 1 else 8 + P j)
theorem iTold.get (h : iTold SC SM) : ∃ m W P, m ≤ 20 ∧ SC.1 91 4 = nI m ∧ SM.1 94 62 = nI m ∧ tld m W P SC SM := by
  obtain ⟨m, o1, o2, o3, o4⟩ := h
  refine ⟨m, fun j => (SC.1 92 j).toNatClampNeg, fun j => (SM.1 135 j).toNatClampNeg, o1, o2, o3, fun j hj => ?_⟩
  obtain ⟨w, p, hw, hp, e1, e2, e3, e4⟩ := o4 j hj
  have c1 : (SC.1 92 j).toNatClampNeg = w := by rw [e1]; exact nI_clamp (by omega)
  have c2 : (SM.1 135 j).toNatClampNeg = p := by rw [e3]; exact nI_clamp (by omega)
  simp only [c1, c2]
  exact ⟨hw, hp, e1, e2, e3, e4⟩
theorem mayC_L (hN : 5000 ≤ N) {S : rx_S} (hF : WF T) (hT : TC N T S) (hR : stR T (S.1 32) st) (hW : WS T w0 st) {m0 k i : Nat} (hm : m0 ≤ 20) (ht : ∀ j, j < m0 → W j < 8 ∧ P j < 9 ∧ S.1 92 j = nI (W j) ∧ S.1 93 j = nI (if P j = 8 then 1 else 8 + P j)) (hk : k ≤ m0) (hi : i < tT T) : ∀ (m c j : Nat) (S1 : rx_S), j + m = k → m < c → sC S S1 → may T st W P i j = true → pk (f_X1_mayHave_L3 N c (nI i) (nI k) (nI j) S1) (fun r S' => r = (if may T st W P i k = true then 1 else 0) ∧ sC S S') := by
  intro m
  induction m with
  | zero =>
    intro c j S1 hj hc hs hy
    obtain ⟨c, rfl⟩ : ∃ q, c = q + 1 := ⟨c - 1, by omega⟩
    have : j = k := by omega
    subst this
    rw [f_X1_mayHave_L3, if_pos (nI_le (Nat.le_refl _) (by omega)), pk_some, if_pos hy]
    exact ⟨rfl, hs⟩
  | succ m ih =>
    intro c j S1 hj hc hs hy
    obtain ⟨c, rfl⟩ : ∃ q, c = q + 1 := ⟨c - 1, by omega⟩
    obtain ⟨t1, t2, t3, t4⟩ := ht j (by omega)
    rw [f_X1_mayHave_L3, if_neg (nI_ge (by omega) (by omega)), if_neg (show ¬ (20 : Int32) ≤ nI j from nI_ge (b := 20) (by omega) (by decide)), pk_gdn (by omega) (by decide), nI_clamp (by omega), hs.1 92 (by decide) (by decide), t3]
    refine pk_bdm (putWord_ok (w := W j) (p := 0) hN hF (hT.ag hs.ag) (by decide) (hR.s (by decide) hs) hW hi) (fun r S2 h2 => ?_)
    have hs2 := hs.tr h2.2
    have h9 := pt_lt T st i (W j) 0 t1
    rw [pk_let, h2.1]
    have fin : ∀ y : Nat, y = (if pt T st i (W j) 0 = 8 then 1 else 8 + pt T st i (W j) 0) → pk (rx_gd (nI j) 20 (if nI y = (S2.1 93 (Int32.toNatClampNeg (nI j))) then (rx_let (nI j + 1) (fun x22 => f_X1_mayHave_L3 N c (nI i) (nI k) x22 S2)) else (some (0, S2)))) (fun r S' => r = (if may T st W P i k = true then 1 else 0) ∧ sC S S') := by
      intro y hy2
      rw [pk_gdn (by omega) (by decide), nI_clamp (by omega), hs2.1 93 (by decide) (by decide), t4, pk_ite, pk_let, nI_1]
      have hq : nI y = nI (if P j = 8 then 1 else 8 + P j) ↔ pt T st i (W j) 0 = P j := by
        rw [nI_eq (by rw [hy2]; split <;> omega) (by split <;> omega), hy2]
        split <;> split <;> omega
      by_cases q : nI y = nI (if P j = 8 then 1 else 8 + P j)
      · rw [if_pos q]
        exact ih c (j + 1) S2 (by omega) (by omega) hs2 (by rw [may, hy, Bool.true_and, decide_eq_true_iff]; exact hq.mp q)
      · rw [if_neg q]
        have e : may T st W P i (j + 1) = false := by rw [may, hy, Bool.true_and, decide_eq_false_iff_not]; exact fun z => q (hq.mpr z)
        have e2 := may_no e m
        rw [show j + 1 + m = k by omega] at e2
        rw [pk_some, e2]
        exact ⟨rfl, hs2⟩
    rw [pk_ite]
    split
    · rename_i q
      have q : pt T st i (W j) 0 = 8 := (nI_eq (b := 8) (by omega) (by decide)).mp q
      exact fin 1 (by rw [if_pos q])
    · rename_i q
      have q : ¬ pt T st i (W j) 0 = 8 := fun z => q ((nI_eq (b := 8) (by omega) (by decide)).mpr z)
      unfold f_X5_with
      rw [bd_some]
      have e : (1 : Int32) * 8 + nI (pt T st i (W j) 0) = nI (8 + pt T st i (W j) 0) := nI_add 8 _
      rw [e]
      exact fin _ (by rw [if_neg q])
theorem candC_L (hN : 5000 ≤ N) {S : rx_S} (hF : WF T) (hT : TC N T S) (hR : stR T (S.1 32) st) (hW : WS T w0 st) {m0 k : Nat} (hm : m0 ≤ 20) (ht : ∀ j, j < m0 → W j < 8 ∧ P j < 9 ∧ S.1 92 j = nI (W j) ∧ S.1 93 j = nI (if P j = 8 then 1 else 8 + P j)) (hk : k ≤ m0) : ∀ (m c i : Nat) (S1 : rx_S), i + m = tT T → m < c → sC S S1 → pk (f_X1_candidates_L5 N c (nI k) (bts (fun i => may T st W P i k) i) (nI i) S1) (fun r S' => r = bts (fun i => may T st W P i k) (tT T) ∧ sC S S') := by
  intro m
  have h4 := hF.2.2.1
  induction m with
  | zero =>
    intro c i S1 hi hc hs
    obtain ⟨c, rfl⟩ : ∃ q, c = q + 1 := ⟨c - 1, by omega⟩
    have : i = tT T := by omega
    subst this
    rw [f_X1_candidates_L5, (hT.ag hs.ag).1.2.2.1, if_pos (nI_le (Nat.le_refl _) (by omega)), pk_some]
    exact ⟨rfl, hs⟩
  | succ m ih =>
    intro c i S1 hi hc hs
    obtain ⟨c, rfl⟩ : ∃ q, c = q + 1 := ⟨c - 1, by omega⟩
    rw [f_X1_candidates_L5, (hT.ag hs.ag).1.2.2.1, if_neg (nI_ge (by omega) (by omega))]
    have h1 : pk (f_X1_mayHave N (nI i) (nI k) S1) (fun r S' => r = (if may T st W P i k = true then 1 else 0) ∧ sC S1 S') := by
      unfold f_X1_mayHave
      exact mayC_L hN hF (hT.ag hs.ag) (hR.s (by decide) hs) hW hm (fun j hj => by rw [hs.1 92 (by decide) (by decide), hs.1 93 (by decide) (by decide)]; exact ht j hj) hk (by omega) k N 0 S1 (by omega) (by omega) sC.rf rfl
    refine pk_bdm h1 (fun r S2 h2 => ?_)
    rw [h2.1, pk_ite, pk_let, pk_let, pk_let, nI_1]
    by_cases q : may T st W P i k = true
    · rw [if_pos q, if_neg (by decide)]
      have e : bts (fun i => may T st W P i k) (i + 1) = bts (fun i => may T st W P i k) i ||| ((1 : Int32) <<< (nI i &&& 31)) := by rw [bts, if_pos q]
      rw [← e]
      exact ih c (i + 1) S2 (by omega) (by omega) (hs.tr h2.2)
    · rw [if_neg q, if_pos rfl]
      have e : bts (fun i => may T st W P i k) (i + 1) = bts (fun i => may T st W P i k) i := by rw [bts, if_neg q]
      rw [← e]
      exact ih c (i + 1) S2 (by omega) (by omega) (hs.tr h2.2)
theorem mayM_L (hN : 5000 ≤ N) {S : rx_S} (hF : WF T) (hT : TM N T S) {m0 k i : Nat} {x : Int32} (hm : m0 ≤ 20) (ht : ∀ j, j < m0 → S.1 134 j = nI (W j) ∧ S.1 135 j = nI (P j) ∧ W j < 8 ∧ P j < 9) (hk : k ≤ m0) (hi : i < tT T) {Q : Int32 → rx_S → Prop} {K : Int32 → Int32 → Int32 → Int32 → rx_S → Option (Int32 × rx_S)} (kk : ∀ S', sM S S' → pk (K (nI k) x (nI i) (if may T (S.1 127) W P i k = true then 1 else 0) S') Q) : ∀ (m c j : Nat) (S1 : rx_S), j + m = k → m < c → sM S S1 → pk (f_X11_whoMay_L27 N K c (nI k) x (nI i) (if may T (S.1 127) W P i j = true then 1 else 0) (nI j) S1) Q := by
  intro m
  induction m with
  | zero =>
    intro c j S1 hj hc hs
    obtain ⟨c, rfl⟩ : ∃ q, c = q + 1 := ⟨c - 1, by omega⟩
    have : j = k := by omega
    subst this
    rw [f_X11_whoMay_L27, if_pos (nI_le (Nat.le_refl _) (by omega))]
    exact kk S1 hs
  | succ m ih =>
    intro c j S1 hj hc hs
    obtain ⟨c, rfl⟩ : ∃ q, c = q + 1 := ⟨c - 1, by omega⟩
    obtain ⟨t1, t2, t3, t4⟩ := ht j (by omega)
    rw [f_X11_whoMay_L27, if_neg (nI_ge (by omega) (by omega))]
    by_cases q : may T (S.1 127) W P i j = true
    · rw [if_pos q, if_neg (by decide), pk_gdn (by omega) (by decide), nI_clamp (by omega), hs.row (by decide) (by decide) (by decide), t1]
      refine pk_bdm (putAs_ok (w := W j) (p := 0) hN hF (hT.ag hs.ag) hi) (fun r S2 h2 => ?_)
      rw [hs.st] at h2
      have hs2 := hs.tr h2.2
      have h9 := pt_lt T (S.1 127) i (W j) 0 t3
      rw [pk_gdn (by omega) (by decide), hs2.row (by decide) (by decide) (by decide), t2, h2.1, pk_ite, pk_let, pk_let, nI_1]
      have hq : nI (pt T (S.1 127) i (W j) 0) = nI (P j) ↔ pt T (S.1 127) i (W j) 0 = P j := nI_eq (by omega) (by omega)
      have e : (if may T (S.1 127) W P i (j + 1) = true then (1 : Int32) else 0) = if nI (pt T (S.1 127) i (W j) 0) = nI (P j) then 1 else 0 := by
        rw [may, q, Bool.true_and]
        by_cases z : pt T (S.1 127) i (W j) 0 = P j
        · rw [if_pos (hq.mpr z), if_pos (decide_eq_true z)]
        · rw [if_neg (fun y => z (hq.mp y)), if_neg (by simp [z])]
      split
      · rename_i z
        rw [if_pos z] at e
        rw [← e]
        exact ih c (j + 1) S2 (by omega) (by omega) hs2
      · rename_i z
        rw [if_neg z] at e
        rw [← e]
        exact ih c (j + 1) S2 (by omega) (by omega) hs2
    · rw [if_neg q, if_pos rfl]
      have e2 := may_no (Bool.eq_false_iff.mpr q) (m + 1)
      rw [show j + (m + 1) = k by omega] at e2
      have h := kk S1 hs
      rw [e2] at h
      exact h
theorem whoM_L (hN : 5000 ≤ N) {S : rx_S} (hF : WF T) (hT : TM N T S) {m0 k : Nat} (hm : m0 ≤ 20) (ht : ∀ j, j < m0 → S.1 134 j = nI (W j) ∧ S.1 135 j = nI (P j) ∧ W j < 8 ∧ P j < 9) (hk : k ≤ m0) : ∀ (m c i : Nat) (S1 : rx_S), i + m = tT T → m < c → sM S S1 → pk (f_X11_whoMay_L8 N c (nI k) (bts (fun i => may T (S.1 127) W P i k) i) (nI i) S1) (fun r S' => r = bts (fun i => may T (S.1 127) W P i k) (tT T) ∧ sM S S') := by
  intro m
  have h4 := hF.2.2.1
  induction m with
  | zero =>
    intro c i S1 hi hc hs
    obtain ⟨c, rfl⟩ : ∃ q, c = q + 1 := ⟨c - 1, by omega⟩
    have : i = tT T := by omega
    subst this
    obtain ⟨lv, hlv, t⟩ := (hT.ag hs.ag).1
    rw [f_X11_whoMay_L8, t.1, pk_gdn hlv (by decide), nI_clamp (by omega), t.2.2.2.1, if_pos (nI_le (Nat.le_refl _) (by omega)), pk_some]
    exact ⟨rfl, hs⟩
  | succ m ih =>
    intro c i S1 hi hc hs
    obtain ⟨c, rfl⟩ : ∃ q, c = q + 1 := ⟨c - 1, by omega⟩
    obtain ⟨lv, hlv, t⟩ := (hT.ag hs.ag).1
    rw [f_X11_whoMay_L8, t.1, pk_gdn hlv (by decide), nI_clamp (by omega), t.2.2.2.1, if_neg (nI_ge (by omega) (by omega)), pk_let]
    refine mayM_L (S := S1) (x := bts (fun i => may T (S.1 127) W P i k) i) hN hF (hT.ag hs.ag) hm (fun j hj => by rw [hs.row (by decide) (by decide) (by decide), hs.row (by decide) (by decide) (by decide)]; exact ht j hj) hk (by omega) (fun S2 h2 => ?_) k N 0 S1 (by omega) (by omega) sM.rf
    rw [hs.st, pk_ite, pk_let, pk_let, pk_let, nI_1]
    by_cases q : may T (S.1 127) W P i k = true
    · rw [if_pos q, if_neg (by decide)]
      have e : bts (fun i => may T (S.1 127) W P i k) (i + 1) = bts (fun i => may T (S.1 127) W P i k) i ||| ((1 : Int32) <<< (nI i &&& 31)) := by rw [bts, if_pos q]
      rw [← e]
      exact ih c (i + 1) S2 (by omega) (by omega) (hs.tr h2)
    · rw [if_neg q, if_pos rfl]
      have e : bts (fun i => may T (S.1 127) W P i k) (i + 1) = bts (fun i => may T (S.1 127) W P i k) i := by rw [bts, if_neg q]
      rw [← e]
      exact ih c (i + 1) S2 (by omega) (by omega) (hs.tr h2)
theorem known_cases {m0 : Nat} (hm : m0 ≤ 20) (o2 : SC.1 91 4 = nI m0) (o3 : SM.1 94 62 = nI m0) (x : Int32) : (∃ k, k ≤ m0 ∧ x = nI k ∧ f_X1_isKnown x SC = some (1, SC) ∧ f_X11_in x 0 (SM.1 94 62) SM = some (1, SM)) ∨ (f_X1_isKnown x SC = some (0, SC) ∧ f_X11_in x 0 (SM.1 94 62) SM = some (0, SM)) := by
  rw [o3, in_eq]
  unfold f_X1_isKnown
  rw [o2]
  rcases rng_cases (x := x) (y := nI m0) (m := m0) (by omega) rfl with ⟨w, hw, hx, h⟩ | h
  · rw [if_neg (i_nlt.mpr h.1), if_neg (i_nlt.mpr h.2), if_pos h]
    exact Or.inl ⟨w, hw, hx, rfl, rfl⟩
  · rw [if_neg h]
    refine Or.inr ⟨?_, rfl⟩
    by_cases q : x < 0
    · rw [if_pos q]
    · rw [if_neg q, if_pos (i_nle.mp (fun z => h ⟨i_nlt.mp q, z⟩))]
theorem whoMay_ok (hN : 5000 ≤ N) (hF : WF T) (hM : TM N T SM) {m0 k : Nat} (hm : m0 ≤ 20) (ht : tld m0 W P SC SM) (hk : k ≤ m0) {S1 : rx_S} (hc : cM T SM S1) : pk (f_X11_whoMay_L8 N N (nI k) 0 0 S1) (fun r S' => r = bts (fun i => may T (S1.1 127) W P i k) (tT T) ∧ sM S1 S') := whoM_L hN hF (hM.ag hc.i.ag) hm (fun j hj => by
  rw [hc.2.2.1 134 (by decide) (by decide), hc.2.2.1 135 (by decide) (by decide)]
  obtain ⟨a1, a2, -, a4, a5, -⟩ := ht j hj
  exact ⟨a4, a5, a1, a2⟩) hk (tT T) N 0 S1 (by omega) (by have := hF.2.2.1; omega) sM.rf
theorem cand_ok (hN : 5000 ≤ N) (hF : WF T) (hT : TC N T SC) (hR : stR T (SC.1 32) st) (hW : WS T w0 st) {m0 k : Nat} (hm : m0 ≤ 20) (ht : tld m0 W P SC SM) (hk : k ≤ m0) : pk (f_X1_candidates N (nI k) SC) (fun r S' => r = bts (fun i => may T st W P i k) (tT T) ∧ sC SC S') := candC_L hN hF hT hR hW hm (fun j hj => by
  obtain ⟨a1, a2, a3, -, -, a6⟩ := ht j hj
  exact ⟨a1, a2, a3, a6⟩) hk (tT T) N 0 SC (by omega) (by have := hF.2.2.1; omega) sC.rf
theorem st_who (hN : 5000 ≤ N) : ST_who N (Inv N) := by
  intro n SC SM hn h x1
  obtain ⟨-, -, -, -, ho, T, ⟨hF, hC', hM⟩, ⟨hR, w, hw, hW⟩, -, -⟩ := id h
  obtain ⟨m0, W, P, o1, o2, o3, o4⟩ := ho.get
  unfold f_X10_who f_X11_who
  rcases known_cases o1 o2 o3 x1 with ⟨k, hk, rfl, e1, e2⟩ | ⟨e1, e2⟩
  · rw [e1, bd_some, if_neg (by decide), e2, bd_some, if_neg (by decide)]
    obtain ⟨u, S1, e4, hc⟩ := copies_ok hN hM
    have hc : cM T SM S1 := hc
    unfold f_X11_whoMay
    rw [e4, bd_some]
    refine st_q (R := bts (fun i => may T (S1.1 127) W P i k) (tT T)) h ?_ ?_
    · refine pk_bdm (cand_ok hN hF hC' (hc.st hR) (hc.ws hW) o1 o4 hk) (fun r S2 h2 => ?_)
      rw [pk_some]
      exact ⟨h2.1, h2.2.i⟩
    · refine pk_bdm (whoMay_ok hN hF hM o1 o4 hk hc) (fun r S2 h2 => ?_)
      rw [pk_some]
      exact ⟨h2.1, hc.i.tr h2.2.i⟩
  · rw [e1, bd_some, if_pos rfl, e2, bd_some, if_pos rfl]
    exact st_q (R := -1) h (by rw [pk_some]; exact ⟨rfl, iC.rf⟩) (by rw [pk_some]; exact ⟨rfl, iM.rf⟩)
theorem bts_bit (p : Nat → Bool) {t i : Nat} (ht : t ≤ 4) (hi : i < t) : (rx_ushr (bts p t) (nI i) &&& 1 = if p i = true then 1 else 0) ∧ ((bts p t >>> (nI i &&& 31)) &&& 1 = if p i = true then 1 else 0) := by
  have key : ∀ b0 b1 b2 b3 : Bool, ∀ t, t < 5 → ∀ i, i < t → (rx_ushr (bts (fun c => if c = 0 then b0 else if c = 1 then b1 else if c = 2 then b2 else b3) t) (nI i) &&& 1 = if (if i = 0 then b0 else if i = 1 then b1 else if i = 2 then b2 else b3) = true then 1 else 0) ∧ ((bts (fun c => if c = 0 then b0 else if c = 1 then b1 else if c = 2 then b2 else b3) t >>> (nI i &&& 31)) &&& 1 = if (if i = 0 then b0 else if i = 1 then b1 else if i = 2 then b2 else b3) = true then 1 else 0) := by decide +kernel
  have h := key (p 0) (p 1) (p 2) (p 3) t (by omega) i hi
  have e : ∀ c, c < 4 → p c = (if c = 0 then p 0 else if c = 1 then p 1 else if c = 2 then p 2 else p 3) := by
    intro c hc
    match c, hc with
    | 0, _ => rfl
    | 1, _ => rfl
    | 2, _ => rfl
    | 3, _ => rfl
  rw [← bts_ext (fun c hc => e c (by omega)), ← e i (by omega)] at h
  exact h
/-- how many of the set put a word so -/
def cnt (T : tx) (st : Nat → Int32) (p : Nat → Bool) (w v : Nat) : Nat → Nat
  | 0 => 0
  | i + 1 => if p i = true ∧ pt T st i w 0 = v then cnt T st p w v i + 1 else cnt T st p w v i
def mwo (T : tx) (st : Nat → Int32) (p : Nat → Bool) (t w : Nat) : Nat → Nat
  | 0 => 0
  | v + 1 => max (mwo T st p t w v) (cnt T st p w v t)
def mlo (T : tx) (st : Nat → Int32) (p : Nat → Bool) (t w : Nat) : Nat → Nat
  | 0 => 0
  | i + 1 => if p i = true then max (mlo T st p t w i) (cnt T st p w (pt T st i w 0) t) else mlo T st p t w i
variable {p : Nat → Bool} {t w : Nat}
theorem cnt_le {v : Nat} : ∀ i, cnt T st p w v i ≤ i := by
  intro i
  induction i with
  | zero => exact Nat.le_refl _
  | succ i ih => unfold cnt; split <;> omega
theorem cnt_pos {v : Nat} : ∀ i, 0 < cnt T st p w v i → ∃ j, j < i ∧ p j = true ∧ pt T st j w 0 = v := by
  intro i
  induction i with
  | zero => intro h; exact absurd h (Nat.lt_irrefl _)
  | succ i ih =>
    intro h
    unfold cnt at h
    split at h
    · rename_i q; exact ⟨i, by omega, q.1, q.2⟩
    · obtain ⟨j, h1, h2⟩ := ih h
      exact ⟨j, by omega, h2⟩
theorem mwo_ge {v : Nat} : ∀ m, v < m → cnt T st p w v t ≤ mwo T st p t w m := by
  intro m
  induction m with
  | zero => intro h; omega
  | succ m ih =>
    intro h
    unfold mwo
    by_cases e : v = m
    · subst e; exact Nat.le_max_right _ _
    · exact Nat.le_trans (ih (by omega)) (Nat.le_max_left _ _)
theorem mlo_ge {j : Nat} (hp : p j = true) : ∀ m, j < m → cnt T st p w (pt T st j w 0) t ≤ mlo T st p t w m := by
  intro m
  induction m with
  | zero => intro h; omega
  | succ m ih =>
    intro h
    unfold mlo
    by_cases e : j = m
    · subst e; rw [if_pos hp]; exact Nat.le_max_right _ _
    · split
      · exact Nat.le_trans (ih (by omega)) (Nat.le_max_left _ _)
      · exact ih (by omega)
theorem mlo_le {b : Nat} (hw : w < 8) (hb : ∀ v, v < 9 → cnt T st p w v t ≤ b) : ∀ m, mlo T st p t w m ≤ b := by
  intro m
  induction m with
  | zero => exact Nat.zero_le _
  | succ m ih =>
    unfold mlo
    split
    · exact Nat.max_le.mpr ⟨ih, hb _ (pt_lt T st m w 0 hw)⟩
    · exact ih
theorem mwo_le {b : Nat} (hb : ∀ v, v < 9 → cnt T st p w v t ≤ b) : ∀ m, m ≤ 9 → mwo T st p t w m ≤ b := by
  intro m
  induction m with
  | zero => intro _; exact Nat.zero_le _
  | succ m ih =>
    intro h
    unfold mwo
    exact Nat.max_le.mpr ⟨ih (by omega), hb m (by omega)⟩
theorem mlo_mwo (hw : w < 8) : mlo T st p t w t = mwo T st p t w 9 := by
  apply Nat.le_antisymm
  · exact mlo_le hw (fun v hv => mwo_ge 9 hv) t
  · refine mwo_le (fun v hv => ?_) 9 (Nat.le_refl _)
    rcases Nat.eq_zero_or_pos (cnt T st p w v t) with e | e
    · rw [e]; exact Nat.zero_le _
    · obtain ⟨j, h1, h2, h3⟩ := cnt_pos t e
      have := mlo_ge (T := T) (st := st) (w := w) (t := t) h2 t h1
      rw [h3] at this
      exact this
theorem mwo_lt : mwo T st p t w 9 ≤ t := mwo_le (fun v _ => cnt_le t) 9 (Nat.le_refl _)
def am (f : Nat → Nat) : Nat → Nat
  | 0 => 0
  | w + 1 => if f (am f w) ≤ f (w + 1) then am f w else w + 1
theorem am_le (f : Nat → Nat) : ∀ w, am f w ≤ w := by
  intro w
  induction w with
  | zero => exact Nat.le_refl _
  | succ w ih => unfold am; split <;> omega
theorem leftC_L (hN : 5000 ≤ N) {S : rx_S} (hF : WF T) (hT : TC N T S) (hR : stR T (S.1 32) st) (hW : WS T w0 st) {v : Nat} (hw : w < 8) (hv : v < 9) : ∀ (m c i : Nat) (S1 : rx_S), i + m = tT T → m < c → sC S S1 → pk (f_X1_leftBy_L6 N c (bts p (tT T)) (nI w) (nI v) (nI (cnt T st p w v i)) (nI i) S1) (fun r S' => r = nI (cnt T st p w v (tT T)) ∧ sC S S') := by
  intro m
  have h4 := hF.2.2.1
  induction m with
  | zero =>
    intro c i S1 hi hc hs
    obtain ⟨c, rfl⟩ : ∃ q, c = q + 1 := ⟨c - 1, by omega⟩
    have : i = tT T := by omega
    subst this
    rw [f_X1_leftBy_L6, (hT.ag hs.ag).1.2.2.1, if_pos (nI_le (Nat.le_refl _) (by omega)), pk_some]
    exact ⟨rfl, hs⟩
  | succ m ih =>
    intro c i S1 hi hc hs
    obtain ⟨c, rfl⟩ : ∃ q, c = q + 1 := ⟨c - 1, by omega⟩
    rw [f_X1_leftBy_L6, (hT.ag hs.ag).1.2.2.1, if_neg (nI_ge (by omega) (by omega)), (bts_bit p h4 (show i < tT T by omega)).1]
    by_cases q : p i = true
    · rw [if_pos q, if_neg (by decide)]
      refine pk_bdm (putWord_ok (w := w) (p := 0) hN hF (hT.ag hs.ag) (by decide) (hR.s (by decide) hs) hW (show i < tT T by omega)) (fun r S2 h2 => ?_)
      have h9 := pt_lt T st i w 0 hw
      have hq : nI (pt T st i w 0) = nI v ↔ pt T st i w 0 = v := nI_eq (by omega) (by omega)
      rw [h2.1, pk_ite, pk_let, pk_let, pk_let, nI_1, nI_1]
      split
      · rename_i z
        have e : cnt T st p w v (i + 1) = cnt T st p w v i + 1 := by rw [cnt, if_pos ⟨q, hq.mp z⟩]
        rw [← e]
        exact ih c (i + 1) S2 (by omega) (by omega) (hs.tr h2.2)
      · rename_i z
        have e : cnt T st p w v (i + 1) = cnt T st p w v i := by rw [cnt, if_neg (fun y => z (hq.mpr y.2))]
        rw [← e]
        exact ih c (i + 1) S2 (by omega) (by omega) (hs.tr h2.2)
    · rw [if_neg q, if_pos rfl, pk_let, nI_1]
      have e : cnt T st p w v (i + 1) = cnt T st p w v i := by rw [cnt, if_neg (fun y => q y.1)]
      rw [← e]
      exact ih c (i + 1) S1 (by omega) (by omega) hs
theorem nI_max {a b : Nat} (ha : a < 2 ^ 31) (hb : b < 2 ^ 31) : (if nI a < nI b then nI b else nI a) = nI (max a b) := by
  by_cases q : a < b
  · rw [if_pos (nI_lt q hb), Nat.max_eq_right (by omega)]
  · rw [if_neg (nI_nlt (by omega) ha), Nat.max_eq_left (by omega)]
theorem mostC_L (hN : 5000 ≤ N) {S : rx_S} (hF : WF T) (hT : TC N T S) (hR : stR T (S.1 32) st) (hW : WS T w0 st) (hw : w < 8) : ∀ (m c i : Nat) (S1 : rx_S), i + m = tT T → m < c → sC S S1 → pk (f_X1_mostLeft_L6 N c (bts p (tT T)) (nI w) (nI (mlo T st p (tT T) w i)) (nI i) S1) (fun r S' => r = nI (mlo T st p (tT T) w (tT T)) ∧ sC S S') := by
  intro m
  have h4 := hF.2.2.1
  induction m with
  | zero =>
    intro c i S1 hi hc hs
    obtain ⟨c, rfl⟩ : ∃ q, c = q + 1 := ⟨c - 1, by omega⟩
    have : i = tT T := by omega
    subst this
    rw [f_X1_mostLeft_L6, (hT.ag hs.ag).1.2.2.1, if_pos (nI_le (Nat.le_refl _) (by omega)), pk_some]
    exact ⟨rfl, hs⟩
  | succ m ih =>
    intro c i S1 hi hc hs
    obtain ⟨c, rfl⟩ : ∃ q, c = q + 1 := ⟨c - 1, by omega⟩
    rw [f_X1_mostLeft_L6, (hT.ag hs.ag).1.2.2.1, if_neg (nI_ge (by omega) (by omega)), (bts_bit p h4 (show i < tT T by omega)).1]
    by_cases q : p i = true
    · rw [if_pos q, if_neg (by decide)]
      refine pk_bdm (putWord_ok (w := w) (p := 0) hN hF (hT.ag hs.ag) (by decide) (hR.s (by decide) hs) hW (show i < tT T by omega)) (fun r S2 h2 => ?_)
      have h9 := pt_lt T st i w 0 hw
      have hs2 := hs.tr h2.2
      rw [h2.1]
      have h3 : pk (f_X1_leftBy N (bts p (tT T)) (nI w) (nI (pt T st i w 0)) S2) (fun r S' => r = nI (cnt T st p w (pt T st i w 0) (tT T)) ∧ sC S2 S') := leftC_L hN hF (hT.ag hs2.ag) (hR.s (by decide) hs2) hW hw h9 (tT T) N 0 S2 (by omega) (by omega) sC.rf
      refine pk_bdm h3 (fun r S3 h3 => ?_)
      have b1 : mlo T st p (tT T) w i ≤ tT T := mlo_le hw (fun v _ => cnt_le _) i
      have b2 : cnt T st p w (pt T st i w 0) (tT T) ≤ tT T := cnt_le _
      rw [h3.1, pk_let, pk_let, nI_1, nI_max (by omega) (by omega)]
      have e : mlo T st p (tT T) w (i + 1) = max (mlo T st p (tT T) w i) (cnt T st p w (pt T st i w 0) (tT T)) := by rw [mlo, if_pos q]
      rw [← e]
      exact ih c (i + 1) S3 (by omega) (by omega) (hs2.tr h3.2)
    · rw [if_neg q, if_pos rfl, pk_let, nI_1]
      have e : mlo T st p (tT T) w (i + 1) = mlo T st p (tT T) w i := by rw [mlo, if_neg q]
      rw [← e]
      exact ih c (i + 1) S1 (by omega) (by omega) hs
theorem mostC_ok (hN : 5000 ≤ N) {S : rx_S} (hF : WF T) (hT : TC N T S) (hR : stR T (S.1 32) st) (hW : WS T w0 st) (hw : w < 8) : pk (f_X1_mostLeft N (bts p (tT T)) (nI w) S) (fun r S' => r = nI (mwo T st p (tT T) w 9) ∧ sC S S') := by
  have h := mostC_L (p := p) hN hF hT hR hW hw (tT T) N 0 S (by omega) (by have := hF.2.2.1; omega) sC.rf
  rw [mlo_mwo hw] at h
  exact h
theorem bestC_L {S : rx_S} {B : Int32} {f : Nat → Nat} (hb : ∀ w, f w ≤ 4) (hmost : ∀ w S1, w < 8 → sC S S1 → pk (f_X1_mostLeft N B (nI w) S1) (fun r S' => r = nI (f w) ∧ sC S1 S')) : ∀ (m c w : Nat) (S1 : rx_S) (b l : Int32), w + m = 8 → m < c → sC S S1 → (w = 0 → b = -2 ∧ l = 1000000) → (0 < w → b = nI (am f (w - 1)) ∧ l = nI (f (am f (w - 1)))) → pk (f_X1_bestWord_L25 N c B b l (nI w) S1) (fun r S' => r = nI (am f 7) ∧ sC S S') := by
  intro m
  induction m with
  | zero =>
    intro c w S1 b l hw hc hs h0 h1
    obtain ⟨c, rfl⟩ : ∃ q, c = q + 1 := ⟨c - 1, by omega⟩
    have : w = 8 := by omega
    subst this
    rw [f_X1_bestWord_L25, if_pos (by decide), pk_some]
    exact ⟨(h1 (by decide)).1, hs⟩
  | succ m ih =>
    intro c w S1 b l hw hc hs h0 h1
    obtain ⟨c, rfl⟩ : ∃ q, c = q + 1 := ⟨c - 1, by omega⟩
    rw [f_X1_bestWord_L25, if_neg (show ¬ (8 : Int32) ≤ nI w from nI_ge (b := 8) (by omega) (by decide))]
    refine pk_bdm (hmost w S1 (by omega) hs) (fun r S2 h2 => ?_)
    have b1 := hb w
    rw [h2.1, pk_ite, pk_let, pk_let, nI_1]
    rcases Nat.eq_zero_or_pos w with e | e
    · obtain ⟨-, rfl⟩ := h0 e
      subst e
      rw [if_neg (show ¬ (1000000 : Int32) ≤ nI (f 0) from nI_ge (b := 1000000) (by omega) (by decide))]
      exact ih c 1 S2 _ _ (by omega) (by omega) (hs.tr h2.2) (fun z => absurd z (by decide)) (fun _ => ⟨rfl, rfl⟩)
    · obtain ⟨rfl, rfl⟩ := h1 e
      obtain ⟨w', rfl⟩ : ∃ q, w = q + 1 := ⟨w - 1, by omega⟩
      have b2 := hb (am f w')
      have hq := nI_leI (a := f (am f w')) (b := f (w' + 1)) (by omega) (by omega)
      rw [Nat.add_sub_cancel]
      split
      · rename_i z
        have ea : am f (w' + 1) = am f w' := by rw [am, if_pos (hq.mp z)]
        exact ih c (w' + 1 + 1) S2 _ _ (by omega) (by omega) (hs.tr h2.2) (fun z => absurd z (by omega)) (fun _ => by
          show _ = nI (am f (w' + 1)) ∧ _ = nI (f (am f (w' + 1)))
          rw [ea]
          exact ⟨rfl, rfl⟩)
      · rename_i z
        have ea : am f (w' + 1) = w' + 1 := by rw [am, if_neg (fun y => z (hq.mpr y))]
        exact ih c (w' + 1 + 1) S2 _ _ (by omega) (by omega) (hs.tr h2.2) (fun z => absurd z (by omega)) (fun _ => by
          show _ = nI (am f (w' + 1)) ∧ _ = nI (f (am f (w' + 1)))
          rw [ea]
          exact ⟨rfl, rfl⟩)
theorem wo2_L {S : rx_S} {x y : Int32} {Q : Int32 → rx_S → Prop} {K : Int32 → Int32 → rx_S → Option (Int32 × rx_S)} (kk : ∀ S', xM 136 S S' → (∀ v, v < 9 → S'.1 136 v = 0) → pk (K x y S') Q) : ∀ (m c i : Nat) (S1 : rx_S), i + m = 9 → m < c → xM 136 S S1 → (∀ v, v < i → S1.1 136 v = 0) → pk (f_X11_worstOf_L2 N K c x y (nI i) S1) Q := by
  intro m
  induction m with
  | zero =>
    intro c i S1 hi hc hs h
    obtain ⟨c, rfl⟩ : ∃ q, c = q + 1 := ⟨c - 1, by omega⟩
    rw [f_X11_worstOf_L2, if_pos (show (9 : Int32) ≤ nI i from nI_le (a := 9) (by omega) (by omega))]
    exact kk S1 hs (fun v hv => h v (by omega))
  | succ m ih =>
    intro c i S1 hi hc hs h
    obtain ⟨c, rfl⟩ : ∃ q, c = q + 1 := ⟨c - 1, by omega⟩
    rw [f_X11_worstOf_L2, if_neg (show ¬ (9 : Int32) ≤ nI i from nI_ge (b := 9) (by omega) (by decide)), pk_gdn (by omega) (by decide), pk_let, pk_let, nI_1, nI_clamp (by omega)]
    refine ih c (i + 1) _ (by omega) (by omega) (hs.tr xM.u) (fun v hv => ?_)
    rw [ui_same]
    by_cases e : v = i
    · subst e; rw [upd_at]
    · rw [upd_ne e]; exact h v (by omega)
theorem wo23_L (hN : 5000 ≤ N) {S : rx_S} (hF : WF T) (hT : TM N T S) (hw : w < 8) {Q : Int32 → rx_S → Prop} {K : rx_S → Option (Int32 × rx_S)} (kk : ∀ S', xM 136 S S' → (∀ v, v < 9 → S'.1 136 v = nI (cnt T (S.1 127) p w v (tT T))) → pk (K S') Q) : ∀ (m c i : Nat) (S1 : rx_S), i + m = tT T → m < c → xM 136 S S1 → (∀ v, v < 9 → S1.1 136 v = nI (cnt T (S.1 127) p w v i)) → pk (f_X11_worstOf_L23 N K c (bts p (tT T)) (nI w) (nI i) S1) Q := by
  intro m
  have h4 := hF.2.2.1
  induction m with
  | zero =>
    intro c i S1 hi hc hs h
    obtain ⟨c, rfl⟩ : ∃ q, c = q + 1 := ⟨c - 1, by omega⟩
    have : i = tT T := by omega
    subst this
    obtain ⟨lv, hlv, t⟩ := (hT.ag (hs.ag (by decide))).1
    rw [f_X11_worstOf_L23, t.1, pk_gdn hlv (by decide), nI_clamp (by omega), t.2.2.2.1, if_pos (nI_le (Nat.le_refl _) (by omega))]
    exact kk S1 hs h
  | succ m ih =>
    intro c i S1 hi hc hs h
    obtain ⟨c, rfl⟩ : ∃ q, c = q + 1 := ⟨c - 1, by omega⟩
    obtain ⟨lv, hlv, t⟩ := (hT.ag (hs.ag (by decide))).1
    rw [f_X11_worstOf_L23, t.1, pk_gdn hlv (by decide), nI_clamp (by omega), t.2.2.2.1, if_neg (nI_ge (by omega) (by omega)), (bts_bit p h4 (show i < tT T by omega)).2]
    by_cases q : p i = true
    · rw [if_pos q, if_pos rfl]
      refine pk_bdm (putAs_ok (w := w) (p := 0) hN hF (hT.ag (hs.ag (by decide))) (show i < tT T by omega)) (fun r S2 h2 => ?_)
      rw [hs.st (by decide)] at h2
      have h9 := pt_lt T (S.1 127) i w 0 hw
      rw [h2.1, pk_gdn h9 (by decide), pk_gdn h9 (by decide), pk_let, pk_let, nI_1, nI_clamp (by omega), h2.2.row (by decide) (by decide) (by decide), h _ h9, nI_1]
      refine ih c (i + 1) _ (by omega) (by omega) ((hs.tr h2.2.x).tr xM.u) (fun v hv => ?_)
      rw [ui_same, h2.2.row (by decide) (by decide) (by decide)]
      by_cases e : v = pt T (S.1 127) i w 0
      · rw [e, upd_at, cnt, if_pos ⟨q, rfl⟩]
      · rw [upd_ne e, h v hv, cnt, if_neg (fun y => e y.2.symm)]
    · rw [if_neg q, if_neg (by decide), pk_let, nI_1]
      refine ih c (i + 1) S1 (by omega) (by omega) hs (fun v hv => ?_)
      rw [h v hv, cnt, if_neg (fun y => q y.1)]
theorem wo72_L {S : rx_S} {f g : Nat → Nat} (hf : ∀ v, v < 9 → S.1 136 v = nI (f v) ∧ f v ≤ 100) (hg : ∀ v, g (v + 1) = max (g v) (f v)) (hb : ∀ v, v ≤ 9 → g v ≤ 100) : ∀ (m c v : Nat), v + m = 9 → m < c → f_X11_worstOf_L72 N c (nI (g v)) (nI v) S = some (nI (g 9), S) := by
  intro m
  induction m with
  | zero =>
    intro c v hv hc
    obtain ⟨c, rfl⟩ : ∃ q, c = q + 1 := ⟨c - 1, by omega⟩
    have : v = 9 := by omega
    subst this
    rw [f_X11_worstOf_L72, if_pos (by decide)]
  | succ m ih =>
    intro c v hv hc
    obtain ⟨c, rfl⟩ : ∃ q, c = q + 1 := ⟨c - 1, by omega⟩
    obtain ⟨e, b⟩ := hf v (by omega)
    have hbv := hb v (by omega)
    rw [f_X11_worstOf_L72, if_neg (show ¬ (9 : Int32) ≤ nI v from nI_ge (b := 9) (by omega) (by decide)), rx_gd_in (vp_in_nI (show v < 9 by omega) (by decide)), rx_gd_in (vp_in_nI (show v < 9 by omega) (by decide)), nI_clamp (by omega), e]
    simp only [rx_let, nI_1]
    by_cases q : f v ≤ g v
    · rw [if_pos (nI_le q (by omega))]
      have e2 : g (v + 1) = g v := by rw [hg, Nat.max_eq_left q]
      rw [← e2]
      exact ih c (v + 1) (by omega) (by omega)
    · rw [if_neg (nI_ge (by omega) (by omega))]
      have e2 : g (v + 1) = f v := by rw [hg, Nat.max_eq_right (by omega)]
      rw [← e2]
      exact ih c (v + 1) (by omega) (by omega)
theorem worst_ok (hN : 5000 ≤ N) {S : rx_S} (hF : WF T) (hT : TM N T S) (hw : w < 8) : pk (f_X11_worstOf N (bts p (tT T)) (nI w) S) (fun r S' => r = nI (mwo T (S.1 127) p (tT T) w 9) ∧ xM 136 S S') := by
  have h4 := hF.2.2.1
  unfold f_X11_worstOf
  rw [pk_let]
  refine wo2_L (fun S1 h1 g1 => ?_) 9 N 0 S (by omega) (by omega) xM.rf (fun v hv => absurd hv (by omega))
  rw [pk_let]
  refine wo23_L (p := p) (w := w) hN hF (hT.ag (h1.ag (by decide))) hw (fun S2 h2 g2 => ?_) (tT T) N 0 S1 (by omega) (by omega) xM.rf (fun v hv => by rw [g1 v hv]; rfl)
  rw [h1.st (by decide)] at g2
  have e := wo72_L (N := N) (S := S2) (f := fun v => cnt T (S.1 127) p w v (tT T)) (g := mwo T (S.1 127) p (tT T) w) (fun v hv => ⟨g2 v hv, Nat.le_trans (cnt_le _) (by omega)⟩) (fun v => rfl) (fun v hv => Nat.le_trans (mwo_le (fun v _ => cnt_le _) v hv) (by omega)) 9 N 0 (by omega) (by omega)
  have e : f_X11_worstOf_L72 N N 0 0 S2 = _ := e
  rw [e, pk_some]
  exact ⟨rfl, h1.tr h2⟩
theorem askM_L (hN : 5000 ≤ N) {S : rx_S} (hF : WF T) (hT : TM N T S) : ∀ (m c w : Nat) (S1 : rx_S), w + 1 + m = 8 → m < c → xM 136 S S1 → pk (f_X11_ask_L32 N c (bts p (tT T)) (nI (am (fun w => mwo T (S.1 127) p (tT T) w 9) w)) (nI (w + 1)) S1) (fun r S' => r = nI (am (fun w => mwo T (S.1 127) p (tT T) w 9) 7) ∧ xM 136 S S') := by
  intro m
  have h4 := hF.2.2.1
  induction m with
  | zero =>
    intro c w S1 hw hc hs
    obtain ⟨c, rfl⟩ : ∃ q, c = q + 1 := ⟨c - 1, by omega⟩
    have : w = 7 := by omega
    subst this
    rw [f_X11_ask_L32, if_pos (by decide), pk_some]
    exact ⟨rfl, hs⟩
  | succ m ih =>
    intro c w S1 hw hc hs
    obtain ⟨c, rfl⟩ : ∃ q, c = q + 1 := ⟨c - 1, by omega⟩
    rw [f_X11_ask_L32, if_neg (show ¬ (8 : Int32) ≤ nI (w + 1) from nI_ge (b := 8) (by omega) (by decide))]
    refine pk_bdm (worst_ok (p := p) (w := w + 1) hN hF (hT.ag (hs.ag (by decide))) (by omega)) (fun r S2 h2 => ?_)
    have hs2 := hs.tr h2.2
    have hal := am_le (fun w => mwo T (S.1 127) p (tT T) w 9) w
    refine pk_bdm (worst_ok (p := p) (w := am (fun w => mwo T (S.1 127) p (tT T) w 9) w) hN hF (hT.ag (hs2.ag (by decide))) (by omega)) (fun r2 S3 h3 => ?_)
    rw [h2.1, h3.1, hs.st (by decide), hs2.st (by decide), pk_ite, pk_let, pk_let, nI_1]
    have b1 : mwo T (S.1 127) p (tT T) (w + 1) 9 ≤ tT T := mwo_lt
    have b2 : mwo T (S.1 127) p (tT T) (am (fun w => mwo T (S.1 127) p (tT T) w 9) w) 9 ≤ tT T := mwo_lt
    have hq := nI_leI (a := mwo T (S.1 127) p (tT T) (am (fun w => mwo T (S.1 127) p (tT T) w 9) w) 9) (b := mwo T (S.1 127) p (tT T) (w + 1) 9) (by omega) (by omega)
    split
    · rename_i z
      have ea : am (fun w => mwo T (S.1 127) p (tT T) w 9) (w + 1) = am (fun w => mwo T (S.1 127) p (tT T) w 9) w := by rw [am, if_pos (hq.mp z)]
      rw [← ea]
      exact ih c (w + 1) S3 (by omega) (by omega) (hs2.tr h3.2)
    · rename_i z
      have ea : am (fun w => mwo T (S.1 127) p (tT T) w 9) (w + 1) = w + 1 := by rw [am, if_neg (fun y => z (hq.mpr y))]
      have := ih c (w + 1) S3 (by omega) (by omega) (hs2.tr h3.2)
      rw [ea] at this
      exact this
theorem st_ask (hN : 5000 ≤ N) : ST_ask N (Inv N) := by
  intro n SC SM hn h x1
  obtain ⟨-, -, -, -, ho, T, ⟨hF, hC', hM⟩, ⟨hR, w, hw, hW⟩, -, -⟩ := id h
  obtain ⟨m0, W, P, o1, o2, o3, o4⟩ := ho.get
  unfold f_X10_ask f_X11_ask
  rcases known_cases o1 o2 o3 x1 with ⟨k, hk, rfl, e1, e2⟩ | ⟨e1, e2⟩
  · rw [e1, bd_some, if_neg (by decide), e2, bd_some, if_neg (by decide)]
    obtain ⟨u, S1, e4, hc⟩ := copies_ok hN hM
    have hc : cM T SM S1 := hc
    unfold f_X11_whoMay f_X1_bestWord
    rw [e4, bd_some]
    obtain ⟨r1, A, f1, g1, i1⟩ := cand_ok hN hF hC' (hc.st hR) (hc.ws hW) o1 o4 hk
    obtain ⟨r2, B, f2, g2, i2⟩ := whoMay_ok hN hF hM o1 o4 hk hc
    rw [f1, bd_some, f2, bd_some, g1, g2]
    by_cases q : bts (fun i => may T (S1.1 127) W P i k) (tT T) = 0
    · rw [if_pos q, if_pos q, bd_some]
      exact st_q (R := -2) h (by rw [pk_some]; exact ⟨rfl, i1.i⟩) (by rw [pk_some]; exact ⟨rfl, hc.i.tr i2.i⟩)
    · rw [if_neg q, if_neg q]
      refine st_q (R := nI (am (fun w => mwo T (S1.1 127) (fun i => may T (S1.1 127) W P i k) (tT T) w 9) 7)) h ?_ ?_
      · refine pk_bdm (bestC_L (N := N) (S := A) (B := bts (fun i => may T (S1.1 127) W P i k) (tT T)) (f := fun w => mwo T (S1.1 127) (fun i => may T (S1.1 127) W P i k) (tT T) w 9) (fun w => Nat.le_trans mwo_lt hF.2.2.1) (fun w S3 hw8 hs3 => mostC_ok hN hF ((hC'.ag i1.ag).ag hs3.ag) (((hc.st hR).s (by decide) i1).s (by decide) hs3) (hc.ws hW) hw8) 8 N 0 A (-2) 1000000 (by omega) (by omega) sC.rf (fun _ => ⟨rfl, rfl⟩) (fun z => absurd z (by decide))) (fun r S2 h2 => ?_)
        rw [pk_some]
        exact ⟨h2.1, i1.i.tr h2.2.i⟩
      · have hh := askM_L (p := fun i => may T (S1.1 127) W P i k) hN hF ((hM.ag hc.i.ag).ag i2.ag) 7 N 0 B (by omega) (by omega) xM.rf
        rw [i2.st] at hh
        exact pk_mono hh (fun r S2 h2 => ⟨h2.1, (hc.i.tr i2.i).tr (h2.2.i (by omega))⟩)
  · rw [e1, bd_some, if_pos rfl, e2, bd_some, if_pos rfl]
    exact st_q (R := -1) h (by rw [pk_some]; exact ⟨rfl, iC.rf⟩) (by rw [pk_some]; exact ⟨rfl, iM.rf⟩)
end OPH
