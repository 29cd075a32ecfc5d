/-! ===== READ 17: the class's facts ===== -/
def sqF (z : tks) : Nat → List Nat → Nat → Nat → Prop
  | _, [], _, _ => False
  | p, k :: ks, f, q => (tkFl z p k f ∧ q = p) ∨ ((kK z p = k ∧ p < 400) ∧ sqF z (p + 1) ks f q)
def sqT (z : tks) : Nat → List Nat → Prop
  | _, [] => True
  | p, k :: ks => (kK z p = k ∧ p < 400) ∧ sqT z (p + 1) ks
def kCf (S S' : rx_S) : Prop := (∀ k, (k < 13 ∨ 31 < k ∨ k = 14 ∨ k = 16 ∨ k = 17) → S'.1 k = S.1 k) ∧ (∀ k, k ≠ 30 → S'.2 k = S.2 k)
theorem kCf.tr {S S' S'' : rx_S} (h : kCf S S') (g : kCf S' S'') : kCf S S'' := ⟨fun k a => (g.1 k a).trans (h.1 k a), fun k a => (g.2 k a).trans (h.2 k a)⟩
theorem kCf.rf {S : rx_S} : kCf S S := ⟨fun _ _ => rfl, fun _ _ => rfl⟩
theorem c2F.k {S S' : rx_S} (h : c2F S S') : kCf S S' := ⟨fun k a => h.1 k (by omega) (by omega), h.2.2⟩
theorem c1F.k {S S' : rx_S} (h : c1F S S') : kCf S S' := h.c2.k
theorem kCf.ui {S : rx_S} {k j : Nat} {x : Int32} (hk : k = 13 ∨ (18 ≤ k ∧ k ≤ 31)) : kCf S (rx_ui S k j x) := ⟨fun r a => ui_row (by omega), fun _ _ => rfl⟩
theorem kCf.tk {z : tks} {S S' : rx_S} (g : kCf S S') (h : tkC z S) : tkC z S' := h.eq (g.1 14 (by omega)) (g.1 16 (by omega)) (g.1 17 (by omega)) (g.2 18 (by decide))
section FCD
variable {N : Nat} {S : rx_S} {z : tks} {p nc n : Nat} {m : Nat × Nat}
/-- a change of the text keeps what is read -/
theorem CF.ui {k j : Nat} {x : Int32} (h : CF z p m nc S) (hk : 18 ≤ k ∧ k ≤ 29) : CF z p m nc (rx_ui S k j x) := by
  obtain ⟨h1, h2, h3, h4, h5, h6, h7⟩ := h
  have e : (rx_ui S k j x).1 13 = S.1 13 := ui_row (by omega)
  exact ⟨by rw [e]; exact h1, by rw [e]; exact h2, h3, (kCf.ui (by omega)).tk h4, h5.eq (by rw [e]) (by rw [e]), by rw [e]; exact h6, h7⟩
theorem refuse_ok {S : rx_S} (h : CF z p m nc S) : pk (rx_bd (f_X4_refuse 2 S) (fun x S' => rx_bl x (some (x, S')))) (fun r S' => r = 0 ∧ fC z 2 p S' ∧ c1F S S') := by
  unfold f_X4_refuse
  simp only [rx_let]
  rw [bd_some, pk_bl (Or.inl rfl), pk_some]
  exact ⟨rfl, ⟨Or.inr rfl, h.2.2.1, by rw [ui_get, if_pos rfl, if_pos rfl]; rfl, by rw [ui_get, if_pos rfl, if_neg (by decide)]; exact h.1⟩, c1F.ui (by omega)⟩
theorem last_ok {S0 : rx_S} {Q : Int32 → rx_S → Prop} (hF : tkF z) (h : CF z p m nc S) (h0 : ∀ f S', tkFl z p 59 f → fC z f p S' → c1F S S' → Q 0 S') (h1 : (kK z p = 59 ∧ p < 400) → CF z (p + 1) m nc (rx_ui S 13 5 (nI (p + 1))) → Q 1 (rx_ui S 13 5 (nI (p + 1)))) : pk (rx_bd (f_X4_take 59 S) (fun x22 S21 => rx_bl x22 (some (x22, S21)))) Q := by
  rcases tk_cases z p 59 with k | ⟨f, k⟩
  · obtain ⟨t1, t2, t3⟩ := tkt hF h 59 (by decide) (by decide) (x := 59) rfl k
    rw [t1, bd_some, pk_bl (Or.inr rfl), pk_some]
    exact h1 k t2
  · obtain ⟨S1, t1, t2, t3⟩ := tkn hF h 59 (by decide) (x := 59) rfl k
    rw [t1, bd_some, pk_bl (Or.inl rfl), pk_some]
    exact h0 f S1 k t2 t3
theorem addSp_ok {x : Int32} (h : S.1 19 6 = nI n) (hn : n < 6) : f_X8_addSpouse 19 x S = some ((), rx_ui (rx_ui (rx_ui S 25 n x) 26 n (-2)) 19 6 (nI (n + 1))) := by
  have e1 : (rx_ui S 25 n x).1 19 6 = nI n := by rw [ui_row (by decide)]; exact h
  have e2 : (rx_ui (rx_ui S 25 n x) 26 n (-2)).1 19 6 = nI n := by rw [ui_row (by decide)]; exact e1
  unfold f_X8_addSpouse
  simp only [rx_let]
  rw [h, if_neg (show ¬ (6 : Int32) ≤ nI n from nI_ge (b := 6) hn (by decide)), rx_gd_in (vp_in_nI hn (by decide)), nI_clamp (by omega)]
  show rx_gd ((rx_ui S 25 n x).1 19 6) 6 (some ((), rx_ui (rx_ui (rx_ui S 25 n x) 26 ((rx_ui S 25 n x).1 19 6).toNatClampNeg (-2)) 19 6 ((rx_ui (rx_ui S 25 n x) 26 ((rx_ui S 25 n x).1 19 6).toNatClampNeg (-2)).1 19 6 + 1))) = _
  rw [e1, rx_gd_in (vp_in_nI hn (by decide)), nI_clamp (by omega), e2, nI_1]
theorem addTh_ok {x y : Int32} (h : S.1 19 8 = nI n) (hn : n < 4) : f_X8_addThird 19 x y S = some ((), rx_ui (rx_ui (rx_ui S 28 n x) 29 n y) 19 8 (nI (n + 1))) := by
  have e1 : (rx_ui S 28 n x).1 19 8 = nI n := by rw [ui_row (by decide)]; exact h
  have e2 : (rx_ui (rx_ui S 28 n x) 29 n y).1 19 8 = nI n := by rw [ui_row (by decide)]; exact e1
  unfold f_X8_addThird
  simp only [rx_let]
  rw [h, if_neg (show ¬ (4 : Int32) ≤ nI n from nI_ge (b := 4) hn (by decide)), rx_gd_in (vp_in_nI hn (by decide)), nI_clamp (by omega)]
  show rx_gd ((rx_ui S 28 n x).1 19 8) 4 (some ((), rx_ui (rx_ui (rx_ui S 28 n x) 29 ((rx_ui S 28 n x).1 19 8).toNatClampNeg y) 19 8 ((rx_ui (rx_ui S 28 n x) 29 ((rx_ui S 28 n x).1 19 8).toNatClampNeg y).1 19 8 + 1))) = _
  rw [e1, rx_gd_in (vp_in_nI hn (by decide)), nI_clamp (by omega), e2, nI_1]
/-- spouse -/
def spC (z : tks) (p n nc : Nat) (m : Nat × Nat) (S S' : rx_S) : Prop := n < 6 ∧ sqT z p [128, 2, 3, 59] ∧ kCf S S' ∧ (∃ nc', CF z (p + 4) (mA (mA m (ff (nmE S (S.2 18 (p + 1))) nc 0).isSome 3 (p + 1)) (decide (99 < kV z (p + 2))) 5 (p + 2)) nc' S' ∧ (ff (nmE S (S.2 18 (p + 1))) nc 0 = none → nc < 10 → nc' = nc + 1 ∧ S'.2 30 = vp_updL (S.2 30) nc (S.2 18 (p + 1)) ∧ S'.1 31 = upd (S.1 31) nc (nI n))) ∧ S'.1 25 = upd (S.1 25) n (nI (kV z (p + 2))) ∧ S'.1 26 = upd (S.1 26) n (-2) ∧ S'.1 19 = upd (S.1 19) 6 (nI (n + 1)) ∧ (∀ r, r ≠ 13 → r ≠ 31 → r ≠ 19 → r ≠ 25 → r ≠ 26 → S'.1 r = S.1 r)
theorem rdSp (hN : 5000 ≤ N) (hF : tkF z) (hS : CF z p m nc S) (h6 : S.1 19 6 = nI n) (hn : n ≤ 6) : pk (f_X4_readSpouse N S) (fun r S' => (r = 0 ∧ ∃ f q, ((n = 6 ∧ f = 2 ∧ q = p) ∨ (n < 6 ∧ sqF z p [128, 2, 3, 59] f q)) ∧ fC z f q S' ∧ kCf S S') ∨ (r = 1 ∧ spC z p n nc m S S')) := by
  unfold f_X4_readSpouse
  by_cases n6 : n < 6
  · rw [h6, if_pos (show nI n < 6 from nI_lt (b := 6) n6 (by decide))]
    rcases tk_cases z p 128 with k0 | ⟨f, k0⟩
    rotate_left
    · obtain ⟨S1, t1, t2, t3⟩ := tkn hF hS 128 (by decide) (x := 128) rfl k0
      rw [t1, bd_some, if_pos rfl, pk_some]
      exact Or.inl ⟨rfl, f, p, Or.inr ⟨n6, Or.inl ⟨k0, rfl⟩⟩, t2, t3.k⟩
    obtain ⟨t1, C1, F1⟩ := tkt hF hS 128 (by decide) (by decide) (x := 128) rfl k0
    rw [t1, bd_some, if_neg (by decide), ui_row (by decide), h6]
    refine pk_bdm (tNew (x := nI n) hN hF C1) (fun r S2 h => ?_)
    rcases h with ⟨rfl, f, k1, t2, t3⟩ | ⟨rfl, k1, F2, nc', C2, hreg⟩
    · rw [if_pos rfl, pk_some]
      exact Or.inl ⟨rfl, f, p + 1, Or.inr ⟨n6, Or.inr ⟨k0, Or.inl ⟨k1, rfl⟩⟩⟩, t2, F1.k.tr t3.k⟩
    rw [if_neg (by decide), show (99 : Int32) = nI 99 from rfl]
    refine pk_bdm (tNum (h := 99) hF C2 (by decide)) (fun r S3 h => ?_)
    rcases h with ⟨rfl, f, k2, t2, t3⟩ | ⟨rfl, k2, C3, F3⟩
    · rw [if_pos rfl, pk_some]
      exact Or.inl ⟨rfl, f, p + 2, Or.inr ⟨n6, Or.inr ⟨k0, Or.inr ⟨k1, Or.inl ⟨k2, rfl⟩⟩⟩⟩, t2, (F1.k.tr F2.k).tr t3.k⟩
    have e3 : S3.1 19 6 = nI n := by rw [F3.1 19 (by decide), F2.1 19 (by decide) (by decide), F1.1 19 (by decide)]; exact h6
    rw [if_neg (by decide), taken_ok hF C3.2.2.2.1 C3.1 C2.2.2.1 k2.1, bd_some, addSp_ok e3 n6, bd_some]
    have C4 := ((C3.ui (k := 25) (j := n) (x := nI (kV z (p + 1 + 1))) (by decide)).ui (k := 26) (j := n) (x := -2) (by decide)).ui (k := 19) (j := 6) (x := nI (n + 1)) (by decide)
    have F4 : kCf S3 (rx_ui (rx_ui (rx_ui S3 25 n (nI (kV z (p + 1 + 1)))) 26 n (-2)) 19 6 (nI (n + 1))) := ((kCf.ui (by omega)).tr (kCf.ui (by omega))).tr (kCf.ui (by omega))
    have F04 := ((F1.k.tr F2.k).tr F3.k).tr F4
    refine last_ok (S0 := S) hF C4 (fun f S' k3 t2 t3 => Or.inl ⟨rfl, f, p + 3, Or.inr ⟨n6, Or.inr ⟨k0, Or.inr ⟨k1, Or.inr ⟨k2, Or.inl ⟨k3, rfl⟩⟩⟩⟩⟩, t2, F04.tr t3.k⟩) (fun k3 C5 => Or.inr ⟨rfl, n6, ⟨k0, k1, k2, k3, trivial⟩, F04.tr (kCf.ui (by omega)), ⟨nc', C5, fun h1 h2 => ?_⟩, ?_, ?_, ?_, fun r q1 q2 q3 q4 q5 => ?_⟩)
    · obtain ⟨a1, a2, a3⟩ := hreg h1 h2
      refine ⟨a1, ?_, ?_⟩
      · show S3.2 30 = _
        rw [F3.2.2, a2]
        rfl
      · rw [ui_row (by decide), ui_row (by decide), ui_row (by decide), ui_row (by decide), F3.1 31 (by decide), a3, ui_row (by decide)]
    · rw [ui_row (by decide), ui_row (by decide), ui_row (by decide), ui_same, F3.1 25 (by decide), F2.1 25 (by decide) (by decide), F1.1 25 (by decide)]
    · rw [ui_row (by decide), ui_row (by decide), ui_same, ui_row (by decide), F3.1 26 (by decide), F2.1 26 (by decide) (by decide), F1.1 26 (by decide)]
    · rw [ui_row (by decide), ui_same, ui_row (by decide), ui_row (by decide), F3.1 19 (by decide), F2.1 19 (by decide) (by decide), F1.1 19 (by decide)]
    · rw [ui_row q1, ui_row q3, ui_row q5, ui_row q4, F3.1 r q1, F2.1 r q1 q2, F1.1 r q1]
  · rw [h6, if_neg (show ¬ nI n < 6 from nI_nlt (b := 6) (by omega) (by omega))]
    exact pk_mono (refuse_ok hS) (fun r S' h => Or.inl ⟨h.1, 2, p, Or.inl ⟨by omega, rfl, rfl⟩, h.2.1, h.2.2.k⟩)
/-- third -/
def thC (z : tks) (p n nc : Nat) (m : Nat × Nat) (S S' : rx_S) : Prop := n < 4 ∧ sqT z p [130, 2, 3, 3, 59] ∧ kCf S S' ∧ (∃ nc', CF z (p + 5) (mA (mA (mA m (ff (nmE S (S.2 18 (p + 1))) nc 0).isSome 3 (p + 1)) (decide (9 < kV z (p + 2))) 5 (p + 2)) (decide (99 < kV z (p + 3))) 5 (p + 3)) nc' S' ∧ (ff (nmE S (S.2 18 (p + 1))) nc 0 = none → nc < 10 → nc' = nc + 1 ∧ S'.2 30 = vp_updL (S.2 30) nc (S.2 18 (p + 1)) ∧ S'.1 31 = upd (S.1 31) nc (-1))) ∧ S'.1 28 = upd (S.1 28) n (nI (kV z (p + 2))) ∧ S'.1 29 = upd (S.1 29) n (nI (kV z (p + 3))) ∧ S'.1 19 = upd (S.1 19) 8 (nI (n + 1)) ∧ (∀ r, r ≠ 13 → r ≠ 31 → r ≠ 19 → r ≠ 28 → r ≠ 29 → S'.1 r = S.1 r)
theorem rdTh (hN : 5000 ≤ N) (hF : tkF z) (hS : CF z p m nc S) (h6 : S.1 19 8 = nI n) (hn : n ≤ 4) : pk (f_X4_readThird N S) (fun r S' => (r = 0 ∧ ∃ f q, ((n = 4 ∧ f = 2 ∧ q = p) ∨ (n < 4 ∧ sqF z p [130, 2, 3, 3, 59] f q)) ∧ fC z f q S' ∧ kCf S S') ∨ (r = 1 ∧ thC z p n nc m S S')) := by
  unfold f_X4_readThird
  by_cases n6 : n < 4
  · rw [h6, if_pos (show nI n < 4 from nI_lt (b := 4) n6 (by decide))]
    rcases tk_cases z p 130 with k0 | ⟨f, k0⟩
    rotate_left
    · obtain ⟨S1, t1, t2, t3⟩ := tkn hF hS 130 (by decide) (x := 130) rfl k0
      rw [t1, bd_some, if_pos rfl, pk_some]
      exact Or.inl ⟨rfl, f, p, Or.inr ⟨n6, Or.inl ⟨k0, rfl⟩⟩, t2, t3.k⟩
    obtain ⟨t1, C1, F1⟩ := tkt hF hS 130 (by decide) (by decide) (x := 130) rfl k0
    rw [t1, bd_some, if_neg (by decide)]
    refine pk_bdm (tNew (x := -1) hN hF C1) (fun r S2 h => ?_)
    rcases h with ⟨rfl, f, k1, t2, t3⟩ | ⟨rfl, k1, F2, nc', C2, hreg⟩
    · rw [if_pos rfl, pk_some]
      exact Or.inl ⟨rfl, f, p + 1, Or.inr ⟨n6, Or.inr ⟨k0, Or.inl ⟨k1, rfl⟩⟩⟩, t2, F1.k.tr t3.k⟩
    rw [if_neg (by decide), show (9 : Int32) = nI 9 from rfl]
    refine pk_bdm (tNum (h := 9) hF C2 (by decide)) (fun r S3 h => ?_)
    rcases h with ⟨rfl, f, k2, t2, t3⟩ | ⟨rfl, k2, C3, F3⟩
    · rw [if_pos rfl, pk_some]
      exact Or.inl ⟨rfl, f, p + 2, Or.inr ⟨n6, Or.inr ⟨k0, Or.inr ⟨k1, Or.inl ⟨k2, rfl⟩⟩⟩⟩, t2, (F1.k.tr F2.k).tr t3.k⟩
    rw [if_neg (by decide), taken_ok hF C3.2.2.2.1 C3.1 C2.2.2.1 k2.1, bd_some, show (99 : Int32) = nI 99 from rfl]
    refine pk_bdm (tNum (h := 99) hF C3 (by decide)) (fun r S4 h => ?_)
    rcases h with ⟨rfl, f, k3, t2, t3⟩ | ⟨rfl, k3, C4, F4⟩
    · rw [if_pos rfl, pk_some]
      exact Or.inl ⟨rfl, f, p + 3, Or.inr ⟨n6, Or.inr ⟨k0, Or.inr ⟨k1, Or.inr ⟨k2, Or.inl ⟨k3, rfl⟩⟩⟩⟩⟩, t2, ((F1.k.tr F2.k).tr F3.k).tr t3.k⟩
    have e3 : S4.1 19 8 = nI n := by rw [F4.1 19 (by decide), F3.1 19 (by decide), F2.1 19 (by decide) (by decide), F1.1 19 (by decide)]; exact h6
    rw [if_neg (by decide), taken_ok hF C4.2.2.2.1 C4.1 C3.2.2.1 k3.1, bd_some, addTh_ok e3 n6, bd_some]
    have C5 := ((C4.ui (k := 28) (j := n) (x := nI (kV z (p + 1 + 1))) (by decide)).ui (k := 29) (j := n) (x := nI (kV z (p + 1 + 1 + 1))) (by decide)).ui (k := 19) (j := 8) (x := nI (n + 1)) (by decide)
    have F5 : kCf S4 (rx_ui (rx_ui (rx_ui S4 28 n (nI (kV z (p + 1 + 1)))) 29 n (nI (kV z (p + 1 + 1 + 1)))) 19 8 (nI (n + 1))) := ((kCf.ui (by omega)).tr (kCf.ui (by omega))).tr (kCf.ui (by omega))
    have F05 := (((F1.k.tr F2.k).tr F3.k).tr F4.k).tr F5
    refine last_ok (S0 := S) hF C5 (fun f S' k4 t2 t3 => Or.inl ⟨rfl, f, p + 4, Or.inr ⟨n6, Or.inr ⟨k0, Or.inr ⟨k1, Or.inr ⟨k2, Or.inr ⟨k3, Or.inl ⟨k4, rfl⟩⟩⟩⟩⟩⟩, t2, F05.tr t3.k⟩) (fun k4 C6 => Or.inr ⟨rfl, n6, ⟨k0, k1, k2, k3, k4, trivial⟩, F05.tr (kCf.ui (by omega)), ⟨nc', C6, fun h1 h2 => ?_⟩, ?_, ?_, ?_, fun r q1 q2 q3 q4 q5 => ?_⟩)
    · obtain ⟨a1, a2, a3⟩ := hreg h1 h2
      refine ⟨a1, ?_, ?_⟩
      · show S4.2 30 = _
        rw [F4.2.2, F3.2.2, a2]
        rfl
      · rw [ui_row (by decide), ui_row (by decide), ui_row (by decide), ui_row (by decide), F4.1 31 (by decide), F3.1 31 (by decide), a3, ui_row (by decide)]
    · rw [ui_row (by decide), ui_row (by decide), ui_row (by decide), ui_same, F4.1 28 (by decide), F3.1 28 (by decide), F2.1 28 (by decide) (by decide), F1.1 28 (by decide)]
    · rw [ui_row (by decide), ui_row (by decide), ui_same, ui_row (by decide), F4.1 29 (by decide), F3.1 29 (by decide), F2.1 29 (by decide) (by decide), F1.1 29 (by decide)]
    · rw [ui_row (by decide), ui_same, ui_row (by decide), ui_row (by decide), F4.1 19 (by decide), F3.1 19 (by decide), F2.1 19 (by decide) (by decide), F1.1 19 (by decide)]
    · rw [ui_row q1, ui_row q3, ui_row q5, ui_row q4, F4.1 r q1, F3.1 r q1, F2.1 r q1 q2, F1.1 r q1]
  · rw [h6, if_neg (show ¬ nI n < 4 from nI_nlt (b := 4) (by omega) (by omega))]
    exact pk_mono (refuse_ok hS) (fun r S' h => Or.inl ⟨h.1, 2, p, Or.inl ⟨by omega, rfl, rfl⟩, h.2.1, h.2.2.k⟩)
/-- fine, seed -/
def nmC (z : tks) (p kw h j nc : Nat) (m : Nat × Nat) (S S' : rx_S) : Prop := sqT z p [kw, 3, 59] ∧ kCf S S' ∧ CF z (p + 3) (mA m (decide (h < kV z (p + 1))) 5 (p + 1)) nc S' ∧ S'.1 19 = upd (S.1 19) j (nI (kV z (p + 1))) ∧ (∀ r, r ≠ 13 → r ≠ 19 → S'.1 r = S.1 r) ∧ S'.2 = S.2
theorem rdNm {kw h j : Nat} {x y : Int32} (hF : tkF z) (hS : CF z p m nc S) (hkw : kw < 1000) (hk2 : 2 ≤ kw) (hh : h < 10000) (hx : x = nI kw) (hy : y = nI h) : pk (rx_bd (f_X4_take x S) (fun x3 S2 => if x3 = 0 then (some (0, S2)) else (rx_bd (f_X4_takeNumber y S2) (fun x7 S6 => if x7 = 0 then (some (0, S6)) else (rx_bd (f_X4_taken S6) (fun x11 S10 => rx_let (rx_ui S10 19 j x11) (fun S13 => rx_bd (f_X4_take 59 S13) (fun x15 S14 => rx_bl x15 (some (x15, S14)))))))))) (fun r S' => (r = 0 ∧ ∃ f q, sqF z p [kw, 3, 59] f q ∧ fC z f q S' ∧ kCf S S') ∨ (r = 1 ∧ nmC z p kw h j nc m S S')) := by
  rcases tk_cases z p kw with k0 | ⟨f, k0⟩
  rotate_left
  · obtain ⟨S1, t1, t2, t3⟩ := tkn hF hS kw hkw hx k0
    rw [t1, bd_some, if_pos rfl, pk_some]
    exact Or.inl ⟨rfl, f, p, Or.inl ⟨k0, rfl⟩, t2, t3.k⟩
  obtain ⟨t1, C1, F1⟩ := tkt hF hS kw hkw hk2 hx k0
  rw [t1, bd_some, if_neg (by decide), hy]
  refine pk_bdm (tNum (h := h) hF C1 hh) (fun r S3 hq => ?_)
  rcases hq with ⟨rfl, f, k2, t2, t3⟩ | ⟨rfl, k2, C3, F3⟩
  · rw [if_pos rfl, pk_some]
    exact Or.inl ⟨rfl, f, p + 1, Or.inr ⟨k0, Or.inl ⟨k2, rfl⟩⟩, t2, F1.k.tr t3.k⟩
  rw [if_neg (by decide), taken_ok hF C3.2.2.2.1 C3.1 C1.2.2.1 k2.1, bd_some, pk_let]
  have C4 := C3.ui (k := 19) (j := j) (x := nI (kV z (p + 1))) (by decide)
  have F4 : kCf S3 (rx_ui S3 19 j (nI (kV z (p + 1)))) := kCf.ui (by omega)
  have F04 := (F1.k.tr F3.k).tr F4
  refine last_ok (S0 := S) hF C4 (fun f S' k3 t2 t3 => Or.inl ⟨rfl, f, p + 2, Or.inr ⟨k0, Or.inr ⟨k2, Or.inl ⟨k3, rfl⟩⟩⟩, t2, F04.tr t3.k⟩) (fun k3 C5 => Or.inr ⟨rfl, ⟨k0, k2, k3, trivial⟩, F04.tr (kCf.ui (by omega)), C5, ?_, fun r q1 q2 => ?_, ?_⟩)
  · rw [ui_row (by decide), ui_same, F3.1 19 (by decide), F1.1 19 (by decide)]
  · rw [ui_row q1, ui_row q2, F3.1 r q1, F1.1 r q1]
  · show S3.2 = _
    rw [F3.2.2, F1.2.2]
end FCD
