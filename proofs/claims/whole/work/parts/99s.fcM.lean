/-! ===== READ 19: what the reference tells of facts ===== -/
def mwM (z : tks) (m : Nat × Nat) (S : rx_S) : Prop := S.1 94 15 = nI m.1 ∧ m.1 ≤ 5 ∧ (m.1 ≠ 0 → S.1 94 16 = nI (kP z m.2))
def MF (z : tks) (p : Nat) (m : Nat × Nat) (S : rx_S) : Prop := S.1 94 11 = nI p ∧ S.1 94 13 = 0 ∧ p < kN z ∧ tkM z S ∧ mwM z m S ∧ (m.1 ≠ 0 → m.2 < p)
def g1F (S S' : rx_S) : Prop := (∀ r, r ≠ 94 → S'.1 r = S.1 r) ∧ (∀ j, j ≠ 11 → j ≠ 13 → j ≠ 14 → j ≠ 15 → j ≠ 16 → S'.1 94 j = S.1 94 j) ∧ S'.2 = S.2
theorem g1F.rf {S : rx_S} : g1F S S := ⟨fun _ _ => rfl, fun _ _ _ _ _ _ => rfl, rfl⟩
theorem g1F.tr {S S' S'' : rx_S} (h : g1F S S') (g : g1F S' S'') : g1F S S'' := ⟨fun r a => (g.1 r a).trans (h.1 r a), fun j a b c d e => (g.2.1 j a b c d e).trans (h.2.1 j a b c d e), g.2.2.trans h.2.2⟩
theorem g1F.ui {S : rx_S} {j : Nat} {x : Int32} (hj : j = 11 ∨ j = 13 ∨ j = 14 ∨ j = 15 ∨ j = 16) : g1F S (rx_ui S 94 j x) := ⟨fun r a => ui_row a, fun i _ _ _ _ _ => by rw [ui_get, if_pos rfl, if_neg (by omega)], rfl⟩
theorem g1F.fl {S : rx_S} {x y : Int32} : g1F S (flS S x y) := (g1F.ui (by omega)).tr (g1F.ui (by omega))
theorem g1F.tk {z : tks} {S S' : rx_S} (g : g1F S S') (h : tkM z S) : tkM z S' := h.eq (g.1 97 (by decide)) (g.1 98 (by decide)) (g.1 99 (by decide))
/-- what a reading changes in the reference -/
def rdM (sd : Nat) (S S' : rx_S) : Prop := (∀ k, k ≠ 94 → k ≠ 103 → (k < 104 ∨ 123 < k) → S'.1 k = S.1 k) ∧ (∀ j, j ≠ 11 → j ≠ 12 → j ≠ 13 → j ≠ 14 → j ≠ 15 → j ≠ 16 → j ≠ 20 → j ≠ 35 → j ≠ 41 → j ≠ 45 → S'.1 94 j = S.1 94 j) ∧ (∀ k j, 104 ≤ k → k ≤ 122 → ¬ (hsz k * sd ≤ j ∧ j < hsz k * sd + hsz k) → S'.1 k j = S.1 k j) ∧ (∀ k, k ≠ 102 → S'.2 k = S.2 k)
theorem rdM.rf {sd : Nat} {S : rx_S} : rdM sd S S := ⟨fun _ _ _ _ => rfl, fun _ _ _ _ _ _ _ _ _ _ _ => rfl, fun _ _ _ _ _ => rfl, fun _ _ => rfl⟩
theorem rdM.tr {sd : Nat} {S S' S'' : rx_S} (h : rdM sd S S') (g : rdM sd S' S'') : rdM sd S S'' := ⟨fun k a b c => (g.1 k a b c).trans (h.1 k a b c), fun j a1 a2 a3 a4 a5 a6 a7 a8 a9 a10 => (g.2.1 j a1 a2 a3 a4 a5 a6 a7 a8 a9 a10).trans (h.2.1 j a1 a2 a3 a4 a5 a6 a7 a8 a9 a10), fun k j a b c => (g.2.2.1 k j a b c).trans (h.2.2.1 k j a b c), fun k a => (g.2.2.2 k a).trans (h.2.2.2 k a)⟩
theorem g1F.rd {sd : Nat} {S S' : rx_S} (h : g1F S S') : rdM sd S S' := ⟨fun k a _ _ => h.1 k a, fun j a1 _ a3 a4 a5 a6 _ _ _ _ => h.2.1 j a1 a3 a4 a5 a6, fun k j a b _ => by rw [h.1 k (by omega)], fun k _ => by rw [h.2.2]⟩
theorem rdM.u94 {sd j : Nat} {S : rx_S} {x : Int32} (hj : j = 11 ∨ j = 12 ∨ j = 13 ∨ j = 14 ∨ j = 15 ∨ j = 16 ∨ j = 20 ∨ j = 35 ∨ j = 41 ∨ j = 45) : rdM sd S (rx_ui S 94 j x) := ⟨fun k a _ _ => ui_row a, fun i _ _ _ _ _ _ _ _ _ _ => by rw [ui_get, if_pos rfl, if_neg (by omega)], fun k i a _ _ => by rw [ui_row (by omega)], fun _ _ => rfl⟩
theorem rdM.uh {sd r j : Nat} {S : rx_S} {x : Int32} (hr : 104 ≤ r ∧ r ≤ 122) (hj : hsz r * sd ≤ j ∧ j < hsz r * sd + hsz r) : rdM sd S (rx_ui S r j x) := ⟨fun k _ _ a => ui_row (by omega), fun i _ _ _ _ _ _ _ _ _ _ => by rw [ui_row (by omega)], fun k i a b c => by
  rw [ui_get]
  by_cases e : k = r
  · rw [if_pos e, if_neg (fun q => c (by rw [e, q]; exact hj)), e]
  · rw [if_neg e], fun _ _ => rfl⟩
theorem rdM.u103 {sd j : Nat} {S : rx_S} {x : Int32} : rdM sd S (rx_ui S 103 j x) := ⟨fun k _ a _ => ui_row a, fun i _ _ _ _ _ _ _ _ _ _ => by rw [ui_row (by decide)], fun k i a _ _ => by rw [ui_row (by omega)], fun _ _ => rfl⟩
theorem rdM.uj {sd j : Nat} {S : rx_S} {x : Int64} : rdM sd S (rx_uj S 102 j x) := ⟨fun _ _ _ _ => rfl, fun _ _ _ _ _ _ _ _ _ _ _ => rfl, fun _ _ _ _ _ => rfl, fun k a => uj_L a⟩
theorem mA_ne {m : Nat × Nat} {b : Bool} {k j : Nat} (h : m.1 ≠ 0) : mA m b k j = m := if_neg (fun q => h q.2)
theorem mA_f {m : Nat × Nat} {k j : Nat} : mA m false k j = m := if_neg (fun q => by cases q.1)
theorem mA_t1 {m : Nat × Nat} {k j : Nat} (hk : k ≠ 0) : (mA m true k j).1 ≠ 0 := by
  unfold mA
  split
  · exact hk
  · rename_i h
    exact fun e => h ⟨rfl, e⟩
theorem mA_2 {m : Nat × Nat} {b : Bool} {k j : Nat} {p : Nat} (h : m.1 ≠ 0 → m.2 < p) (hj : j < p) : (mA m b k j).1 ≠ 0 → (mA m b k j).2 < p := by
  unfold mA
  split
  · exact fun _ => hj
  · exact h
section FCM
variable {N : Nat} {S : rx_S} {z : tks} {p n : Nat} {m : Nat × Nat}
theorem mwM.eq {S' : rx_S} (h : mwM z m S) (e1 : S'.1 94 15 = S.1 94 15) (e2 : S'.1 94 16 = S.1 94 16) : mwM z m S' := ⟨e1.trans h.1, h.2.1, fun q => e2.trans (h.2.2 q)⟩
theorem wrong_ok {j k : Nat} (hF : tkF z) (h13 : S.1 94 13 = 0) (ht : tkM z S) (hj : j < kN z) (hm : mwM z m S) (hc : m.1 ≠ 0 → m.2 < j ∨ (m.2 = j ∧ m.1 ≤ k)) (hk : 1 ≤ k ∧ k ≤ 5) : ∃ S', f_X11_wrong (nI k) (nI j) S = some ((), S') ∧ mwM z (mA m true k j) S' ∧ g1F S S' ∧ S'.1 94 11 = S.1 94 11 ∧ S'.1 94 13 = S.1 94 13 := by
  have hN := hF.2.1
  unfold f_X11_wrong
  simp only [rx_let]
  rw [rx_gd_in (vp_in_nI (show j < 403 by omega) (by decide)), nI_clamp (by omega), if_neg (show ¬ (0 : Int32) < S.1 94 13 by rw [h13]; decide), (ht j hj).2.1]
  by_cases h0 : m.1 = 0
  · have h15 : S.1 94 15 = 0 := by rw [hm.1, h0]; rfl
    refine ⟨rx_ui (rx_ui S 94 15 (nI k)) 94 16 (nI (kP z j)), by rw [if_pos h15], ?_, (g1F.ui (by omega)).tr (g1F.ui (by omega)), ?_, ?_⟩
    · have e : mA m true k j = (k, j) := if_pos ⟨rfl, h0⟩
      rw [e]
      exact ⟨by rw [ui_get, if_pos rfl, if_neg (by decide), ui_get, if_pos rfl, if_pos rfl], hk.2, fun _ => by rw [ui_get, if_pos rfl, if_pos rfl]⟩
    · rw [ui_get, if_pos rfl, if_neg (by decide), ui_get, if_pos rfl, if_neg (by decide)]
    · rw [ui_get, if_pos rfl, if_neg (by decide), ui_get, if_pos rfl, if_neg (by decide)]
  · have h15 : ¬ S.1 94 15 = 0 := by
      rw [hm.1]
      exact nI_ne0 (by omega) (by have := hm.2.1; omega)
    refine ⟨S, ?_, by rw [mA_ne h0]; exact hm, g1F.rf, rfl, rfl⟩
    rw [if_neg h15, hm.2.2 h0]
    have hjP := hF.2.2.2.2.2.2 j hj
    rcases hc h0 with h | ⟨h, h'⟩
    · have := hF.2.2.2.2.2.1 m.2 j h hj
      rw [if_pos (nI_lt this (by omega))]
    · rw [h, if_neg (nI_nlt (Nat.le_refl _) (by omega)), if_pos rfl, hm.1, if_neg (nI_nlt h' (by omega))]
theorem MF.go (h : MF z p m S) (hp : p + 1 < kN z) : MF z (p + 1) m (rx_ui S 94 11 (nI (p + 1))) := by
  obtain ⟨h1, h2, h3, h4, h5, h6⟩ := h
  have e : ∀ j, j ≠ 11 → (rx_ui S 94 11 (nI (p + 1))).1 94 j = S.1 94 j := fun j hj => by rw [ui_get, if_pos rfl, if_neg hj]
  exact ⟨by rw [ui_get, if_pos rfl, if_pos rfl], (e 13 (by decide)).trans h2, hp, (g1F.ui (by omega)).tk h4, h5.eq (e 15 (by decide)) (e 16 (by decide)), fun q => by have := h6 q; omega⟩
theorem mst {x : Int32} (hF : tkF z) (hS : MF z p m S) (c : Nat) (hc : okK c = true) (h2 : 2 ≤ c) (hx : x = nI (kM c)) (h : kK z p = c ∧ p < 400) : f_X11_must x S = some ((), rx_ui S 94 11 (nI (p + 1))) ∧ MF z (p + 1) m (rx_ui S 94 11 (nI (p + 1))) := by
  have hp1 : p + 1 < kN z := hF.2.2.2.1 p hS.2.2.1 (by omega) (by omega) h.2
  exact ⟨must_t hS.2.1 hS.1 hF hS.2.2.2.1 hS.2.2.1 c hc hx h, hS.go hp1⟩
theorem msn {x : Int32} (hF : tkF z) (hS : MF z p m S) (c : Nat) (hc : okK c = true) (hx : x = nI (kM c)) {f : Nat} (h : tkFl z p c f) : f_X11_must x S = some ((), flS S (nI f) (nI (kP z p))) ∧ flt z f p (flS S (nI f) (nI (kP z p))) := ⟨must_n hS.2.1 hS.1 hF hS.2.2.2.1 hS.2.2.1 c hc hx h, flS_flt h.f rfl hS.2.2.1⟩
theorem bnd_f {f q : Nat} {x : Int32} (h : flt z f q S) : f_X11_bounded 0 x S = some (0, S) := by
  unfold f_X11_bounded
  simp only [rx_let]
  rw [if_pos h.pos.2.2, fail_f h]
  rfl
theorem mBnd {h : Nat} (hF : tkF z) (hS : MF z p m S) (hh : h < 10000) : pk (f_X11_bounded 0 (nI h) S) (fun r S' => g1F S S' ∧ ((∃ f, tkFl z p 3 f ∧ flt z f p S') ∨ ((kK z p = 3 ∧ p < 400) ∧ r = nI (kV z p) ∧ MF z (p + 1) (mA m (decide (h < kV z p)) 5 p) S'))) := by
  obtain ⟨h1, h2, h3, h4, h5, h6⟩ := hS
  have hN := hF.2.1
  unfold f_X11_bounded
  simp only [rx_let]
  rw [if_neg (show ¬ (0 : Int32) < S.1 94 13 by rw [h2]; decide), is_ok h2 h1 hF h4 h3 3 rfl (x := 2) rfl, bd_some]
  by_cases k3 : kK z p = 3
  · have hv := hF.2.2.2.2.1 p h3 k3
    rw [if_pos k3, if_neg (by decide), h1, pk_gdn (by omega) (by decide), nI_clamp (by omega), (h4 p h3).2.2 k3, if_neg (nI_pos (by omega))]
    have last : ∀ (S1 : rx_S) (m1 : Nat × Nat), g1F S S1 → S1.1 94 11 = nI p → S1.1 94 13 = 0 → mwM z m1 S1 → (m1.1 ≠ 0 → m1.2 < p + 1) → m1 = mA m (decide (h < kV z p)) 5 p → pk (rx_bd (f_X11_goesOn S1) (fun x19 S18 => some (nI (kV z p), S18))) (fun r S' => g1F S S' ∧ ((∃ f, tkFl z p 3 f ∧ flt z f p S') ∨ ((kK z p = 3 ∧ p < 400) ∧ r = nI (kV z p) ∧ MF z (p + 1) (mA m (decide (h < kV z p)) 5 p) S'))) := by
      intro S1 m1 g1 a1 a2 a3 a4 a5
      have t1 := g1.tk h4
      by_cases p4 : p < 400
      · have hp1 : p + 1 < kN z := hF.2.2.2.1 p h3 (by omega) (by omega) p4
        have e : ∀ j, j ≠ 11 → (rx_ui S1 94 11 (nI (p + 1))).1 94 j = S1.1 94 j := fun j hj => by rw [ui_get, if_pos rfl, if_neg hj]
        rw [goesOn_n a1 p4, bd_some, pk_some]
        refine ⟨g1.tr (g1F.ui (by omega)), Or.inr ⟨⟨k3, p4⟩, rfl, ?_⟩⟩
        rw [← a5]
        exact ⟨by rw [ui_get, if_pos rfl, if_pos rfl], (e 13 (by decide)).trans a2, hp1, (g1F.ui (by omega)).tk t1, a3.eq (e 15 (by decide)) (e 16 (by decide)), a4⟩
      · rw [goesOn_2 a2 a1 hF t1 h3 p4, bd_some, pk_some]
        exact ⟨g1.tr g1F.fl, Or.inl ⟨2, Or.inl ⟨rfl, k3, p4⟩, flS_flt (Or.inr rfl) rfl h3⟩⟩
    by_cases q : h < kV z p
    · obtain ⟨S2, b1, b2, b3, b4, b5⟩ := wrong_ok (k := 5) hF h2 h4 h3 h5 (fun q => Or.inl (h6 q)) (by omega)
      rw [if_neg (nI_ge q (by omega)), show (5 : Int32) = nI 5 from rfl, b1, bd_some]
      exact last S2 _ b3 (b4.trans h1) (b5.trans h2) b2 (mA_2 (fun q => by have := h6 q; omega) (by omega)) (by rw [decide_eq_true q])
    · rw [if_pos ((nI_leI (by omega) (by omega)).mpr (by omega))]
      exact last S m g1F.rf h1 h2 h5 (fun q => by have := h6 q; omega) (by rw [decide_eq_false q, mA_f])
  · rw [if_neg k3, if_pos rfl, fail_ok h2 h1 hF h4 h3, bd_some, pk_some]
    exact ⟨g1F.fl, Or.inl ⟨1, Or.inr ⟨rfl, k3⟩, flS_flt (Or.inl rfl) rfl h3⟩⟩
def nmM (S : rx_S) (x : Int64) : Nat → Bool := fun k => decide (S.2 102 k = x)
theorem nmd_L (hF : tkF z) (hp : p < kN z) (hn : n ≤ 10) : ∀ (d f k : Nat) (S : rx_S) (m : Nat × Nat), k + d = n → d < f → S.1 94 20 = nI n → S.1 94 13 = 0 → tkM z S → mwM z m S → (m.1 ≠ 0 → m.2 < p ∨ (m.2 = p ∧ m.1 ≤ 3)) → pk (f_X11_named_L12 N f (nI p) (nI k) S) (fun r S' => r = nI p ∧ g1F S S' ∧ S'.1 94 11 = S.1 94 11 ∧ S'.1 94 13 = S.1 94 13 ∧ mwM z (mA m (ff (nmM S (S.2 100 p)) d k).isSome 3 p) S') := by
  intro d
  have hN := hF.2.1
  induction d with
  | zero =>
    intro f k S m hk hf h20 h13 ht hm hc
    obtain ⟨f, rfl⟩ : ∃ q, f = q + 1 := ⟨f - 1, by omega⟩
    rw [f_X11_named_L12, h20, if_pos (nI_le (by omega) (by omega)), pk_some]
    exact ⟨rfl, g1F.rf, rfl, rfl, by rw [ff]; show mwM z (mA m false 3 p) S; rw [mA_f]; exact hm⟩
  | succ d ih =>
    intro f k S m hk hf h20 h13 ht hm hc
    obtain ⟨f, rfl⟩ : ∃ q, f = q + 1 := ⟨f - 1, by omega⟩
    rw [f_X11_named_L12, h20, if_neg (nI_ge (by omega) (by omega)), if_pos h13, pk_gdn (by omega) (by decide), pk_gdn (by omega) (by decide), nI_clamp (by omega), nI_clamp (by omega), ff]
    by_cases q : S.2 102 k = S.2 100 p
    · rw [if_pos ((lg_cmp_eq _ _).mpr q), if_pos (show nmM S (S.2 100 p) k = true from decide_eq_true q)]
      obtain ⟨S2, b1, b2, b3, b4, b5⟩ := wrong_ok (k := 3) hF h13 ht hp hm hc (by omega)
      rw [show (3 : Int32) = nI 3 from rfl, b1, bd_some, pk_let, nI_1]
      have hne : (mA m true 3 p).1 ≠ 0 := mA_t1 (by decide)
      refine pk_mono (ih f (k + 1) S2 (mA m true 3 p) (by omega) (by omega) ((b3.2.1 20 (by decide) (by decide) (by decide) (by decide) (by decide)).trans h20) (b5.trans h13) (b3.tk ht) b2 (fun _ => ?_)) (fun r S' g => ?_)
      · by_cases h0 : m.1 = 0
        · have e : mA m true 3 p = (3, p) := if_pos ⟨rfl, h0⟩
          rw [e]
          exact Or.inr ⟨rfl, Nat.le_refl _⟩
        · rw [mA_ne h0]
          exact hc h0
      · obtain ⟨g1, g2, g3, g4, g5⟩ := g
        rw [mA_ne hne] at g5
        exact ⟨g1, b3.tr g2, g3.trans b4, g4.trans b5, g5⟩
    · rw [if_neg (fun e => q ((lg_cmp_eq _ _).mp e)), if_neg (show ¬ nmM S (S.2 100 p) k = true from fun e => q (of_decide_eq_true e)), pk_let, nI_1]
      exact ih f (k + 1) S m (by omega) (by omega) h20 h13 ht hm hc
theorem nmd (hN : 5000 ≤ N) (hF : tkF z) (hS : MF z p m S) (h20 : S.1 94 20 = nI n) (hn : n ≤ 10) : pk (f_X11_named N S) (fun r S' => r = nI p ∧ g1F S S' ∧ ((∃ f, tkFl z p 2 f ∧ flt z f p S') ∨ ((kK z p = 2 ∧ p < 400) ∧ MF z (p + 1) (mA m (ff (nmM S (S.2 100 p)) n 0).isSome 3 p) S'))) := by
  unfold f_X11_named
  rw [pk_let, hS.1]
  rcases tk_cases z p 2 with k | ⟨f, k⟩
  · obtain ⟨t1, t2⟩ := mst hF hS 2 rfl (by decide) (x := 1) rfl k
    rw [t1, bd_some]
    have e20 : (rx_ui S 94 11 (nI (p + 1))).1 94 20 = nI n := by rw [ui_get, if_pos rfl, if_neg (by decide)]; exact h20
    refine pk_mono (nmd_L hF hS.2.2.1 hn n N 0 _ m (by omega) (by omega) e20 t2.2.1 t2.2.2.2.1 t2.2.2.2.2.1 (fun q => Or.inl (hS.2.2.2.2.2 q))) (fun r S' g => ?_)
    obtain ⟨g1, g2, g3, g4, g5⟩ := g
    exact ⟨g1, (g1F.ui (by omega)).tr g2, Or.inr ⟨k, g3.trans t2.1, g4.trans t2.2.1, t2.2.2.1, g2.tk t2.2.2.2.1, g5, mA_2 t2.2.2.2.2.2 (by omega)⟩⟩
  · obtain ⟨t1, t2⟩ := msn hF hS 2 rfl (x := 1) rfl k
    obtain ⟨c, hc⟩ : ∃ c, N = c + 1 := ⟨N - 1, by omega⟩
    have e20 : (flS S (nI f) (nI (kP z p))).1 94 20 = nI n := by unfold flS; rw [ui_get, if_pos rfl, if_neg (by decide), ui_get, if_pos rfl, if_neg (by decide)]; exact h20
    have fin : pk (some (nI p, flS S (nI f) (nI (kP z p)))) (fun r S' => r = nI p ∧ g1F S S' ∧ ((∃ f, tkFl z p 2 f ∧ flt z f p S') ∨ ((kK z p = 2 ∧ p < 400) ∧ MF z (p + 1) (mA m (ff (nmM S (S.2 100 p)) n 0).isSome 3 p) S'))) := by
      rw [pk_some]
      exact ⟨rfl, g1F.fl, Or.inl ⟨f, k, t2⟩⟩
    have hL : ∀ c, f_X11_named_L12 N (c + 1) (nI p) 0 (flS S (nI f) (nI (kP z p))) = some (nI p, flS S (nI f) (nI (kP z p))) := by
      intro c
      rw [f_X11_named_L12, if_neg t2.pos.2.1]
      split <;> rfl
    rw [t1, bd_some]
    have hL2 := hL c
    rw [← hc] at hL2
    rw [hL2]
    exact fin
theorem ends_f {f q : Nat} {x y : Int32} (h : flt z f q S) : f_X11_ends x y S = some ((), S) := by
  unfold f_X11_ends
  rw [must_f h, bd_some, if_neg h.pos.1]
theorem ends_ok {j : Nat} {x : Int32} (hF : tkF z) (hS : MF z p m S) (h20 : S.1 94 20 = nI n) (hn : n < 10) (hj : j < 403) : pk (f_X11_ends (nI j) x S) (fun _ S' => (∃ f, tkFl z p 59 f ∧ flt z f p S' ∧ g1F S S') ∨ ((kK z p = 59 ∧ p < 400) ∧ MF z (p + 1) m S' ∧ S'.1 94 20 = nI (n + 1) ∧ S'.1 103 = upd (S.1 103) n x ∧ S'.2 102 = vp_updL (S.2 102) n (S.2 100 j) ∧ (∀ r, r ≠ 94 → r ≠ 103 → S'.1 r = S.1 r) ∧ (∀ i, i ≠ 11 → i ≠ 20 → S'.1 94 i = S.1 94 i) ∧ (∀ r, r ≠ 102 → S'.2 r = S.2 r))) := by
  unfold f_X11_ends
  rcases tk_cases z p 59 with k | ⟨f, k⟩
  · obtain ⟨t1, t2⟩ := mst hF hS 59 rfl (by decide) (x := 4) rfl k
    have e20 : (rx_ui S 94 11 (nI (p + 1))).1 94 20 = nI n := by rw [ui_get, if_pos rfl, if_neg (by decide)]; exact h20
    rw [t1, bd_some, if_pos (by rw [t2.2.1]; decide), pk_gdn hj (by decide), e20, pk_gdn hn (by decide), pk_let, nI_clamp (by omega), nI_clamp (by omega)]
    have f20 : (rx_uj (rx_ui S 94 11 (nI (p + 1))) 102 n ((rx_ui S 94 11 (nI (p + 1))).2 100 j)).1 94 20 = nI n := e20
    have g20 : (rx_ui (rx_uj (rx_ui S 94 11 (nI (p + 1))) 102 n ((rx_ui S 94 11 (nI (p + 1))).2 100 j)) 103 n x).1 94 20 = nI n := by rw [ui_row (by decide)]; exact e20
    rw [f20, pk_gdn hn (by decide), pk_let, pk_let, nI_clamp (by omega), g20, nI_1, pk_some]
    have e : ∀ i, i ≠ 20 → (rx_ui (rx_ui (rx_uj (rx_ui S 94 11 (nI (p + 1))) 102 n ((rx_ui S 94 11 (nI (p + 1))).2 100 j)) 103 n x) 94 20 (nI (n + 1))).1 94 i = (rx_ui S 94 11 (nI (p + 1))).1 94 i := fun i hi => by rw [ui_get, if_pos rfl, if_neg hi, ui_row (by decide)]; rfl
    have er : ∀ r, r ≠ 94 → r ≠ 103 → (rx_ui (rx_ui (rx_uj (rx_ui S 94 11 (nI (p + 1))) 102 n ((rx_ui S 94 11 (nI (p + 1))).2 100 j)) 103 n x) 94 20 (nI (n + 1))).1 r = S.1 r := fun r q1 q2 => by
      rw [ui_row q1, ui_row q2]
      show (rx_ui S 94 11 (nI (p + 1))).1 r = _
      rw [ui_row q1]
    obtain ⟨h1, h2, h3, h4, h5, h6⟩ := t2
    refine Or.inr ⟨k, ⟨(e 11 (by decide)).trans h1, (e 13 (by decide)).trans h2, h3, hS.2.2.2.1.eq (er 97 (by decide) (by decide)) (er 98 (by decide) (by decide)) (er 99 (by decide) (by decide)), h5.eq (e 15 (by decide)) (e 16 (by decide)), h6⟩, by rw [ui_get, if_pos rfl, if_pos rfl], ?_, ?_, er, fun i q1 q2 => ?_, fun r hr => ?_⟩
    · rw [ui_row (by decide), ui_same]
      show upd ((rx_ui S 94 11 (nI (p + 1))).1 103) n x = _
      rw [ui_row (by decide)]
    · show (rx_uj (rx_ui S 94 11 (nI (p + 1))) 102 n ((rx_ui S 94 11 (nI (p + 1))).2 100 j)).2 102 = _
      rw [uj_at]
      rfl
    · rw [e i q2, ui_get, if_pos rfl, if_neg q1]
    · show (rx_uj (rx_ui S 94 11 (nI (p + 1))) 102 n ((rx_ui S 94 11 (nI (p + 1))).2 100 j)).2 r = _
      rw [uj_L hr]
      rfl
  · obtain ⟨t1, t2⟩ := msn hF hS 59 rfl (x := 4) rfl k
    rw [t1, bd_some, if_neg t2.pos.1, pk_some]
    exact Or.inl ⟨f, k, t2, g1F.fl⟩
end FCM
