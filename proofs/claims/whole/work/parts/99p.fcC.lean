/-! ===== READ 16: what the class tells of facts ===== -/
def mA (m : Nat × Nat) (b : Bool) (k j : Nat) : Nat × Nat := if b = true ∧ m.1 = 0 then (k, j) else m
def mwC (z : tks) (m : Nat × Nat) (S : rx_S) : Prop := S.1 13 8 = nI m.1 ∧ m.1 ≤ 5 ∧ S.1 13 9 = (if m.1 = 0 then -1 else nI (kP z m.2))
def CF (z : tks) (p : Nat) (m : Nat × Nat) (nc : Nat) (S : rx_S) : Prop := S.1 13 5 = nI p ∧ S.1 13 6 = 0 ∧ p < kN z ∧ tkC z S ∧ mwC z m S ∧ S.1 13 4 = nI nc ∧ nc ≤ 10
def c1F (S S' : rx_S) : Prop := (∀ r, r ≠ 13 → S'.1 r = S.1 r) ∧ (∀ j, j ≠ 5 → j ≠ 6 → j ≠ 8 → j ≠ 9 → S'.1 13 j = S.1 13 j) ∧ S'.2 = S.2
def c2F (S S' : rx_S) : Prop := (∀ r, r ≠ 13 → r ≠ 31 → S'.1 r = S.1 r) ∧ (∀ j, j ≠ 4 → j ≠ 5 → j ≠ 6 → j ≠ 8 → j ≠ 9 → S'.1 13 j = S.1 13 j) ∧ (∀ r, r ≠ 30 → S'.2 r = S.2 r)
theorem c1F.rf {S : rx_S} : c1F S S := ⟨fun _ _ => rfl, fun _ _ _ _ _ => rfl, rfl⟩
theorem c1F.tr {S S' S'' : rx_S} (h : c1F S S') (g : c1F S' S'') : c1F S S'' := ⟨fun r a => (g.1 r a).trans (h.1 r a), fun j a b c d => (g.2.1 j a b c d).trans (h.2.1 j a b c d), g.2.2.trans h.2.2⟩
theorem c2F.tr {S S' S'' : rx_S} (h : c2F S S') (g : c2F S' S'') : c2F S S'' := ⟨fun r a b => (g.1 r a b).trans (h.1 r a b), fun j a b c d e => (g.2.1 j a b c d e).trans (h.2.1 j a b c d e), fun r a => (g.2.2 r a).trans (h.2.2 r a)⟩
theorem c1F.c2 {S S' : rx_S} (h : c1F S S') : c2F S S' := ⟨fun r a _ => h.1 r a, fun j _ a b c d => h.2.1 j a b c d, fun r _ => by rw [h.2.2]⟩
theorem c1F.ui {S : rx_S} {j : Nat} {x : Int32} (hj : j = 5 ∨ j = 6 ∨ j = 8 ∨ j = 9) : c1F S (rx_ui S 13 j x) := ⟨fun r a => ui_row a, fun i _ _ _ _ => by rw [ui_get, if_pos rfl, if_neg (by omega)], rfl⟩
theorem c1F.tk {z : tks} {S S' : rx_S} (g : c1F S S') (h : tkC z S) : tkC z S' := h.eq (g.1 14 (by decide)) (g.1 16 (by decide)) (g.1 17 (by decide)) (by rw [g.2.2])
theorem c2F.tk {z : tks} {S S' : rx_S} (g : c2F S S') (h : tkC z S) : tkC z S' := h.eq (g.1 14 (by decide) (by decide)) (g.1 16 (by decide) (by decide)) (g.1 17 (by decide) (by decide)) (g.2.2 18 (by decide))
theorem ff_lt {q : Nat → Bool} {n k : Nat} (h : ff q n 0 = some k) : k < n ∧ q k = true := by
  obtain ⟨_, h2, h3, _⟩ := ff_some n 0 k h
  exact ⟨by omega, h3⟩
section FCC
variable {N : Nat} {S : rx_S} {z : tks} {p nc : Nat} {m : Nat × Nat}
theorem mwC.eq {S' : rx_S} (h : mwC z m S) (e1 : S'.1 13 8 = S.1 13 8) (e2 : S'.1 13 9 = S.1 13 9) : mwC z m S' := ⟨e1.trans h.1, h.2.1, e2.trans h.2.2⟩
theorem blame_ok {j k : Nat} (hF : tkF z) (ht : tkC z S) (h5 : S.1 13 5 = nI (j + 1)) (hj : j < kN z) (hm : mwC z m S) (hk : 1 ≤ k ∧ k ≤ 5) : ∃ S', f_X4_blame (nI k) S = some ((), S') ∧ mwC z (mA m true k j) S' ∧ c1F S S' ∧ S'.1 13 5 = S.1 13 5 ∧ S'.1 13 6 = S.1 13 6 := by
  have hN := hF.2.1
  unfold f_X4_blame
  by_cases h0 : m.1 = 0
  · have h8 : S.1 13 8 = 0 := by rw [hm.1, h0]; rfl
    have e5 : (rx_ui S 13 8 (nI k)).1 13 5 = nI (j + 1) := by rw [ui_get, if_pos rfl, if_neg (by decide)]; exact h5
    have t2 : tkC z (rx_ui S 13 8 (nI k)) := (c1F.ui (by omega)).tk ht
    refine ⟨rx_ui (rx_ui S 13 8 (nI k)) 13 9 (nI (kP z j)), ?_, ?_, (c1F.ui (by omega)).tr (c1F.ui (by omega)), ?_, ?_⟩
    · rw [if_pos h8]
      simp only [rx_let]
      rw [e5, nI_pred]
      unfold f_X9_placeOf
      rw [if_neg (nI_pos (by omega)), t2.1, if_neg (nI_ge hj (by omega)), rx_gd_in (vp_in_nI (show j < 401 by omega) (by decide)), nI_clamp (by omega), (t2.2 j hj).2.1, bd_some]
    · have e : mA m true k j = (k, j) := if_pos ⟨rfl, h0⟩
      rw [e]
      refine ⟨by rw [ui_get, if_pos rfl, if_neg (by decide), ui_get, if_pos rfl, if_pos rfl], hk.2, ?_⟩
      rw [ui_get, if_pos rfl, if_pos rfl, if_neg (show ¬ (k, j).1 = 0 by show ¬ k = 0; omega)]
    · rw [ui_get, if_pos rfl, if_neg (by decide), ui_get, if_pos rfl, if_neg (by decide)]
    · rw [ui_get, if_pos rfl, if_neg (by decide), ui_get, if_pos rfl, if_neg (by decide)]
  · have h8 : ¬ S.1 13 8 = 0 := by
      rw [hm.1]
      exact nI_ne0 (by omega) (by have := hm.2.1; omega)
    refine ⟨S, by rw [if_neg h8], ?_, c1F.rf, rfl, rfl⟩
    have e : mA m true k j = m := if_neg (fun q => h0 q.2)
    rw [e]
    exact hm
theorem CF.go (h : CF z p m nc S) (hp : p + 1 < kN z) : CF z (p + 1) m nc (rx_ui S 13 5 (nI (p + 1))) := by
  obtain ⟨h1, h2, h3, h4, h5, h6, h7⟩ := h
  have e : ∀ j, j ≠ 5 → (rx_ui S 13 5 (nI (p + 1))).1 13 j = S.1 13 j := fun j hj => by rw [ui_get, if_pos rfl, if_neg hj]
  exact ⟨by rw [ui_get, if_pos rfl, if_pos rfl], (e 6 (by decide)).trans h2, hp, (c1F.ui (by omega)).tk h4, h5.eq (e 8 (by decide)) (e 9 (by decide)), (e 4 (by decide)).trans h6, h7⟩
theorem tkt {x : Int32} (hF : tkF z) (hS : CF z p m nc S) (k : Nat) (hk : k < 1000) (h2 : 2 ≤ k) (hx : x = nI k) (h : kK z p = k ∧ p < 400) : f_X4_take x S = some (1, rx_ui S 13 5 (nI (p + 1))) ∧ CF z (p + 1) m nc (rx_ui S 13 5 (nI (p + 1))) ∧ c1F S (rx_ui S 13 5 (nI (p + 1))) := by
  obtain ⟨h1, h2', h3, h4, h5, h6, h7⟩ := hS
  have hp1 : p + 1 < kN z := hF.2.2.2.1 p h3 (by omega) (by omega) h.2
  refine ⟨?_, CF.go ⟨h1, h2', h3, h4, h5, h6, h7⟩ hp1, c1F.ui (by omega)⟩
  rw [take_ok hF h4 h1 h3 k hk hx, if_pos h.1, if_pos h.2]
theorem tkn {x : Int32} (hF : tkF z) (hS : CF z p m nc S) (k : Nat) (hk : k < 1000) (hx : x = nI k) {f : Nat} (h : tkFl z p k f) : ∃ S', f_X4_take x S = some (0, S') ∧ fC z f p S' ∧ c1F S S' := by
  obtain ⟨h1, h2', h3, h4, h5, h6, h7⟩ := hS
  refine ⟨rx_ui S 13 6 (nI f), ?_, ⟨h.f, h3, by rw [ui_get, if_pos rfl, if_pos rfl], by rw [ui_get, if_pos rfl, if_neg (by decide)]; exact h1⟩, c1F.ui (by omega)⟩
  rw [take_ok hF h4 h1 h3 k hk hx]
  rcases h with ⟨rfl, g1, g2⟩ | ⟨rfl, g1⟩
  · rw [if_pos g1, if_neg g2]
    rfl
  · rw [if_neg g1]
    rfl
theorem tNum {h : Nat} (hF : tkF z) (hS : CF z p m nc S) (hh : h < 10000) : pk (f_X4_takeNumber (nI h) S) (fun r S' => (r = 0 ∧ ∃ f, tkFl z p 3 f ∧ fC z f p S' ∧ c1F S S') ∨ (r = 1 ∧ (kK z p = 3 ∧ p < 400) ∧ CF z (p + 1) (mA m (decide (h < kV z p)) 5 p) nc S' ∧ c1F S S')) := by
  unfold f_X4_takeNumber
  rcases tk_cases z p 3 with k | ⟨f, k⟩
  · obtain ⟨t1, t2, t3⟩ := tkt hF hS 3 (by decide) (by decide) (x := 3) rfl k
    have hp := hS.2.2.1
    have hv := hF.2.2.2.2.1 p hp k.1
    rw [t1, bd_some, if_neg (by decide), taken_ok hF t2.2.2.2.1 t2.1 hp k.1, bd_some]
    by_cases q : h < kV z p
    · obtain ⟨S2, b1, b2, b3, b4, b5⟩ := blame_ok (k := 5) hF t2.2.2.2.1 t2.1 hp t2.2.2.2.2.1 (by omega)
      rw [if_neg (nI_ge q (by omega)), show (5 : Int32) = nI 5 from rfl, b1, bd_some, pk_some]
      obtain ⟨h1, h2', h3, h4, h5, h6, h7⟩ := t2
      refine Or.inr ⟨rfl, k, ⟨b4.trans h1, b5.trans h2', h3, b3.tk h4, ?_, (b3.2.1 4 (by decide) (by decide) (by decide) (by decide)).trans h6, h7⟩, t3.tr b3⟩
      rw [decide_eq_true q]
      exact b2
    · rw [if_pos ((nI_leI (by omega) (by omega)).mpr (by omega)), pk_some]
      refine Or.inr ⟨rfl, k, ?_, t3⟩
      rw [decide_eq_false q]
      have e : mA m false 5 p = m := if_neg (fun q => by cases q.1)
      rw [e]
      exact t2
  · obtain ⟨S1, t1, t2, t3⟩ := tkn hF hS 3 (by decide) (x := 3) rfl k
    rw [t1, bd_some, if_pos rfl, pk_some]
    exact Or.inl ⟨rfl, f, k, t2, t3⟩
def nmE (S : rx_S) (x : Int64) : Nat → Bool := fun k => decide (S.2 30 k = x)
theorem fnd_L {x : Int64} (h4 : S.1 13 4 = nI nc) (hn : nc ≤ 10) : ∀ (d f k : Nat), k + d = nc → d < f → f_X4_findName_L2 N f x (nI k) S = some ((match ff (nmE S x) d k with | some k => nI k | none => -1), S) := by
  intro d
  induction d with
  | zero =>
    intro f k hk hf
    obtain ⟨f, rfl⟩ : ∃ q, f = q + 1 := ⟨f - 1, by omega⟩
    rw [f_X4_findName_L2, h4, if_pos (nI_le (by omega) (by omega))]
    rfl
  | succ d ih =>
    intro f k hk hf
    obtain ⟨f, rfl⟩ : ∃ q, f = q + 1 := ⟨f - 1, by omega⟩
    rw [f_X4_findName_L2, h4, if_neg (nI_ge (by omega) (by omega)), if_neg (show ¬ (10 : Int32) ≤ nI k from nI_ge (b := 10) (by omega) (by decide)), rx_gd_in (vp_in_nI (show k < 10 by omega) (by decide)), nI_clamp (by omega), ff]
    by_cases q : S.2 30 k = x
    · rw [if_pos ((lg_cmp_eq _ _).mpr q), if_pos (show nmE S x k = true from decide_eq_true q)]
    · rw [if_neg (fun e => q ((lg_cmp_eq _ _).mp e)), if_neg (show ¬ nmE S x k = true from fun e => q (of_decide_eq_true e))]
      simp only [rx_let, nI_1]
      exact ih f (k + 1) (by omega) (by omega)
theorem fnd_ok {x : Int64} (hN : 5000 ≤ N) (h4 : S.1 13 4 = nI nc) (hn : nc ≤ 10) : f_X4_findName N x S = some ((match ff (nmE S x) nc 0 with | some k => nI k | none => -1), S) := fnd_L h4 hn nc N 0 (by omega) (by omega)
theorem vAt_ok (hF : tkF z) (ht : tkC z S) (hp : p < kN z) : f_X9_valueAt (nI p) S = some (S.2 18 p, S) := by
  have hm := hF.2.1
  unfold f_X9_valueAt
  rw [if_neg (nI_pos (by omega)), ht.1, if_neg (nI_ge hp (by omega)), rx_gd_in (vp_in_nI (show p < 401 by omega) (by decide)), nI_clamp (by omega)]
theorem uj_L {k i k' : Nat} {v : Int64} (h : k' ≠ k) : (rx_uj S k i v).2 k' = S.2 k' := by
  unfold rx_uj rx_ul
  simp [h]
theorem uj_at {k i : Nat} {v : Int64} : (rx_uj S k i v).2 k = vp_updL (S.2 k) i v := by
  unfold rx_uj rx_ul
  simp
theorem uj_1 {k i : Nat} {v : Int64} : (rx_uj S k i v).1 = S.1 := rfl
theorem tNew {x : Int32} (hN : 5000 ≤ N) (hF : tkF z) (hS : CF z p m nc S) : pk (f_X4_takeNewName N x S) (fun r S' => (r = 0 ∧ ∃ f, tkFl z p 2 f ∧ fC z f p S' ∧ c2F S S') ∨ (r = 1 ∧ (kK z p = 2 ∧ p < 400) ∧ c2F S S' ∧ ∃ nc', CF z (p + 1) (mA m (ff (nmE S (S.2 18 p)) nc 0).isSome 3 p) nc' S' ∧ (ff (nmE S (S.2 18 p)) nc 0 = none → nc < 10 → nc' = nc + 1 ∧ S'.2 30 = vp_updL (S.2 30) nc (S.2 18 p) ∧ S'.1 31 = upd (S.1 31) nc x))) := by
  unfold f_X4_takeNewName
  rcases tk_cases z p 2 with k | ⟨f, k⟩
  · obtain ⟨t1, t2, t3⟩ := tkt hF hS 2 (by decide) (by decide) (x := 2) rfl k
    have hp := hS.2.2.1
    obtain ⟨h1, h2', h3, h4, h5, h6, h7⟩ := t2
    rw [t1, bd_some, if_neg (by decide), h1, nI_pred, vAt_ok hF h4 hp, bd_some, fnd_ok hN h6 h7, bd_some]
    have en : nmE (rx_ui S 13 5 (nI (p + 1))) (S.2 18 p) = nmE S (S.2 18 p) := rfl
    have e18 : (rx_ui S 13 5 (nI (p + 1))).2 18 p = S.2 18 p := rfl
    rw [e18, en]
    cases hff : ff (nmE S (S.2 18 p)) nc 0 with
    | some q =>
      have hq := ff_lt hff
      obtain ⟨S2, b1, b2, b3, b4, b5⟩ := blame_ok (k := 3) hF h4 h1 hp h5 (by omega)
      simp only []
      rw [if_neg (nI_neg (by omega) (by decide)).1, show (3 : Int32) = nI 3 from rfl, b1, bd_some, pk_some]
      exact Or.inr ⟨rfl, k, (t3.tr b3).c2, nc, ⟨b4.trans h1, b5.trans h2', h3, b3.tk h4, b2, (b3.2.1 4 (by decide) (by decide) (by decide) (by decide)).trans h6, h7⟩, fun q => by cases q⟩
    | none =>
      have em : mA m (none : Option Nat).isSome 3 p = m := if_neg (fun q => by cases q.1)
      simp only []
      rw [if_pos trivial, h6, em]
      by_cases hn : nc < 10
      · have gn : ∀ {β : Type} (A : Option β), rx_gd (nI nc) 10 A = A := fun A => rx_gd_in (vp_in_nI hn (by decide))
        rw [if_neg (show ¬ (10 : Int32) ≤ nI nc from nI_ge (b := 10) hn (by decide)), if_neg (show ¬ (10 : Int32) ≤ nI nc from nI_ge (b := 10) hn (by decide)), gn, pk_let, nI_clamp (by omega)]
        generalize hA : rx_ui S 13 5 (nI (p + 1)) = A at *
        have g6 : (rx_uj A 30 nc (S.2 18 p)).1 13 4 = nI nc := h6
        have g62 : (rx_ui (rx_uj A 30 nc (S.2 18 p)) 31 nc x).1 13 4 = nI nc := by rw [ui_row (by decide)]; exact g6
        rw [g6, gn, pk_let, pk_let, nI_clamp (by omega), g62, nI_1, pk_some]
        have e : ∀ j, j ≠ 4 → (rx_ui (rx_ui (rx_uj A 30 nc (S.2 18 p)) 31 nc x) 13 4 (nI (nc + 1))).1 13 j = A.1 13 j := fun j hj => by rw [ui_get, if_pos rfl, if_neg hj, ui_row (by decide)]; rfl
        have er : ∀ r, r ≠ 13 → r ≠ 31 → (rx_ui (rx_ui (rx_uj A 30 nc (S.2 18 p)) 31 nc x) 13 4 (nI (nc + 1))).1 r = A.1 r := fun r q1 q2 => by rw [ui_row q1, ui_row q2]; rfl
        have el : ∀ r, r ≠ 30 → (rx_ui (rx_ui (rx_uj A 30 nc (S.2 18 p)) 31 nc x) 13 4 (nI (nc + 1))).2 r = A.2 r := fun r hr => uj_L hr
        have F : c2F A (rx_ui (rx_ui (rx_uj A 30 nc (S.2 18 p)) 31 nc x) 13 4 (nI (nc + 1))) := ⟨er, fun j a _ _ _ _ => e j a, el⟩
        refine Or.inr ⟨rfl, k, t3.c2.tr F, nc + 1, ⟨(e 5 (by decide)).trans h1, (e 6 (by decide)).trans h2', h3, F.tk h4, h5.eq (e 8 (by decide)) (e 9 (by decide)), by rw [ui_get, if_pos rfl, if_pos rfl], by omega⟩, fun _ _ => ⟨rfl, ?_, ?_⟩⟩
        · show (rx_uj A 30 nc (S.2 18 p)).2 30 = _
          rw [uj_at, t3.2.2]
        · rw [ui_row (by decide), ui_same]
          show upd (A.1 31) nc x = _
          rw [t3.1 31 (by decide)]
      · rw [if_pos (show (10 : Int32) ≤ nI nc from nI_le (a := 10) (by omega) (by omega)), pk_some]
        exact Or.inr ⟨rfl, k, t3.c2, nc, ⟨h1, h2', h3, h4, h5, h6, h7⟩, fun _ h => absurd h hn⟩
  · obtain ⟨S1, t1, t2, t3⟩ := tkn hF hS 2 (by decide) (x := 2) rfl k
    rw [t1, bd_some, if_pos rfl, pk_some]
    exact Or.inl ⟨rfl, f, k, t2, t3.c2⟩
end FCC
