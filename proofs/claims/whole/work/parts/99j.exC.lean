/-! ===== READ 10: the class's expressions ===== -/
def tkC (z : tks) (S : rx_S) : Prop := S.1 14 4 = nI (kN z) ∧ ∀ j, j < kN z → S.1 16 j = nI (kK z j) ∧ S.1 17 j = nI (kP z j) ∧ (kK z j = 3 → S.2 18 j = Int64.ofNat (kV z j))
theorem tkC.eq {z : tks} {S S' : rx_S} (h : tkC z S) (e0 : S'.1 14 = S.1 14) (e1 : S'.1 16 = S.1 16) (e2 : S'.1 17 = S.1 17) (e3 : S'.2 18 = S.2 18) : tkC z S' := by
  unfold tkC at h ⊢
  rw [e0, e1, e2, e3]
  exact h
def CS (z : tks) (p c : Nat) (S : rx_S) : Prop := S.1 13 5 = nI p ∧ S.1 20 4 = nI c ∧ S.1 13 6 = 0 ∧ p < kN z ∧ tkC z S
def xeC (c : Nat) (S S' : rx_S) : Prop := (∀ k, k ≠ 13 → k ≠ 20 → k ≠ 21 → S'.1 k = S.1 k) ∧ (∀ j, j ≠ 5 → j ≠ 6 → S'.1 13 j = S.1 13 j) ∧ (∀ j, j ≠ 4 → S'.1 20 j = S.1 20 j) ∧ (∀ j, j < c → S'.1 21 j = S.1 21 j) ∧ S'.2 = S.2
theorem xeC.rf {c : Nat} {S : rx_S} : xeC c S S := ⟨fun _ _ _ _ => rfl, fun _ _ _ => rfl, fun _ _ => rfl, fun _ _ => rfl, rfl⟩
theorem xeC.tr {c c' : Nat} {S S' S'' : rx_S} (h : xeC c S S') (g : xeC c' S' S'') (hc : c ≤ c') : xeC c S S'' := ⟨fun k a b d => (g.1 k a b d).trans (h.1 k a b d), fun j a b => (g.2.1 j a b).trans (h.2.1 j a b), fun j a => (g.2.2.1 j a).trans (h.2.2.1 j a), fun j a => (g.2.2.2.1 j (by omega)).trans (h.2.2.2.1 j a), g.2.2.2.2.trans h.2.2.2.2⟩
theorem xeC.ui {c j : Nat} {S : rx_S} {x : Int32} (hj : j = 5 ∨ j = 6) : xeC c S (rx_ui S 13 j x) := ⟨fun k a _ _ => ui_row a, fun i a b => by rw [ui_get, if_pos rfl, if_neg (by omega)], fun i _ => by rw [ui_row (by decide)], fun i _ => by rw [ui_row (by decide)], rfl⟩
theorem xeC.tk {z : tks} {c : Nat} {S S' : rx_S} (g : xeC c S S') (h : tkC z S) : tkC z S' := h.eq (g.1 14 (by decide) (by decide) (by decide)) (g.1 16 (by decide) (by decide) (by decide)) (g.1 17 (by decide) (by decide) (by decide)) (by rw [g.2.2.2.2])
section EXC
variable {N : Nat} {S : rx_S} {z : tks} {p c : Nat}
theorem kindAt_ok (hF : tkF z) (ht : tkC z S) (hp : p < kN z) : f_X9_kindAt (nI p) S = some (nI (kK z p), S) := by
  have hm := hF.2.1
  unfold f_X9_kindAt
  rw [if_neg (nI_pos (by omega)), ht.1, if_neg (nI_ge hp (by omega)), rx_gd_in (vp_in_nI (show p < 401 by omega) (by decide)), nI_clamp (by omega), (ht.2 p hp).1]
theorem kk_ne (hF : tkF z) (hp : p < kN z) {k : Nat} (hk : k < 1000) : nI (kK z p) = nI k ↔ kK z p = k := by
  have := okK_lt (hF.2.2.1 p hp)
  exact nI_eq (by omega) (by omega)
theorem take_ok (hF : tkF z) (ht : tkC z S) (h5 : S.1 13 5 = nI p) (hp : p < kN z) {x : Int32} (k : Nat) (hk : k < 1000) (hx : x = nI k) : f_X4_take x S = if kK z p = k then (if p < 400 then some (1, rx_ui S 13 5 (nI (p + 1))) else some (0, rx_ui S 13 6 2)) else some (0, rx_ui S 13 6 1) := by
  unfold f_X4_take
  rw [h5, kindAt_ok hF ht hp, bd_some, hx, h5]
  by_cases q : kK z p = k
  · rw [if_pos q, if_pos ((kk_ne hF hp hk).mpr q), nI_1]
    by_cases q4 : p < 400
    · rw [if_pos q4, if_pos (show nI p < 400 from nI_lt (b := 400) q4 (by decide))]
      rfl
    · rw [if_neg q4, if_neg (show ¬ nI p < 400 from nI_nlt (b := 400) (by omega) (by have := hF.2.1; omega))]
      rfl
  · rw [if_neg q, if_neg (fun e => q ((kk_ne hF hp hk).mp e))]
    rfl
def adS (S : rx_S) (c : Nat) (x : Int32) : rx_S := rx_ui (rx_ui S 21 c x) 20 4 (nI (c + 1))
theorem add_ok {x : Int32} (h : S.1 20 4 = nI c) (hc : c < 420) : f_X2_add 20 x S = some (nI c, adS S c x) := by
  unfold f_X2_add adS
  simp only [rx_let]
  rw [h, if_neg (nI_pos (by omega)), if_neg (show ¬ (420 : Int32) ≤ nI c from nI_ge (b := 420) hc (by decide)), rx_gd_in (vp_in_nI hc (by decide)), nI_clamp (by omega)]
  have e : (rx_ui S 21 c x).1 20 4 = nI c := by rw [ui_row (by decide)]; exact h
  show some (nI c, rx_ui (rx_ui S 21 c x) 20 4 ((rx_ui S 21 c x).1 20 4 + 1)) = _
  rw [e, nI_1]
theorem adS_e {x : Int32} : xeC c S (adS S c x) := by
  unfold adS
  refine ⟨fun k a b d => by rw [ui_row b, ui_row d], fun j _ _ => by rw [ui_row (by decide), ui_row (by decide)], fun j a => by rw [ui_get, if_pos rfl, if_neg a, ui_row (by decide)], fun j a => by rw [ui_row (by decide), ui_same, upd_ne (by omega)], rfl⟩
theorem adS_at {x : Int32} : (adS S c x).1 21 c = x ∧ (adS S c x).1 20 4 = nI (c + 1) ∧ (adS S c x).1 13 = S.1 13 := by
  unfold adS
  exact ⟨by rw [ui_row (by decide), ui_same]; exact upd_at, by rw [ui_same]; exact upd_at, by rw [ui_row (by decide), ui_row (by decide)]⟩
theorem CS.ad {x : Int32} (h : CS z p c S) : CS z p (c + 1) (adS S c x) := by
  obtain ⟨h1, h2, h3, h4, h5⟩ := h
  obtain ⟨a1, a2, a3⟩ := adS_at (S := S) (c := c) (x := x)
  exact ⟨by rw [a3]; exact h1, a2, by rw [a3]; exact h3, h4, adS_e.tk h5⟩
theorem CS.go (h : CS z p c S) (hp : p + 1 < kN z) : CS z (p + 1) c (rx_ui S 13 5 (nI (p + 1))) := by
  obtain ⟨h1, h2, h3, h4, h5⟩ := h
  exact ⟨by rw [ui_get, if_pos rfl, if_pos rfl], by rw [ui_row (by decide)]; exact h2, by rw [ui_get, if_pos rfl, if_neg (by decide)]; exact h3, hp, (xeC.ui (c := 0) (Or.inl rfl)).tk h5⟩
def fC (z : tks) (f q : Nat) (S : rx_S) : Prop := (f = 1 ∨ f = 2) ∧ q < kN z ∧ S.1 13 6 = nI f ∧ S.1 13 5 = nI q
theorem CS.fl (h : CS z p c S) {f : Nat} {x : Int32} (hf : f = 1 ∨ f = 2) (hx : x = nI f) : fC z f p (rx_ui S 13 6 x) := ⟨hf, h.2.2.2.1, by rw [ui_get, if_pos rfl, if_pos rfl]; exact hx, by rw [ui_get, if_pos rfl, if_neg (by decide)]; exact h.1⟩
theorem taken_ok (hF : tkF z) (ht : tkC z S) (h5 : S.1 13 5 = nI (p + 1)) (hp : p < kN z) (hk : kK z p = 3) : f_X4_taken S = some (nI (kV z p), S) := by
  have hm := hF.2.1
  have hv := hF.2.2.2.2.1 p hp hk
  unfold f_X4_taken f_X9_valueAt
  rw [h5, nI_pred, if_neg (nI_pos (by omega)), ht.1, if_neg (nI_ge hp (by omega)), rx_gd_in (vp_in_nI (show p < 401 by omega) (by decide)), nI_clamp (by omega), (ht.2 p hp).2.2 hk, bd_some, ← l_nI (by omega), Int32.toInt32_toInt64]
/-- no operator of the levels up to lv comes next -/
def nop (lv k : Nat) : Prop := ∀ l, l ≤ lv → ¬ opL l k
def PC (z : tks) (B lv d p c : Nat) (S : rx_S) (r : Int32) (S' : rx_S) : Prop := (r = 1 ∧ ∃ q w, RX z B lv d p q w ∧ nop lv (kK z q) ∧ Ex (13 - 2 * d + lv) w ∧ w.length + p ≤ q ∧ CS z q (c + w.length) S' ∧ sgC (S'.1 21) c w ∧ xeC c S S') ∨ (r = 0 ∧ ∃ f q, RF z B lv d p f q ∧ fC z f q S' ∧ xeC c S S')
theorem nop0 (k : Nat) : nop 0 k := fun l hl h => by
  rcases h with ⟨e, _⟩ | ⟨e, _⟩ <;> omega
theorem cw_var {k : Nat} (h1 : 143 ≤ k) (h2 : k < 152) : (-1 : Int32) - (nI k - 143) = cw (1, k - 143) := by
  have : ∀ k, k < 152 → 143 ≤ k → (-1 : Int32) - (nI k - 143) = cw (1, k - 143) := by decide
  exact this k h2 h1
theorem fin_leaf {B d : Nat} {i : It} (hd : d ≤ 6) (hF : tkF z) (hS : CS z p c S) (hc : c ≤ 14 + p) (hp : p < 400) (hu : isU z p i) : pk (rx_bd (f_X2_add 20 (cw i) (rx_ui S 13 5 (nI (p + 1)))) (fun x21 S20 => some ((1 : Int32), S20))) (PC z B 0 d p c S) := by
  have hR := RX_leaf (B := B) (d := d) hF hp hS.2.2.2.1 hu
  have hG := hS.go hR.1.2
  rw [add_ok hG.2.1 (by omega), bd_some, pk_some]
  refine Or.inl ⟨rfl, p + 1, [i], hR, nop0 _, Ex.lf (h := 13 - 2 * d - 1) (hu.lf hF hS.2.2.2.1) |>.le (by omega) , by rw [List.length_cons, List.length_nil]; omega, hG.ad, ⟨adS_at.1, trivial⟩, (xeC.ui (Or.inl rfl)).tr adS_e (Nat.le_refl c)⟩
theorem unitC {B d : Nat} {rec : Int32 → rx_S → Option (Int32 × rx_S)} (hF : tkF z) (hd : d ≤ 6) (hrec : d < 6 → ∀ (p c : Nat) (S : rx_S), CS z p c S → c ≤ 14 + p → pk (rec (nI (d + 1)) S) (PC z B 2 (d + 1) p c S)) (hS : CS z p c S) (hc : c ≤ 14 + p) : pk (f_X4_readUnit rec N (nI d) S) (PC z B 0 d p c S) := by
  have hp := hS.2.2.2.1
  have hT := hS.2.2.2.2
  have ho := hF.2.2.1 p hp
  have ho2 := okK_lt ho
  unfold f_X4_readUnit
  rw [hS.1, kindAt_ok hF hT hp, bd_some]
  by_cases k40 : kK z p = 40
  · rw [if_pos (show nI (kK z p) = 40 from (kk_ne hF hp (k := 40) (by decide)).mpr k40)]
    by_cases hd6 : d < 6
    · rw [if_pos (show nI d < 6 from nI_lt (b := 6) hd6 (by decide)), take_ok hF hT hS.1 hp 40 (by decide) (x := 40) rfl, if_pos k40]
      by_cases p4 : p < 400
      · have hp1 : p + 1 < kN z := hF.2.2.2.1 p hp (by omega) (by omega) p4
        have hG := hS.go hp1
        rw [if_pos p4, bd_some, if_neg (by decide), nI_1]
        refine pk_bdm (hrec hd6 (p + 1) c _ hG (by omega)) (fun r S2 h => ?_)
        rcases h with ⟨rfl, q, w, hR, hn, hE, hl, hS2, hg, he⟩ | ⟨rfl, f, q, hR, hf, he⟩
        · have hq := hS2.2.2.2.1
          have nis : ¬ isop (kK z q) := fun h => by
            rcases h with e | e | e | e
            · exact hn 2 (by omega) (Or.inr ⟨rfl, Or.inl e⟩)
            · exact hn 2 (by omega) (Or.inr ⟨rfl, Or.inr e⟩)
            · exact hn 1 (by omega) (Or.inl ⟨rfl, Or.inl e⟩)
            · exact hn 1 (by omega) (Or.inl ⟨rfl, Or.inr e⟩)
          rw [if_neg (by decide), take_ok hF hS2.2.2.2.2 hS2.1 hq 41 (by decide) (x := 41) rfl]
          by_cases q41 : kK z q = 41
          · rw [if_pos q41]
            by_cases q4 : q < 400
            · have hR2 := RX_paren hF k40 p4 hd6 hR q41 q4
              rw [if_pos q4, bd_some, if_neg (by decide), pk_some]
              refine Or.inl ⟨rfl, q + 1, w, hR2, nop0 _, hE.le (by omega), by omega, hS2.go hR2.1.2, ?_, ((xeC.ui (Or.inl rfl)).tr he (Nat.le_refl c)).tr (xeC.ui (Or.inl rfl)) (Nat.le_refl c)⟩
              rw [ui_row (by decide)]
              exact hg
            · rw [if_neg q4, bd_some, if_pos rfl, pk_some]
              exact Or.inr ⟨rfl, 2, q, RF_close hF k40 p4 hd6 hR nis (Or.inr ⟨rfl, q41, q4⟩), hS2.fl (Or.inr rfl) rfl, ((xeC.ui (Or.inl rfl)).tr he (Nat.le_refl c)).tr (xeC.ui (Or.inr rfl)) (Nat.le_refl c)⟩
          · rw [if_neg q41, bd_some, if_pos rfl, pk_some]
            exact Or.inr ⟨rfl, 1, q, RF_close hF k40 p4 hd6 hR nis (Or.inl ⟨rfl, q41⟩), hS2.fl (Or.inl rfl) rfl, ((xeC.ui (Or.inl rfl)).tr he (Nat.le_refl c)).tr (xeC.ui (Or.inr rfl)) (Nat.le_refl c)⟩
        · rw [if_pos rfl, pk_some]
          exact Or.inr ⟨rfl, f, q, RF_paren hF k40 p4 hp1 hd6 hR, hf, (xeC.ui (Or.inl rfl)).tr he (Nat.le_refl c)⟩
      · rw [if_neg p4, bd_some, if_pos rfl, pk_some]
        exact Or.inr ⟨rfl, 2, p, RF_open hF k40 (Or.inr p4), hS.fl (Or.inr rfl) rfl, xeC.ui (Or.inr rfl)⟩
    · rw [if_neg (show ¬ nI d < 6 from nI_nlt (b := 6) (by omega) (by omega))]
      unfold f_X4_refuse
      simp only [rx_let]
      rw [bd_some, pk_bl (Or.inl rfl), pk_some]
      exact Or.inr ⟨rfl, 2, p, RF_open hF k40 (Or.inl hd6), hS.fl (Or.inr rfl) rfl, xeC.ui (Or.inr rfl)⟩
  · rw [if_neg (show ¬ nI (kK z p) = 40 from fun e => k40 ((kk_ne hF hp (k := 40) (by decide)).mp e))]
    simp only [rx_let]
    by_cases kv : 143 ≤ kK z p ∧ kK z p < 152
    · rw [if_neg (show ¬ nI (kK z p) < 143 from nI_nlt (b := 143) kv.1 (by omega)), if_neg (show ¬ (152 : Int32) ≤ nI (kK z p) from nI_ge (b := 152) kv.2 (by decide)), if_neg (by decide), take_ok hF hT hS.1 hp (kK z p) (by omega) rfl, if_pos rfl]
      by_cases p4 : p < 400
      · rw [if_pos p4, bd_some, if_neg (by decide), if_neg (by decide), cw_var kv.1 kv.2]
        exact fin_leaf hd hF hS hc p4 (Or.inr ⟨kv.1, kv.2, rfl⟩)
      · rw [if_neg p4, bd_some, if_pos rfl, pk_some]
        exact Or.inr ⟨rfl, 2, p, RF_leaf hF p4 hp (Or.inr ⟨kv.1, kv.2, rfl⟩), hS.fl (Or.inr rfl) rfl, xeC.ui (Or.inr rfl)⟩
    · have body : pk (rx_bd (f_X4_take 3 S) (fun x15 S14 => if x15 = 0 then some (0, S14) else rx_bd (f_X4_taken S14) (fun x25 S24 => rx_bd (f_X2_add 20 x25 S24) (fun x21 S20 => some (1, S20))))) (PC z B 0 d p c S) := by
        rw [take_ok hF hT hS.1 hp 3 (by decide) (x := 3) rfl]
        by_cases k3 : kK z p = 3
        · rw [if_pos k3]
          by_cases p4 : p < 400
          · have hp1 : p + 1 < kN z := hF.2.2.2.1 p hp (by omega) (by omega) p4
            have hG := hS.go hp1
            rw [if_pos p4, bd_some, if_neg (by decide), taken_ok hF hG.2.2.2.2 hG.1 hp k3, bd_some]
            exact fin_leaf (i := (0, kV z p)) hd hF hS hc p4 (Or.inl ⟨k3, rfl⟩)
          · rw [if_neg p4, bd_some, if_pos rfl, pk_some]
            exact Or.inr ⟨rfl, 2, p, RF_leaf hF p4 hp (Or.inl ⟨k3, rfl⟩), hS.fl (Or.inr rfl) rfl, xeC.ui (Or.inr rfl)⟩
        · rw [if_neg k3, bd_some, if_pos rfl, pk_some]
          exact Or.inr ⟨rfl, 1, p, RF_bad hF hp k40 k3 kv, hS.fl (Or.inl rfl) rfl, xeC.ui (Or.inr rfl)⟩
      by_cases k1 : kK z p < 143
      · rw [if_pos (show nI (kK z p) < 143 from nI_lt (b := 143) k1 (by decide))]
        simp only [if_true]
        exact body
      · rw [if_neg (show ¬ nI (kK z p) < 143 from nI_nlt (b := 143) (by omega) (by omega)), if_pos (show (152 : Int32) ≤ nI (kK z p) from nI_le (a := 152) (by omega) (by omega))]
        simp only [if_true]
        exact body
theorem PC.up {B lv d : Nat} {r : Int32} {S' : rx_S} (hl : lv ≤ 1) (h : r = 0) (g : PC z B lv d p c S r S') : PC z B (lv + 1) d p c S r S' := by
  rcases g with ⟨e, _⟩ | ⟨e, f, q, h1, h2, h3⟩
  · rw [h] at e
    exact absurd e (by decide)
  · exact Or.inr ⟨e, f, q, h1.up, h2, h3⟩
end EXC
