/-! ===== READ 30: the class's cut, whole ===== -/
def tkwC (b : Nat → Nat) (len j : Nat) (S : rx_S) : Prop := S.1 16 j = nI (tkd b len (tpl b len j)) ∧ S.1 17 j = nI (tpl b len j) ∧ (tkd b len (tpl b len j) = 3 → S.2 18 j = Int64.ofNat (nuD b (tpl b len j) (tln b len (tpl b len j)))) ∧ (tkd b len (tpl b len j) = 2 → tln b len (tpl b len j) ≤ 8 ∧ tpl b len j < len ∧ qLe (b (tpl b len j)) = true ∧ S.2 18 j = Int64.ofNat (en 32 (wdg b (tpl b len j)) (tln b len (tpl b len j))))
def ctF (S S' : rx_S) : Prop := (∀ r, r ≠ 14 → r ≠ 16 → r ≠ 17 → S'.1 r = S.1 r) ∧ (∀ r, r ≠ 18 → S'.2 r = S.2 r)
theorem ctF.rf {S : rx_S} : ctF S S := ⟨fun _ _ _ _ => rfl, fun _ _ => rfl⟩
theorem ctF.tr {S S' S'' : rx_S} (h : ctF S S') (g : ctF S' S'') : ctF S S'' := ⟨fun r a c d => (g.1 r a c d).trans (h.1 r a c d), fun r a => (g.2 r a).trans (h.2 r a)⟩
section TOKE
variable {N len : Nat} {b : Nat → Nat}
theorem inC.eq {S S' : rx_S} (h : inC len b S) (e : S'.1 1 = S.1 1) : inC len b S' := ⟨h.1, fun j hj => by rw [e]; exact h.2 j hj⟩
def cutP (b : Nat → Nat) (len : Nat) (S S' : rx_S) : Prop := ctF S S' ∧ ∃ m, 1 ≤ m ∧ m ≤ 401 ∧ S'.1 14 4 = nI m ∧ (∀ i, i < m → tkwC b len i S') ∧ (∀ i, i + 1 < m → tkd b len (tpl b len i) ≠ 0 ∧ tkd b len (tpl b len i) ≠ 1) ∧ (m = 401 ∨ tkd b len (tpl b len (m - 1)) = 0 ∨ tkd b len (tpl b len (m - 1)) = 1)
theorem tkd_lt (i : Nat) (h : ∀ j, j < len → b j < 256) : tkd b len i < 256 := by
  unfold tkd
  split
  · rename_i h1
    have := h i h1
    split
    · split
      · decide
      · cases hff : ff (kwp (wdg b i) (tln b len i)) 24 0 with
        | none => exact (by decide : (2 : Nat) < 256)
        | some k =>
          have := ff_lt hff
          show 128 + k < 256
          omega
    · split
      · split <;> decide
      · split <;> omega
  · decide
theorem cutC_L (hN : 5000 ≤ N) : ∀ (μ j n : Nat) (S : rx_S), j + μ = 401 → μ + 1 < n → inC len b S → S.2 15 = zC.2 15 → S.1 14 4 = nI j → (1 ≤ j ∨ j = 0) → (∀ i, i < j → tkwC b len i S ∧ tkd b len (tpl b len i) ≠ 0 ∧ tkd b len (tpl b len i) ≠ 1) → pk (f_X9_cut_L18 N n (nI len) (nI len) (nI (tps b len j)) 1 S) (fun _ S' => cutP b len S S') := by
  intro μ
  induction μ with
  | zero =>
    intro j n S hj hn hC h15 h4 _ hw
    obtain ⟨n, rfl⟩ : ∃ q, n = q + 1 := ⟨n - 1, by omega⟩
    rw [f_X9_cut_L18, if_neg (by decide), h4, if_pos (show (400 : Int32) < nI j from nI_lt (a := 400) (by omega) (by omega)), pk_some]
    exact ⟨ctF.rf, j, by omega, by omega, h4, fun i hi => (hw i hi).1, fun i hi => (hw i (by omega)).2, Or.inl (by omega)⟩
  | succ μ ih =>
    intro j n S hj hn hC h15 h4 _ hw
    obtain ⟨n, rfl⟩ : ∃ q, n = q + 1 + 1 := ⟨n - 2, by omega⟩
    have hl := hC.1
    have hps := tps_le (b := b) (len := len) j
    have hpl := tpl_le (b := b) (len := len) j
    have gj : ∀ (A : Option (Unit × rx_S)) (P : Unit → rx_S → Prop), pk (rx_gd (nI j) 401 A) P = pk A P := fun A P => pk_gdn (by omega) (by decide)
    have hbl : f_X9_blanksEnd N (nI (tps b len j)) (nI len) S = some (nI (tpl b len j), S) := blE_L hC (len - tps b len j) N (tps b len j) (by omega) (by omega)
    have key : pk (rx_gd (nI j) 401 (rx_let (rx_ui S 17 (Int32.toNatClampNeg (nI j)) (nI (tpl b len j))) (fun S27 => rx_gd (S27.1 14 4) 401 (rx_let (rx_uj S27 18 (Int32.toNatClampNeg (S27.1 14 4)) (0 : Int64)) (fun S29 => rx_bd (f_X9_kindOf N (nI (tpl b len j)) (nI (tkE b len (tpl b len j))) S29) (fun x31 S30 => rx_gd (S29.1 14 4) 401 (rx_let (rx_ui S30 16 (Int32.toNatClampNeg (S29.1 14 4)) x31) (fun S34 => rx_gd (S34.1 14 4) 401 (if (S34.1 16 (Int32.toNatClampNeg (S34.1 14 4))) = 0 then (f_X9_cut_L18 N (n + 1) (nI len) (nI len) (nI (tkE b len (tpl b len j))) 0 (rx_ui S34 14 4 ((S34.1 14 4) + 1))) else (rx_gd (S34.1 14 4) 401 (if (S34.1 16 (Int32.toNatClampNeg (S34.1 14 4))) = 1 then (f_X9_cut_L18 N (n + 1) (nI len) (nI len) (nI (tkE b len (tpl b len j))) 0 (rx_ui S34 14 4 ((S34.1 14 4) + 1))) else (f_X9_cut_L18 N (n + 1) (nI len) (nI len) (nI (tkE b len (tpl b len j))) 1 (rx_ui S34 14 4 ((S34.1 14 4) + 1)))))))))))))) (fun _ S' => cutP b len S S') := by
      rw [gj, pk_let, nI_clamp (by omega)]
      have a4 : (rx_ui S 17 j (nI (tpl b len j))).1 14 4 = nI j := by rw [ui_row (by decide)]; exact h4
      rw [a4, gj, pk_let, nI_clamp (by omega)]
      generalize hA : rx_uj (rx_ui S 17 j (nI (tpl b len j))) 18 j (0 : Int64) = A
      have Ar : ∀ r, r ≠ 17 → A.1 r = S.1 r := fun r hr => by rw [← hA]; show (rx_ui S 17 j (nI (tpl b len j))).1 r = _; rw [ui_row hr]
      have A17 : A.1 17 = upd (S.1 17) j (nI (tpl b len j)) := by rw [← hA]; show (rx_ui S 17 j (nI (tpl b len j))).1 17 = _; rw [ui_same]
      have Al : ∀ r, r ≠ 18 → A.2 r = S.2 r := fun r hr => by rw [← hA, uj_L hr]; rfl
      have A18 : ∀ k, k ≠ j → A.2 18 k = S.2 18 k := fun k hk => by rw [← hA, uj_at, updL_ne hk]; rfl
      have hA4 : A.1 14 4 = nI j := by rw [Ar 14 (by decide)]; exact h4
      obtain ⟨B, eB, b1, b2, b3, b4, b5⟩ := kindC (i := tpl b len j) (j := j) hN (hC.eq (Ar 1 (by decide))) ((Al 15 (by decide)).trans h15) hA4 (by omega) hpl
      rw [eB, bd_some, hA4, gj, pk_let, nI_clamp (by omega)]
      generalize hD : rx_ui B 16 j (nI (tkd b len (tpl b len j))) = D
      have Dr : ∀ r, r ≠ 16 → r ≠ 17 → D.1 r = S.1 r := fun r q1 q2 => by rw [← hD, ui_row q1, b1, Ar r q2]
      have D16 : D.1 16 = upd (S.1 16) j (nI (tkd b len (tpl b len j))) := by rw [← hD, ui_same, b1, Ar 16 (by decide)]
      have D17 : D.1 17 = upd (S.1 17) j (nI (tpl b len j)) := by rw [← hD, ui_row (by decide), b1, A17]
      have DL : D.2 = B.2 := by rw [← hD]; rfl
      have hD4 : D.1 14 4 = nI j := by rw [Dr 14 (by decide) (by decide)]; exact h4
      have kl := tkd_lt (b := b) (len := len) (tpl b len j) (fun j hj => (hC.2 j hj).1)
      rw [hD4, gj, nI_clamp (by omega), D16, upd_at, nI_1]
      generalize hE : rx_ui D 14 4 (nI (j + 1)) = E
      have Er : ∀ r, r ≠ 14 → E.1 r = D.1 r := fun r q1 => by rw [← hE, ui_row q1]
      have E4 : E.1 14 4 = nI (j + 1) := by rw [← hE, ui_get, if_pos rfl, if_pos rfl]
      have EL : E.2 = B.2 := by rw [← hE]; exact DL
      have FE : ctF S E := ⟨fun r q1 q2 q3 => by rw [Er r q1, Dr r q2 q3], fun r hr => by rw [EL, b2 r hr, Al r hr]⟩
      have wE : ∀ i, i < j + 1 → tkwC b len i E := by
        intro i hi
        by_cases e : i = j
        · subst e
          exact ⟨by rw [Er 16 (by decide), D16, upd_at], by rw [Er 17 (by decide), D17, upd_at], fun q => by rw [EL]; exact b4 q, fun q => by obtain ⟨q1, q2, q3, q4⟩ := b5 q; exact ⟨q1, q2, q3, by rw [EL]; exact q4⟩⟩
        · obtain ⟨⟨w1, w2, w3, w4⟩, -⟩ := hw i (by omega)
          have e18 : E.2 18 i = S.2 18 i := by rw [EL, b3 i e, A18 i e]
          exact ⟨by rw [Er 16 (by decide), D16, upd_ne e]; exact w1, by rw [Er 17 (by decide), D17, upd_ne e]; exact w2, fun q => by rw [e18]; exact w3 q, fun q => by obtain ⟨q1, q2, q3, q4⟩ := w4 q; exact ⟨q1, q2, q3, by rw [e18]; exact q4⟩⟩
      have stop : (tkd b len (tpl b len j) = 0 ∨ tkd b len (tpl b len j) = 1) → pk (f_X9_cut_L18 N (n + 1) (nI len) (nI len) (nI (tkE b len (tpl b len j))) 0 E) (fun _ S' => cutP b len S S') := by
        intro hk
        rw [f_X9_cut_L18, if_pos rfl, pk_some]
        exact ⟨FE, j + 1, by omega, by omega, E4, wE, fun i hi => (hw i (by omega)).2, Or.inr hk⟩
      by_cases k0 : tkd b len (tpl b len j) = 0
      · rw [if_pos (show nI (tkd b len (tpl b len j)) = 0 by rw [k0]; rfl)]
        exact stop (Or.inl k0)
      · rw [if_neg (nI_ne0 (by omega) (by omega)), gj]
        by_cases k1 : tkd b len (tpl b len j) = 1
        · rw [if_pos (show nI (tkd b len (tpl b len j)) = 1 by rw [k1]; rfl)]
          exact stop (Or.inr k1)
        · rw [if_neg (show ¬ nI (tkd b len (tpl b len j)) = 1 from fun e => k1 ((nI_eq (b := 1) (by omega) (by decide)).mp e))]
          refine pk_mono (ih (j + 1) (n + 1) E (by omega) (by omega) (hC.eq (by rw [Er 1 (by decide), Dr 1 (by decide) (by decide)])) ((FE.2 15 (by decide)).trans h15) E4 (Or.inl (by omega)) (fun i hi => ⟨wE i hi, ?_⟩)) (fun _ S' g => ⟨FE.tr g.1, g.2⟩)
          by_cases e : i = j
          · rw [e]; exact ⟨k0, k1⟩
          · exact (hw i (by omega)).2
    rw [f_X9_cut_L18, if_neg (by decide), h4, if_neg (show ¬ (400 : Int32) < nI j from nI_nlt (a := 400) (by omega) (by decide)), hbl, bd_some, teC_ok hN hC hpl, bd_some, h4]
    simp only [rx_let] at key ⊢
    by_cases q : len ≤ tpl b len j
    · have e : len = tpl b len j := by omega
      rw [if_pos (nI_le q (by omega))]
      rw [← e] at key ⊢
      exact key
    · rw [if_neg (nI_ge (by omega) (by omega))]
      exact key
theorem cutC (hN : 5000 ≤ N) {S : rx_S} (hC : inC len b S) (h15 : S.2 15 = zC.2 15) : pk (f_X9_cut N (nI len) S) (fun _ S' => cutP b len S S') := by
  have hl := hC.1
  unfold f_X9_cut
  rw [pk_let, pk_let, if_neg (show ¬ (2000 : Int32) < nI len from nI_nlt (a := 2000) hl (by decide))]
  have F : ctF S (rx_ui S 14 4 0) := ⟨fun r q1 _ _ => ui_row q1, fun _ _ => rfl⟩
  refine pk_mono (cutC_L hN 401 0 N (rx_ui S 14 4 0) (by omega) (by omega) (hC.eq (ui_row (by decide))) h15 (by rw [ui_get, if_pos rfl, if_pos rfl]; rfl) (Or.inr rfl) (fun i hi => by omega)) (fun _ S' g => ⟨F.tr g.1, g.2⟩)
end TOKE
