/-! ===== READ 22: the reference's couples, whole ===== -/
section FCP
variable {N : Nat} {S : rx_S} {z : tks} {p nn sd q : Nat} {m : Nat × Nat}
theorem mA_tt {b : Bool} {k j : Nat} (hk : k ≠ 0) : mA (mA m b k j) true k j = mA m true k j := by
  cases b with
  | false => rw [mA_f]
  | true => rw [mA_ne (mA_t1 hk)]
theorem oV_neg {o : Option Nat} (ho : ∀ s, o = some s → s < 6) : (oV o < 0 ↔ o = none) := by
  cases o with
  | none => exact ⟨fun _ => rfl, fun _ => by decide⟩
  | some s =>
    have := ho s rfl
    exact ⟨fun h => absurd h (nI_pos (by omega)), fun h => by cases h⟩
theorem oV_same {oa : Option Nat} {t : Nat} (ha : ∀ s, oa = some s → s < 6) (ht : t < 6) : (oV oa = nI t ↔ sameB oa (some t) = true) := by
  cases oa with
  | none => exact ⟨fun e => absurd e.symm (nI_neg (x := t) (c := -1) (by omega) (by decide)).1, fun e => by cases e⟩
  | some s =>
    have := ha s rfl
    show nI s = nI t ↔ decide (s = t) = true
    rw [nI_eq (by omega) (by omega), decide_eq_true_iff]
theorem cpMm.g {S0 : rx_S} {oa ob : Option Nat} {S' : rx_S} (g : g1F S0 S) (h : cpMm z p q sd m oa ob S S') : cpMm z p q sd m oa ob S0 S' := by
  obtain ⟨h1, h2, h3, h4, h5, h6⟩ := h
  refine ⟨h1, by rw [h2, g.1 107 (by decide)], fun s t a b => ?_, fun r q1 q2 q3 q4 => (h4 r q1 q2 q3 q4).trans (g.1 r q1), fun j q1 q2 q3 q4 q5 => (h5 j q1 q2 q3 q4 q5).trans (g.2.1 j q1 q2 q3 q4 q5), h6.trans g.2.2⟩
  have := h3 s t a b
  rw [g.1 108 (by decide), g.1 106 (by decide)] at this
  exact this
theorem tcB_ok {oa : Option Nat} (hN : 5000 ≤ N) (hF : tkF z) (hS : MF z (p + 2) m S) (h19 : S.1 94 19 = nI sd) (hs : sd < 2) (h107 : S.1 107 sd = nI q) (hq : q < 3) (h20 : S.1 94 20 = nI nn) (hnn : nn ≤ 10) (hA : nAt S nn) (ha : ∀ s, oa = some s → s < 6) : pk (tcB N (nI (3 * sd + q)) (oV oa) S) (fun _ S' => rdM sd S S' ∧ ((∃ f j, sqF z (p + 2) [2, 59] f j ∧ flt z f j S') ∨ (sqT z (p + 2) [2, 59] ∧ cpMm z p q sd (mA (mA m (cfM S sd (oM S (S.2 100 (p + 2)) nn)) (nmK (oM S (S.2 100 (p + 2)) nn)) (p + 2)) (sameB oa (oM S (S.2 100 (p + 2)) nn)) 3 (p + 2)) oa (oM S (S.2 100 (p + 2)) nn) S S'))) := by
  unfold tcB
  rw [pk_let, hS.1]
  have hp2 := hS.2.2.1
  refine pk_bdm (knSp hN hF hS h20 hnn hA) (fun r S1 g => ?_)
  obtain ⟨G1, g⟩ := g
  rcases g with ⟨f, k1, t1, rfl⟩ | ⟨k1, rfl, M1⟩
  · rw [if_neg t1.pos.2.1, tcE_f t1, pk_some]
    exact ⟨G1.rd, Or.inl ⟨f, p + 2, Or.inl ⟨k1, rfl⟩, t1⟩⟩
  generalize hob : oM S (S.2 100 (p + 2)) nn = ob at M1 ⊢
  have hb : ∀ s, ob = some s → s < 6 := fun s h => (oM_lt hA (hob.trans h)).1
  have fin : ∀ (S2 : rx_S) (m2 : Nat × Nat), g1F S S2 → MF z (p + 3) m2 S2 → m2 = mA (mA m (cfM S sd ob) (nmK ob) (p + 2)) (sameB oa ob) 3 (p + 2) → pk (tcE (nI (3 * sd + q)) (oV oa) (oV ob) S2) (fun _ S' => rdM sd S S' ∧ ((∃ f j, sqF z (p + 2) [2, 59] f j ∧ flt z f j S') ∨ (sqT z (p + 2) [2, 59] ∧ cpMm z p q sd (mA (mA m (cfM S sd ob) (nmK ob) (p + 2)) (sameB oa ob) 3 (p + 2)) oa ob S S'))) := by
    intro S2 m2 g2 M2 e
    refine pk_mono (tcE_ok (oa := oa) (ob := ob) hF M2 ((g2.2.1 19 (by decide) (by decide) (by decide) (by decide) (by decide)).trans h19) hs (by rw [g2.1 107 (by decide)]; exact h107) hq ha hb) (fun _ S' h => ⟨g2.rd.tr h.1, ?_⟩)
    rcases h.2 with ⟨f, k, t⟩ | ⟨k, c⟩
    · exact Or.inl ⟨f, p + 3, Or.inr ⟨k1, Or.inl ⟨k, rfl⟩⟩, t⟩
    · exact Or.inr ⟨⟨k1, k, trivial⟩, by rw [← e]; exact c.g g2⟩
  rw [if_pos M1.2.1]
  cases hx : ob with
  | none =>
    rw [if_pos (show oV none < 0 from by decide)]
    rw [hx] at fin M1
    refine fin S1 _ G1 M1 ?_
    have e1 : sameB oa none = false := by cases oa <;> rfl
    rw [e1, mA_f]
    rfl
  | some t =>
    have ht := hb t hx
    have ev : oV (some t) = nI t := rfl
    rw [hx] at fin M1
    have M1' : MF z (p + 2 + 1) m S1 := by
      have : mA m (some t).isNone 4 (p + 2) = m := mA_f
      rw [this] at M1
      exact M1
    rw [if_neg (show ¬ oV (some t) < 0 from nI_pos (by omega)), ev]
    have wr : MF z (p + 3) (mA m true 3 (p + 2)) S1 → True := fun _ => trivial
    have hw := wrong_ok (k := 3) (j := p + 2) hF M1'.2.1 M1'.2.2.2.1 hp2 M1'.2.2.2.2.1 (fun q => Or.inl (hS.2.2.2.2.2 q)) (by omega)
    obtain ⟨S2, b1, b2, b3, b4, b5⟩ := hw
    have M2 : MF z (p + 3) (mA m true 3 (p + 2)) S2 := ⟨b4.trans M1'.1, b5.trans M1'.2.1, M1'.2.2.1, b3.tk M1'.2.2.2.1, b2, mA_2 M1'.2.2.2.2.2 (by omega)⟩
    by_cases e : oV oa = nI t
    · rw [if_pos e, show (3 : Int32) = nI 3 from rfl, b1, bd_some]
      refine fin S2 _ (G1.tr b3) M2 ?_
      rw [(oV_same ha ht).mp e]
      exact (mA_tt (by decide)).symm
    · have es : sameB oa (some t) = false := Bool.eq_false_iff.mpr (fun q => e ((oV_same ha ht).mpr q))
      have e6 : (6 : Int32) * nI sd + nI t = nI (6 * sd + t) := by
        have : (6 : Int32) * nI sd = nI (6 * sd) := nI_mul 6 sd
        rw [this, nI_add]
      rw [if_neg e, (G1.2.1 19 (by decide) (by decide) (by decide) (by decide) (by decide)), h19, e6, pk_gdn (by omega) (by decide), nI_clamp (by omega), G1.1 106 (by decide)]
      by_cases c : S.1 106 (6 * sd + t) < 0
      · rw [if_pos c]
        refine fin S1 _ G1 M1' ?_
        have ec : cfM S sd (some t) = false := by
          show decide (¬ S.1 106 (6 * sd + t) < 0) = false
          exact decide_eq_false (fun q => q c)
        rw [es, ec, mA_f, mA_f]
      · rw [if_neg c, show (3 : Int32) = nI 3 from rfl, b1, bd_some]
        refine fin S2 _ (G1.tr b3) M2 ?_
        have ec : cfM S sd (some t) = true := by
          show decide (¬ S.1 106 (6 * sd + t) < 0) = true
          exact decide_eq_true c
        rw [es, ec, mA_f]
        rfl
theorem nAt.eq {S' : rx_S} (h : nAt S nn) (e : S'.1 103 = S.1 103) : nAt S' nn := fun k hk => by rw [e]; exact h k hk
theorem oM_eq {S' : rx_S} {x : Int64} (g : g1F S S') : oM S' x nn = oM S x nn := by
  have e : kqM S' x = kqM S x := by unfold kqM; rw [g.1 103 (by decide), g.2.2]
  unfold oM
  rw [e, g.1 103 (by decide)]
theorem cfM_eq {S' : rx_S} {o : Option Nat} (g : g1F S S') : cfM S' sd o = cfM S sd o := by
  unfold cfM
  rw [g.1 106 (by decide)]
theorem tCp (hN : 5000 ≤ N) (hF : tkF z) (hS : MF z (p + 1) m S) (h19 : S.1 94 19 = nI sd) (hs : sd < 2) (h107 : S.1 107 sd = nI q) (hq : q < 3) (h20 : S.1 94 20 = nI nn) (hnn : nn ≤ 10) (hA : nAt S nn) : pk (f_X11_tellCouple N S) (fun _ S' => rdM sd S S' ∧ ((∃ f j, sqF z (p + 1) [2, 2, 59] f j ∧ flt z f j S') ∨ (sqT z (p + 1) [2, 2, 59] ∧ cpMm z p q sd (cpM m p (oM S (S.2 100 (p + 1)) nn) (oM S (S.2 100 (p + 2)) nn) (cfM S sd (oM S (S.2 100 (p + 1)) nn)) (cfM S sd (oM S (S.2 100 (p + 2)) nn))) (oM S (S.2 100 (p + 1)) nn) (oM S (S.2 100 (p + 2)) nn) S S'))) := by
  have hp1 := hS.2.2.1
  have e3 : (3 : Int32) * nI sd + nI q = nI (3 * sd + q) := by
    have : (3 : Int32) * nI sd = nI (3 * sd) := nI_mul 3 sd
    rw [this, nI_add]
  rw [tellCouple_eq, h19, pk_gdn hs (by decide), pk_let, pk_let, nI_clamp (by omega), h107, e3, hS.1]
  refine pk_bdm (knSp hN hF hS h20 hnn hA) (fun r S1 g => ?_)
  obtain ⟨G1, g⟩ := g
  rcases g with ⟨f, k1, t1, rfl⟩ | ⟨k1, rfl, M1⟩
  · rw [if_neg t1.pos.2.1, tcB_f t1, pk_some]
    exact ⟨G1.rd, Or.inl ⟨f, p + 1, Or.inl ⟨k1, rfl⟩, t1⟩⟩
  generalize hoa : oM S (S.2 100 (p + 1)) nn = oa at M1 ⊢
  have ha : ∀ s, oa = some s → s < 6 := fun s h => (oM_lt hA (hoa.trans h)).1
  have fin : ∀ (S2 : rx_S) (m2 : Nat × Nat), g1F S S2 → MF z (p + 2) m2 S2 → m2 = mA m (cfM S sd oa) (nmK oa) (p + 1) → pk (tcB N (nI (3 * sd + q)) (oV oa) S2) (fun _ S' => rdM sd S S' ∧ ((∃ f j, sqF z (p + 1) [2, 2, 59] f j ∧ flt z f j S') ∨ (sqT z (p + 1) [2, 2, 59] ∧ cpMm z p q sd (cpM m p oa (oM S (S.2 100 (p + 2)) nn) (cfM S sd oa) (cfM S sd (oM S (S.2 100 (p + 2)) nn))) oa (oM S (S.2 100 (p + 2)) nn) S S'))) := by
    intro S2 m2 g2 M2 e
    refine pk_mono (tcB_ok (oa := oa) hN hF M2 ((g2.2.1 19 (by decide) (by decide) (by decide) (by decide) (by decide)).trans h19) hs (by rw [g2.1 107 (by decide)]; exact h107) hq ((g2.2.1 20 (by decide) (by decide) (by decide) (by decide) (by decide)).trans h20) hnn (hA.eq (g2.1 103 (by decide))) ha) (fun _ S' h => ⟨g2.rd.tr h.1, ?_⟩)
    rcases h.2 with ⟨f, j, k, t⟩ | ⟨k, c⟩
    · exact Or.inl ⟨f, j, Or.inr ⟨k1, k⟩, t⟩
    · refine Or.inr ⟨⟨k1, k⟩, ?_⟩
      have c2 := c.g g2
      rw [oM_eq g2, cfM_eq g2, g2.2.2, e] at c2
      exact c2
  rw [if_pos M1.2.1]
  cases hx : oa with
  | none =>
    rw [if_pos (show oV none < 0 from by decide)]
    rw [hx] at fin M1
    exact fin S1 _ G1 M1 rfl
  | some t =>
    have ht := ha t hx
    have ev : oV (some t) = nI t := rfl
    rw [hx] at fin M1
    have M1' : MF z (p + 1 + 1) m S1 := by
      have : mA m (some t).isNone 4 (p + 1) = m := mA_f
      rw [this] at M1
      exact M1
    have e6 : (6 : Int32) * nI sd + nI t = nI (6 * sd + t) := by
      have : (6 : Int32) * nI sd = nI (6 * sd) := nI_mul 6 sd
      rw [this, nI_add]
    rw [if_neg (show ¬ oV (some t) < 0 from nI_pos (by omega)), (G1.2.1 19 (by decide) (by decide) (by decide) (by decide) (by decide)), h19, ev, e6, pk_gdn (by omega) (by decide), nI_clamp (by omega), G1.1 106 (by decide)]
    by_cases c : S.1 106 (6 * sd + t) < 0
    · rw [if_pos c]
      refine fin S1 _ G1 M1' ?_
      have ec : cfM S sd (some t) = false := by
        show decide (¬ S.1 106 (6 * sd + t) < 0) = false
        exact decide_eq_false (fun q => q c)
      rw [ec, mA_f]
    · obtain ⟨S2, b1, b2, b3, b4, b5⟩ := wrong_ok (k := 3) (j := p + 1) hF M1'.2.1 M1'.2.2.2.1 hp1 M1'.2.2.2.2.1 (fun q => Or.inl (hS.2.2.2.2.2 q)) (by omega)
      rw [if_neg c, show (3 : Int32) = nI 3 from rfl, b1, bd_some]
      have M2 : MF z (p + 2) (mA m true 3 (p + 1)) S2 := ⟨b4.trans M1'.1, b5.trans M1'.2.1, M1'.2.2.1, b3.tk M1'.2.2.2.1, b2, mA_2 M1'.2.2.2.2.2 (by omega)⟩
      refine fin S2 _ (G1.tr b3) M2 ?_
      have ec : cfM S sd (some t) = true := by
        show decide (¬ S.1 106 (6 * sd + t) < 0) = true
        exact decide_eq_true c
      rw [ec]
      rfl
end FCP
