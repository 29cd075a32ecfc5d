/-! ===== READ 20: the reference's spouses, thirds, fines ===== -/
section FCN
variable {N : Nat} {S : rx_S} {z : tks} {p n nn sd : Nat} {m : Nat × Nat}
theorem MF.rows {S' : rx_S} (h : MF z p m S) (e : ∀ j, j = 11 ∨ j = 13 ∨ j = 15 ∨ j = 16 → S'.1 94 j = S.1 94 j) (er : ∀ r, 97 ≤ r → r ≤ 99 → S'.1 r = S.1 r) : MF z p m S' := by
  obtain ⟨h1, h2, h3, h4, h5, h6⟩ := h
  exact ⟨(e 11 (by omega)).trans h1, (e 13 (by omega)).trans h2, h3, h4.eq (er 97 (by omega) (by omega)) (er 98 (by omega) (by omega)) (er 99 (by omega) (by omega)), h5.eq (e 15 (by omega)) (e 16 (by omega)), h6⟩
theorem MF.uh {r j : Nat} {x : Int32} (h : MF z p m S) (hr : 103 ≤ r) : MF z p m (rx_ui S r j x) := h.rows (fun j _ => by rw [ui_row (by omega)]) (fun k _ _ => ui_row (by omega))
theorem flt.uh {f q r j : Nat} {x : Int32} (h : flt z f q S) (hr : 103 ≤ r) : flt z f q (rx_ui S r j x) := h.eq (by rw [ui_row (by omega)]) (by rw [ui_row (by omega)])
def spM (z : tks) (p n nn sd : Nat) (m : Nat × Nat) (S S' : rx_S) : Prop := sqT z (p + 1) [2, 3, 59] ∧ MF z (p + 4) (mA (mA m (ff (nmM S (S.2 100 (p + 1))) nn 0).isSome 3 (p + 1)) (decide (99 < kV z (p + 2))) 5 (p + 2)) S' ∧ S'.1 94 20 = nI (nn + 1) ∧ S'.1 105 = upd (S.1 105) (6 * sd + n) (nI (kV z (p + 2))) ∧ S'.1 106 = upd (S.1 106) (6 * sd + n) (-2) ∧ S'.1 104 = upd (S.1 104) sd (nI (n + 1)) ∧ S'.1 103 = upd (S.1 103) nn (nI n) ∧ S'.2 102 = vp_updL (S.2 102) nn (S.2 100 (p + 1)) ∧ (∀ r, r ≠ 94 → r ≠ 103 → r ≠ 104 → r ≠ 105 → r ≠ 106 → S'.1 r = S.1 r) ∧ (∀ j, j ≠ 11 → j ≠ 13 → j ≠ 14 → j ≠ 15 → j ≠ 16 → j ≠ 20 → S'.1 94 j = S.1 94 j) ∧ (∀ r, r ≠ 102 → S'.2 r = S.2 r)
theorem tSp (hN : 5000 ≤ N) (hF : tkF z) (hS : MF z (p + 1) m S) (h19 : S.1 94 19 = nI sd) (hs : sd < 2) (h104 : S.1 104 sd = nI n) (hn : n < 6) (h20 : S.1 94 20 = nI nn) (hnn : nn < 10) : pk (f_X11_tellSpouse N S) (fun _ S' => rdM sd S S' ∧ ((∃ f q, sqF z (p + 1) [2, 3, 59] f q ∧ flt z f q S') ∨ spM z p n nn sd m S S')) := by
  have hm := hF.2.1
  have e6 : (6 : Int32) * nI sd + nI n = nI (6 * sd + n) := by
    have : (6 : Int32) * nI sd = nI (6 * sd) := nI_mul 6 sd
    rw [this, nI_add]
  have hp := hS.2.2.1
  have g12 : ∀ (A : Option (Unit × rx_S)) (P : Unit → rx_S → Prop), pk (rx_gd (nI (6 * sd + n)) 12 A) P = pk A P := fun A P => pk_gdn (by omega) (by decide)
  unfold f_X11_tellSpouse
  rw [h19, pk_gdn hs (by decide), pk_let, nI_clamp (by omega), h104, e6]
  refine pk_bdm (nmd hN hF hS h20 (by omega)) (fun r S1 g => ?_)
  obtain ⟨rfl, G1, g⟩ := g
  have F105 : hsz 105 = 6 := rfl
  have F106 : hsz 106 = 6 := rfl
  have F104 : hsz 104 = 1 := rfl
  have tail : ∀ (f q : Nat) (S2 : rx_S) (x : Int32), flt z f q S2 → rdM sd S S2 → pk (rx_gd (nI (6 * sd + n)) 12 (rx_let (rx_ui S2 105 (Int32.toNatClampNeg (nI (6 * sd + n))) x) (fun S11 => rx_gd (nI (6 * sd + n)) 12 (rx_let (rx_ui S11 106 (Int32.toNatClampNeg (nI (6 * sd + n))) (-2)) (fun S13 => rx_gd (S13.1 94 19) 2 (rx_bd (f_X11_ends (nI (p + 1)) (S13.1 104 (Int32.toNatClampNeg (S13.1 94 19))) S13) (fun x16 S15 => if (S15.1 94 13) = 0 then (rx_gd (S15.1 94 19) 2 (rx_gd (S15.1 94 19) 2 (rx_let (rx_ui S15 104 (Int32.toNatClampNeg (S15.1 94 19)) ((S15.1 104 (Int32.toNatClampNeg (S15.1 94 19))) + 1)) (fun S21 => some ((), S21))))) else (some ((), S15)))))))) ) (fun _ S' => rdM sd S S' ∧ flt z f q S') := by
    intro f q S2 x h R
    have b19 : (rx_ui (rx_ui S2 105 (6 * sd + n) x) 106 (6 * sd + n) (-2)).1 94 19 = nI sd := by
      rw [ui_row (by decide), ui_row (by decide), R.2.1 19 (by decide) (by decide) (by decide) (by decide) (by decide) (by decide) (by decide) (by decide) (by decide) (by decide)]
      exact h19
    have h2 : flt z f q (rx_ui (rx_ui S2 105 (6 * sd + n) x) 106 (6 * sd + n) (-2)) := (h.uh (by decide)).uh (by decide)
    rw [g12, pk_let, nI_clamp (by omega), g12, pk_let, b19, pk_gdn hs (by decide), ends_f h2, bd_some, if_neg h2.pos.2.1, pk_some]
    exact ⟨(R.tr (rdM.uh (by decide) (by first | (rw [F105]; omega) | (rw [F106]; omega) | (rw [F104]; omega)))).tr (rdM.uh (by decide) (by first | (rw [F105]; omega) | (rw [F106]; omega) | (rw [F104]; omega))), h2⟩
  rcases g with ⟨f, k1, t1⟩ | ⟨k1, M1⟩
  · rw [show (99 : Int32) = nI 99 from rfl, bnd_f t1, bd_some]
    exact pk_mono (tail f (p + 1) S1 0 t1 G1.rd) (fun _ S' h => ⟨h.1, Or.inl ⟨f, p + 1, Or.inl ⟨k1, rfl⟩, h.2⟩⟩)
  rw [show (99 : Int32) = nI 99 from rfl]
  refine pk_bdm (mBnd (h := 99) hF M1 (by decide)) (fun r S2 g => ?_)
  obtain ⟨G2, g⟩ := g
  have G12 := G1.tr G2
  rcases g with ⟨f, k2, t2⟩ | ⟨k2, rfl, M2⟩
  · exact pk_mono (tail f (p + 2) S2 r t2 G12.rd) (fun _ S' h => ⟨h.1, Or.inl ⟨f, p + 2, Or.inr ⟨k1, Or.inl ⟨k2, rfl⟩⟩, h.2⟩⟩)
  have M3 := (M2.uh (r := 105) (j := 6 * sd + n) (x := nI (kV z (p + 1 + 1))) (by decide)).uh (r := 106) (j := 6 * sd + n) (x := -2) (by decide)
  have R3 : rdM sd S (rx_ui (rx_ui S2 105 (6 * sd + n) (nI (kV z (p + 1 + 1)))) 106 (6 * sd + n) (-2)) := (G12.rd.tr (rdM.uh (by decide) (by first | (rw [F105]; omega) | (rw [F106]; omega) | (rw [F104]; omega)))).tr (rdM.uh (by decide) (by first | (rw [F105]; omega) | (rw [F106]; omega) | (rw [F104]; omega)))
  have j94 : ∀ j, (rx_ui (rx_ui S2 105 (6 * sd + n) (nI (kV z (p + 1 + 1)))) 106 (6 * sd + n) (-2)).1 94 j = S2.1 94 j := fun j => by rw [ui_row (by decide), ui_row (by decide)]
  have b19 : (rx_ui (rx_ui S2 105 (6 * sd + n) (nI (kV z (p + 1 + 1)))) 106 (6 * sd + n) (-2)).1 94 19 = nI sd := by
    rw [j94, G12.2.1 19 (by decide) (by decide) (by decide) (by decide) (by decide)]
    exact h19
  have b104 : (rx_ui (rx_ui S2 105 (6 * sd + n) (nI (kV z (p + 1 + 1)))) 106 (6 * sd + n) (-2)).1 104 sd = nI n := by
    rw [ui_row (by decide), ui_row (by decide), G12.1 104 (by decide)]
    exact h104
  have b20 : (rx_ui (rx_ui S2 105 (6 * sd + n) (nI (kV z (p + 1 + 1)))) 106 (6 * sd + n) (-2)).1 94 20 = nI nn := by
    rw [j94, G12.2.1 20 (by decide) (by decide) (by decide) (by decide) (by decide)]
    exact h20
  rw [g12, pk_let, nI_clamp (by omega), g12, pk_let, b19, pk_gdn hs (by decide), nI_clamp (by omega), b104]
  refine pk_bdm (ends_ok (j := p + 1) (x := nI n) hF M3 b20 hnn (by omega)) (fun _ S4 g => ?_)
  rcases g with ⟨f, k3, t3, G4⟩ | ⟨k3, M4, a1, a2, a3, a4, a5, a6⟩
  · rw [if_neg t3.pos.2.1, pk_some]
    exact ⟨R3.tr G4.rd, Or.inl ⟨f, p + 3, Or.inr ⟨k1, Or.inr ⟨k2, Or.inl ⟨k3, rfl⟩⟩⟩, t3⟩⟩
  have c19 : S4.1 94 19 = nI sd := (a5 19 (by decide) (by decide)).trans b19
  have c104 : S4.1 104 sd = nI n := by rw [a4 104 (by decide) (by decide)]; exact b104
  rw [if_pos M4.2.1, c19, pk_gdn hs (by decide), pk_gdn hs (by decide), pk_let, nI_clamp (by omega), c104, nI_1, pk_some]
  have R4 : rdM sd (rx_ui (rx_ui S2 105 (6 * sd + n) (nI (kV z (p + 1 + 1)))) 106 (6 * sd + n) (-2)) S4 := ⟨fun k q1 q2 _ => a4 k q1 q2, fun j q1 _ _ _ _ _ q7 _ _ _ => a5 j q1 q7, fun k j q1 q2 _ => by rw [a4 k (by omega) (by omega)], fun k q1 => a6 k q1⟩
  refine ⟨(R3.tr R4).tr (rdM.uh (by decide) (by first | (rw [F105]; omega) | (rw [F106]; omega) | (rw [F104]; omega))), Or.inr ⟨⟨k1, k2, k3, trivial⟩, M4.uh (by decide), ?_, ?_, ?_, ?_, ?_, ?_, fun r q1 q2 q3 q4 q5 => ?_, fun j q1 q2 q3 q4 q5 q6 => ?_, fun r q1 => ?_⟩⟩
  · rw [ui_row (by decide)]; exact a1
  · rw [ui_row (by decide), a4 105 (by decide) (by decide), ui_row (by decide), ui_same, G12.1 105 (by decide)]
  · rw [ui_row (by decide), a4 106 (by decide) (by decide), ui_same, ui_row (by decide), G12.1 106 (by decide)]
  · rw [ui_same, a4 104 (by decide) (by decide), ui_row (by decide), ui_row (by decide), G12.1 104 (by decide)]
  · rw [ui_row (by decide), a2, ui_row (by decide), ui_row (by decide), G12.1 103 (by decide)]
  · show S4.2 102 = _
    rw [a3]
    show vp_updL (S2.2 102) nn (S2.2 100 (p + 1)) = _
    rw [G12.2.2]
  · rw [ui_row q3, a4 r q1 q2, ui_row q5, ui_row q4, G12.1 r q1]
  · rw [ui_row (by decide), a5 j q1 q6, j94, G12.2.1 j q1 q2 q3 q4 q5]
  · show S4.2 r = _
    rw [a6 r q1]
    show S2.2 r = _
    rw [G12.2.2]
def thM (z : tks) (p n nn sd : Nat) (m : Nat × Nat) (S S' : rx_S) : Prop := sqT z (p + 1) [2, 3, 3, 59] ∧ MF z (p + 5) (mA (mA (mA m (ff (nmM S (S.2 100 (p + 1))) nn 0).isSome 3 (p + 1)) (decide (9 < kV z (p + 2))) 5 (p + 2)) (decide (99 < kV z (p + 3))) 5 (p + 3)) S' ∧ S'.1 94 20 = nI (nn + 1) ∧ S'.1 110 = upd (S.1 110) (4 * sd + n) (nI (kV z (p + 2))) ∧ S'.1 111 = upd (S.1 111) (4 * sd + n) (nI (kV z (p + 3))) ∧ S'.1 109 = upd (S.1 109) sd (nI (n + 1)) ∧ S'.1 103 = upd (S.1 103) nn (-1) ∧ S'.2 102 = vp_updL (S.2 102) nn (S.2 100 (p + 1)) ∧ (∀ r, r ≠ 94 → r ≠ 103 → r ≠ 109 → r ≠ 110 → r ≠ 111 → S'.1 r = S.1 r) ∧ (∀ j, j ≠ 11 → j ≠ 13 → j ≠ 14 → j ≠ 15 → j ≠ 16 → j ≠ 20 → S'.1 94 j = S.1 94 j) ∧ (∀ r, r ≠ 102 → S'.2 r = S.2 r)
theorem tTh (hN : 5000 ≤ N) (hF : tkF z) (hS : MF z (p + 1) m S) (h19 : S.1 94 19 = nI sd) (hs : sd < 2) (h109 : S.1 109 sd = nI n) (hn : n < 4) (h20 : S.1 94 20 = nI nn) (hnn : nn < 10) : pk (f_X11_tellThird N S) (fun _ S' => rdM sd S S' ∧ ((∃ f q, sqF z (p + 1) [2, 3, 3, 59] f q ∧ flt z f q S') ∨ thM z p n nn sd m S S')) := by
  have hm := hF.2.1
  have e4 : (4 : Int32) * nI sd + nI n = nI (4 * sd + n) := by
    have : (4 : Int32) * nI sd = nI (4 * sd) := nI_mul 4 sd
    rw [this, nI_add]
  have hp := hS.2.2.1
  have g8 : ∀ (A : Option (Unit × rx_S)) (P : Unit → rx_S → Prop), pk (rx_gd (nI (4 * sd + n)) 8 A) P = pk A P := fun A P => pk_gdn (by omega) (by decide)
  have F110 : hsz 110 = 4 := rfl
  have F111 : hsz 111 = 4 := rfl
  have F109 : hsz 109 = 1 := rfl
  unfold f_X11_tellThird
  rw [h19, pk_gdn hs (by decide), pk_let, nI_clamp (by omega), h109, e4]
  refine pk_bdm (nmd hN hF hS h20 (by omega)) (fun r S1 g => ?_)
  obtain ⟨rfl, G1, g⟩ := g
  have tail2 : ∀ (f q : Nat) (S2 : rx_S) (x : Int32), flt z f q S2 → rdM sd S S2 → pk (rx_gd (nI (4 * sd + n)) 8 (rx_let (rx_ui S2 111 (Int32.toNatClampNeg (nI (4 * sd + n))) x) (fun S16 => rx_bd (f_X11_ends (nI (p + 1)) (-1) S16) (fun x18 S17 => if (S17.1 94 13) = 0 then (rx_gd (S17.1 94 19) 2 (rx_gd (S17.1 94 19) 2 (rx_let (rx_ui S17 109 (Int32.toNatClampNeg (S17.1 94 19)) ((S17.1 109 (Int32.toNatClampNeg (S17.1 94 19))) + 1)) (fun S23 => some ((), S23))))) else (some ((), S17)))))) (fun _ S' => rdM sd S S' ∧ flt z f q S') := by
    intro f q S2 x h R
    have h2 : flt z f q (rx_ui S2 111 (4 * sd + n) x) := h.uh (by decide)
    rw [g8, pk_let, nI_clamp (by omega), ends_f h2, bd_some, if_neg h2.pos.2.1, pk_some]
    exact ⟨R.tr (rdM.uh (by decide) (by first | (rw [F110]; omega) | (rw [F111]; omega) | (rw [F109]; omega))), h2⟩
  have tail : ∀ (f q : Nat) (S2 : rx_S) (x : Int32), flt z f q S2 → rdM sd S S2 → pk (rx_gd (nI (4 * sd + n)) 8 (rx_let (rx_ui S2 110 (Int32.toNatClampNeg (nI (4 * sd + n))) x) (fun S11 => rx_bd (f_X11_bounded 0 99 S11) (fun x13 S12 => rx_gd (nI (4 * sd + n)) 8 (rx_let (rx_ui S12 111 (Int32.toNatClampNeg (nI (4 * sd + n))) x13) (fun S16 => rx_bd (f_X11_ends (nI (p + 1)) (-1) S16) (fun x18 S17 => if (S17.1 94 13) = 0 then (rx_gd (S17.1 94 19) 2 (rx_gd (S17.1 94 19) 2 (rx_let (rx_ui S17 109 (Int32.toNatClampNeg (S17.1 94 19)) ((S17.1 109 (Int32.toNatClampNeg (S17.1 94 19))) + 1)) (fun S23 => some ((), S23))))) else (some ((), S17))))))))) (fun _ S' => rdM sd S S' ∧ flt z f q S') := by
    intro f q S2 x h R
    have h2 : flt z f q (rx_ui S2 110 (4 * sd + n) x) := h.uh (by decide)
    rw [g8, pk_let, nI_clamp (by omega), bnd_f h2, bd_some]
    have := tail2 f q (rx_ui S2 110 (4 * sd + n) x) 0 h2 (R.tr (rdM.uh (by decide) (by first | (rw [F110]; omega) | (rw [F111]; omega) | (rw [F109]; omega))))
    rw [nI_clamp (by omega)] at this
    exact this
  rcases g with ⟨f, k1, t1⟩ | ⟨k1, M1⟩
  · rw [show (9 : Int32) = nI 9 from rfl, bnd_f t1, bd_some]
    exact pk_mono (tail f (p + 1) S1 0 t1 G1.rd) (fun _ S' h => ⟨h.1, Or.inl ⟨f, p + 1, Or.inl ⟨k1, rfl⟩, h.2⟩⟩)
  rw [show (9 : Int32) = nI 9 from rfl]
  refine pk_bdm (mBnd (h := 9) hF M1 (by decide)) (fun r S2 g => ?_)
  obtain ⟨G2, g⟩ := g
  have G12 := G1.tr G2
  rcases g with ⟨f, k2, t2⟩ | ⟨k2, rfl, M2⟩
  · exact pk_mono (tail f (p + 2) S2 r t2 G12.rd) (fun _ S' h => ⟨h.1, Or.inl ⟨f, p + 2, Or.inr ⟨k1, Or.inl ⟨k2, rfl⟩⟩, h.2⟩⟩)
  have M3 := M2.uh (r := 110) (j := 4 * sd + n) (x := nI (kV z (p + 1 + 1))) (by decide)
  have R3 : rdM sd S (rx_ui S2 110 (4 * sd + n) (nI (kV z (p + 1 + 1)))) := G12.rd.tr (rdM.uh (by decide) (by first | (rw [F110]; omega) | (rw [F111]; omega) | (rw [F109]; omega)))
  rw [g8, pk_let, nI_clamp (by omega), show (99 : Int32) = nI 99 from rfl]
  refine pk_bdm (mBnd (h := 99) hF M3 (by decide)) (fun r S3 g => ?_)
  obtain ⟨G3, g⟩ := g
  have tail3 := tail2
  rw [nI_clamp (by omega)] at tail3
  rcases g with ⟨f, k3, t3⟩ | ⟨k3, rfl, M4⟩
  · exact pk_mono (tail3 f (p + 3) S3 r t3 (R3.tr G3.rd)) (fun _ S' h => ⟨h.1, Or.inl ⟨f, p + 3, Or.inr ⟨k1, Or.inr ⟨k2, Or.inl ⟨k3, rfl⟩⟩⟩, h.2⟩⟩)
  have M5 := M4.uh (r := 111) (j := 4 * sd + n) (x := nI (kV z (p + 1 + 1 + 1))) (by decide)
  have R5 : rdM sd S (rx_ui S3 111 (4 * sd + n) (nI (kV z (p + 1 + 1 + 1)))) := (R3.tr G3.rd).tr (rdM.uh (by decide) (by first | (rw [F110]; omega) | (rw [F111]; omega) | (rw [F109]; omega)))
  have j94 : ∀ j, j ≠ 11 → j ≠ 13 → j ≠ 14 → j ≠ 15 → j ≠ 16 → (rx_ui S3 111 (4 * sd + n) (nI (kV z (p + 1 + 1 + 1)))).1 94 j = S.1 94 j := fun j q1 q2 q3 q4 q5 => by rw [ui_row (by decide), G3.2.1 j q1 q2 q3 q4 q5, ui_row (by decide), G12.2.1 j q1 q2 q3 q4 q5]
  have rw5 : ∀ r, r ≠ 94 → r ≠ 110 → r ≠ 111 → (rx_ui S3 111 (4 * sd + n) (nI (kV z (p + 1 + 1 + 1)))).1 r = S.1 r := fun r q1 q2 q3 => by rw [ui_row q3, G3.1 r q1, ui_row q2, G12.1 r q1]
  rw [g8, pk_let]
  refine pk_bdm (ends_ok (j := p + 1) (x := -1) hF M5 ((j94 20 (by decide) (by decide) (by decide) (by decide) (by decide)).trans h20) hnn (by omega)) (fun _ S4 g => ?_)
  rcases g with ⟨f, k4, t4, G4⟩ | ⟨k4, M6, a1, a2, a3, a4, a5, a6⟩
  · rw [if_neg t4.pos.2.1, pk_some]
    exact ⟨R5.tr G4.rd, Or.inl ⟨f, p + 4, Or.inr ⟨k1, Or.inr ⟨k2, Or.inr ⟨k3, Or.inl ⟨k4, rfl⟩⟩⟩⟩, t4⟩⟩
  have c19 : S4.1 94 19 = nI sd := (a5 19 (by decide) (by decide)).trans ((j94 19 (by decide) (by decide) (by decide) (by decide) (by decide)).trans h19)
  have c109 : S4.1 109 sd = nI n := by rw [a4 109 (by decide) (by decide), rw5 109 (by decide) (by decide) (by decide)]; exact h109
  rw [if_pos M6.2.1, c19, pk_gdn hs (by decide), pk_gdn hs (by decide), pk_let, nI_clamp (by omega), c109, nI_1, pk_some]
  have R6 : rdM sd (rx_ui S3 111 (4 * sd + n) (nI (kV z (p + 1 + 1 + 1)))) S4 := ⟨fun k q1 q2 _ => a4 k q1 q2, fun j q1 _ _ _ _ _ q7 _ _ _ => a5 j q1 q7, fun k j q1 q2 _ => by rw [a4 k (by omega) (by omega)], fun k q1 => a6 k q1⟩
  refine ⟨(R5.tr R6).tr (rdM.uh (by decide) (by first | (rw [F110]; omega) | (rw [F111]; omega) | (rw [F109]; omega))), Or.inr ⟨⟨k1, k2, k3, k4, trivial⟩, M6.uh (by decide), ?_, ?_, ?_, ?_, ?_, ?_, fun r q1 q2 q3 q4 q5 => ?_, fun j q1 q2 q3 q4 q5 q6 => ?_, fun r q1 => ?_⟩⟩
  · rw [ui_row (by decide)]; exact a1
  · rw [ui_row (by decide), a4 110 (by decide) (by decide), ui_row (by decide), G3.1 110 (by decide), ui_same, G12.1 110 (by decide)]
  · rw [ui_row (by decide), a4 111 (by decide) (by decide), ui_same, G3.1 111 (by decide), ui_row (by decide), G12.1 111 (by decide)]
  · rw [ui_same, a4 109 (by decide) (by decide), rw5 109 (by decide) (by decide) (by decide)]
  · rw [ui_row (by decide), a2, rw5 103 (by decide) (by decide) (by decide)]
  · show S4.2 102 = _
    rw [a3]
    show vp_updL (S3.2 102) nn (S3.2 100 (p + 1)) = _
    rw [G3.2.2]
    show vp_updL (S2.2 102) nn (S2.2 100 (p + 1)) = _
    rw [G12.2.2]
  · rw [ui_row q3, a4 r q1 q2, rw5 r q1 q4 q5]
  · rw [ui_row (by decide), a5 j q1 q6, j94 j q1 q2 q3 q4 q5]
  · show S4.2 r = _
    rw [a6 r q1]
    show S3.2 r = _
    rw [G3.2.2]
    show S2.2 r = _
    rw [G12.2.2]
def nmMf (z : tks) (p h r sd : Nat) (m : Nat × Nat) (S S' : rx_S) : Prop := sqT z (p + 1) [3, 59] ∧ MF z (p + 3) (mA m (decide (h < kV z (p + 1))) 5 (p + 1)) S' ∧ S'.1 r = upd (S.1 r) sd (nI (kV z (p + 1))) ∧ (∀ k, k ≠ 94 → k ≠ r → S'.1 k = S.1 k) ∧ (∀ j, j ≠ 11 → j ≠ 13 → j ≠ 14 → j ≠ 15 → j ≠ 16 → S'.1 94 j = S.1 94 j) ∧ S'.2 = S.2
theorem tNm {h r : Nat} {y : Int32} (hF : tkF z) (hS : MF z (p + 1) m S) (h19 : S.1 94 19 = nI sd) (hs : sd < 2) (hr : r = 112 ∨ r = 113) (hh : h < 10000) (hy : y = nI h) : pk (rx_bd (f_X11_bounded 0 y S) (fun x62 S61 => rx_gd (S.1 94 19) 2 (rx_let (rx_ui S61 r (Int32.toNatClampNeg (S.1 94 19)) x62) (fun S65 => rx_bd (f_X11_must 4 S65) (fun x67 S66 => some ((), S66)))))) (fun _ S' => rdM sd S S' ∧ ((∃ f q, sqF z (p + 1) [3, 59] f q ∧ flt z f q S') ∨ nmMf z p h r sd m S S')) := by
  have Fr : hsz r = 1 := by rcases hr with rfl | rfl <;> rfl
  rw [hy]
  refine pk_bdm (mBnd hF hS hh) (fun x S1 g => ?_)
  obtain ⟨G1, g⟩ := g
  rw [h19, pk_gdn hs (by decide), pk_let, nI_clamp (by omega)]
  rcases g with ⟨f, k1, t1⟩ | ⟨k1, rfl, M1⟩
  · have t2 : flt z f (p + 1) (rx_ui S1 r sd x) := t1.uh (by omega)
    rw [must_f t2, bd_some, pk_some]
    exact ⟨G1.rd.tr (rdM.uh (by omega) (by rw [Fr]; omega)), Or.inl ⟨f, p + 1, Or.inl ⟨k1, rfl⟩, t2⟩⟩
  have M2 := M1.uh (r := r) (j := sd) (x := nI (kV z (p + 1))) (by omega)
  have R2 : rdM sd S (rx_ui S1 r sd (nI (kV z (p + 1)))) := G1.rd.tr (rdM.uh (by omega) (by rw [Fr]; omega))
  rcases tk_cases z (p + 2) 59 with k2 | ⟨f, k2⟩
  · obtain ⟨t1, t2⟩ := mst hF M2 59 rfl (by decide) (x := 4) rfl k2
    rw [t1, bd_some, pk_some]
    refine ⟨R2.tr (rdM.u94 (by omega)), Or.inr ⟨⟨k1, k2, trivial⟩, t2, ?_, fun k q1 q2 => ?_, fun j q1 q2 q3 q4 q5 => ?_, ?_⟩⟩
    · rw [ui_row (by omega), ui_same, G1.1 r (by omega)]
    · rw [ui_row q1, ui_row q2, G1.1 k q1]
    · rw [ui_get, if_pos rfl, if_neg q1, ui_row (by omega), G1.2.1 j q1 q2 q3 q4 q5]
    · show S1.2 = _
      exact G1.2.2
  · obtain ⟨t1, t2⟩ := msn hF M2 59 rfl (x := 4) rfl k2
    rw [t1, bd_some, pk_some]
    exact ⟨R2.tr g1F.fl.rd, Or.inl ⟨f, p + 2, Or.inr ⟨k1, Or.inl ⟨k2, rfl⟩⟩, t2⟩⟩
end FCN
