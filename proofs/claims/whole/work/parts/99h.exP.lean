/-! ===== READ 8: the reference's expressions, piece by piece ===== -/
section EXP
variable {N : Nat} {S : rx_S} {z : tks} {p B d c : Nat} {s : List Nat}
theorem var_kM : ∀ k, k < 152 → 143 ≤ k → ¬ nI (kM k) < 35 ∧ ¬ (43 : Int32) < nI (kM k) ∧ nI (kM k) - 35 = nI (k - 143) := by decide +kernel
theorem bad_kM : ∀ k, k < 152 → okK k = true → ¬ (143 ≤ k ∧ k < 152) → nI (kM k) < 35 := by decide +kernel
def isU (z : tks) (p : Nat) (i : It) : Prop := (kK z p = 3 ∧ i = (0, kV z p)) ∨ (143 ≤ kK z p ∧ kK z p < 152 ∧ i = (1, kK z p - 143))
theorem isU.lf {i : It} (hF : tkF z) (hp : p < kN z) (h : isU z p i) : tLf i := by
  rcases h with ⟨h1, rfl⟩ | ⟨h1, h2, rfl⟩
  · exact Or.inl ⟨rfl, hF.2.2.2.2.1 p hp h1⟩
  · exact Or.inr ⟨rfl, show kK z p - 143 < 9 by omega⟩
theorem unit_u {i : It} (hF : tkF z) (hS : XS z B d p c s S) (hu : isU z p i) : f_X11_unit S = rx_bd (f_X11_goesOn (emS S c (nI i.1) (nI i.2))) (fun _ S' => some ((), S')) := by
  obtain ⟨h1, h2, h3, h4, h5, h6, ⟨w1, w2, w3, w4, w5, w6⟩⟩ := hS
  have hm := hF.2.1
  have hc : c < 840 := by omega
  have gp : ∀ {β : Type} (A : Option β), rx_gd (nI p) 403 A = A := fun A => rx_gd_in (vp_in_nI (by omega) (by decide))
  unfold f_X11_unit
  rw [is_ok h3 h1 hF h6 h4 3 rfl (x := 2) rfl, bd_some]
  rcases hu with ⟨k1, rfl⟩ | ⟨k1, k2, rfl⟩
  · rw [if_pos k1, if_neg (by decide), h1, gp, nI_clamp (by omega), (h6 p h4).2.2 k1, show (0 : Int32) = nI 0 from rfl, emit_ok w3 hc, bd_some]
  · obtain ⟨v1, v2, v3⟩ := var_kM _ k2 k1
    rw [if_neg (show ¬ kK z p = 3 by omega), if_pos rfl]
    simp only [rx_let]
    rw [if_pos h3, h1, gp, nI_clamp (by omega), (h6 p h4).1, if_neg v1, gp, if_neg v2, gp, v3, show (1 : Int32) = nI 1 from rfl, emit_ok w3 hc, bd_some]
theorem unit_b (hF : tkF z) (hS : XS z B d p c s S) (hk : ¬ kK z p = 3) (hk2 : ¬ (143 ≤ kK z p ∧ kK z p < 152)) : f_X11_unit S = some ((), flS S 1 (nI (kP z p))) := by
  obtain ⟨h1, h2, h3, h4, h5, h6, h7⟩ := hS
  have hm := hF.2.1
  have ho := hF.2.2.1 p h4
  unfold f_X11_unit
  rw [is_ok h3 h1 hF h6 h4 3 rfl (x := 2) rfl, bd_some, if_neg hk, if_pos rfl]
  simp only [rx_let]
  rw [if_pos h3, fail_ok h3 h1 hF h6 h4, h1, rx_gd_in (vp_in_nI (show p < 403 by omega) (by decide)), nI_clamp (by omega), (h6 p h4).1, if_pos (bad_kM _ (okK_lt ho) ho hk2), bd_some]
theorem emS_XS {x y : Int32} (hS : XS z B d p c s S) (hF : tkF z) (hp : p < 400) (hp1 : p + 1 < kN z) : XS z B d (p + 1) (c + 1) s (rx_ui (emS S c x y) 94 11 (nI (p + 1))) := by
  obtain ⟨h1, h2, h3, h4, h5, h6, ⟨w1, w2, w3, w4, w5, w6⟩⟩ := hS
  have F := emS_F (S := S) (B := B) (c := c) (x := x) (y := y) (by omega)
  obtain ⟨a1, a2, a3, a4⟩ := emS_at (S := S) (c := c) (x := x) (y := y)
  have e : ∀ j, j ≠ 11 → (rx_ui (emS S c x y) 94 11 (nI (p + 1))).1 94 j = (emS S c x y).1 94 j := fun j hj => by rw [ui_get, if_pos rfl, if_neg hj]
  have e45 : (emS S c x y).1 94 45 = S.1 94 45 := by
    unfold emS
    rw [ui_get, if_pos rfl, if_neg (by decide), ui_row (by decide), ui_row (by decide)]
  refine ⟨by rw [ui_get, if_pos rfl, if_pos rfl], (e 12 (by decide)).trans ((F.2.1 12 (by decide) (by decide)).trans h2), (e 13 (by decide)).trans ((F.2.1 13 (by decide) (by decide)).trans h3), hp1, by omega, h6.eq ?_ ?_ ?_, ⟨(e 45 (by decide)).trans (e45.trans w1), wst_eq _ w2 (fun j _ => by rw [ui_row (by decide), a4]), (e 41 (by decide)).trans a3, by omega, w5, w6⟩⟩
  · rw [ui_row (by decide)]; exact F.1 97 (by decide) (by decide) (by decide)
  · rw [ui_row (by decide)]; exact F.1 98 (by decide) (by decide) (by decide)
  · rw [ui_row (by decide)]; exact F.1 99 (by decide) (by decide) (by decide)
theorem OM_u {n mm : Nat} (hF : tkF z) (hS : XS z B d p c s S) (hk : ¬ kK z p = 40) : OM N n (mm + 1) S = exK N n (nI 0) S := by
  obtain ⟨h1, h2, h3, h4, h5, h6, h7⟩ := hS
  unfold OM
  rw [f_X11_expression_L23, is_ok h3 h1 hF h6 h4 40 rfl (x := 6) rfl, bd_some, if_neg hk, if_pos rfl]
theorem RX_leaf {i : It} (hF : tkF z) (hp : p < 400) (hm : p < kN z) (hu : isU z p i) : RX z B 0 d p (p + 1) [i] := by
  have hp1 : p + 1 < kN z := by
    refine hF.2.2.2.1 p hm ?_ ?_ hp
    · rcases hu with ⟨h, _⟩ | ⟨h, _, _⟩ <;> omega
    · rcases hu with ⟨h, _⟩ | ⟨h, _, _⟩ <;> omega
  refine ⟨⟨by omega, hp1⟩, fun N n mm c s S Q hN hS hd hs hn hmm hB k => ?_⟩
  obtain ⟨mm, rfl⟩ : ∃ q, mm = q + 1 := ⟨mm - 1, by omega⟩
  have F := emS_F (S := S) (B := B) (c := c) (x := nI i.1) (y := nI i.2) (by have := hS.2.2.2.2.1; omega)
  obtain ⟨a1, a2, a3, a4⟩ := emS_at (S := S) (c := c) (x := nI i.1) (y := nI i.2)
  have hX := emS_XS (x := nI i.1) (y := nI i.2) hS hF hp hp1
  have f13 := hX.2.2.1
  rw [OM_u hF hS (by rcases hu with ⟨h, _⟩ | ⟨h, _, _⟩ <;> omega)]
  unfold exK
  rw [unit_u hF hS hu, goesOn_n ((F.2.1 11 (by decide) (by decide)).trans hS.1) hp, bd_some, bd_some, if_pos (by rw [f13]; decide)]
  refine k n N _ [] [i] (by show [i] = [i] ++ []; rfl) ⟨by decide, (fun x hx => by cases hx)⟩ (by omega) (by omega) hX ?_ (F.e.tr (eM.ui (by omega)) (Nat.le_refl c))
  exact ⟨by rw [ui_row (by decide)]; exact a1, by rw [ui_row (by decide)]; exact a2, trivial⟩
theorem RF_leaf {i : It} (hF : tkF z) (hp : ¬ p < 400) (hm : p < kN z) (hu : isU z p i) : RF z B 0 d p 2 p := by
  intro N n mm c s S hN hS hd hs hn hmm hB
  obtain ⟨mm, rfl⟩ : ∃ q, mm = q + 1 := ⟨mm - 1, by omega⟩
  have F := emS_F (S := S) (B := B) (c := c) (x := nI i.1) (y := nI i.2) (by have := hS.2.2.2.2.1; have := hF.2.1; omega)
  have fl2 := flS_flt (S := emS S c (nI i.1) (nI i.2)) (f := 2) (x := 2) (Or.inr rfl) rfl hm
  rw [OM_u hF hS (by rcases hu with ⟨h, _⟩ | ⟨h, _, _⟩ <;> omega)]
  unfold exK
  rw [unit_u hF hS hu, goesOn_2 ((F.2.1 13 (by decide) (by decide)).trans hS.2.2.1) ((F.2.1 11 (by decide) (by decide)).trans hS.1) hF (hS.2.2.2.2.2.1.eq (F.1 97 (by decide) (by decide) (by decide)) (F.1 98 (by decide) (by decide) (by decide)) (F.1 99 (by decide) (by decide) (by decide))) hm hp, bd_some, bd_some, if_neg fl2.pos.1, pk_some]
  exact ⟨fl2, F.e.tr eM.fl (Nat.le_refl c)⟩
theorem RF_bad (hF : tkF z) (hm : p < kN z) (h1 : ¬ kK z p = 40) (h2 : ¬ kK z p = 3) (h3 : ¬ (143 ≤ kK z p ∧ kK z p < 152)) : RF z B 0 d p 1 p := by
  intro N n mm c s S hN hS hd hs hn hmm hB
  obtain ⟨mm, rfl⟩ : ∃ q, mm = q + 1 := ⟨mm - 1, by omega⟩
  have fl2 := flS_flt (S := S) (f := 1) (x := 1) (Or.inl rfl) rfl hm
  rw [OM_u hF hS h1]
  unfold exK
  rw [unit_b hF hS h2 h3, bd_some, if_neg fl2.pos.1, pk_some]
  exact ⟨fl2, eM.fl⟩
/-- an opening parenthesis -/
def opS (S : rx_S) (x12 : Int32) (l : Nat) (S1 : rx_S) : rx_S := rx_ui (rx_ui S1 123 l 6) 94 45 (nI (l + 1))
theorem OM_o {n mm : Nat} (hF : tkF z) (hS : XS z B d p c s S) (hk : kK z p = 40) (hd : d < 6) (hp : p < 400) (hp1 : p + 1 < kN z) (hl : s.length < 60) : ∃ S1, OM N n (mm + 1) S = OM N n mm S1 ∧ XS z B (d + 1) (p + 1) c (6 :: s) S1 ∧ eM B c S S1 := by
  obtain ⟨h1, h2, h3, h4, h5, h6, ⟨w1, w2, w3, w4, w5, w6⟩⟩ := hS
  have a11 : (rx_ui S 94 12 (nI (d + 1))).1 94 11 = nI p := by rw [ui_get, if_pos rfl, if_neg (by decide)]; exact h1
  have a45 : (rx_ui (rx_ui S 94 12 (nI (d + 1))) 94 11 (nI (p + 1))).1 94 45 = nI s.length := by
    rw [ui_get, if_pos rfl, if_neg (by decide), ui_get, if_pos rfl, if_neg (by decide)]
    exact w1
  have b45 : (rx_ui (rx_ui (rx_ui S 94 12 (nI (d + 1))) 94 11 (nI (p + 1))) 123 s.length 6).1 94 45 = nI s.length := by
    rw [ui_row (by decide)]
    exact a45
  refine ⟨rx_ui (rx_ui (rx_ui (rx_ui S 94 12 (nI (d + 1))) 94 11 (nI (p + 1))) 123 s.length 6) 94 45 (nI (s.length + 1)), ?_, ?_, ?_⟩
  · unfold OM
    rw [f_X11_expression_L23, is_ok h3 h1 hF h6 h4 40 rfl (x := 6) rfl, bd_some, if_pos hk, if_neg (by decide)]
    simp only [rx_let]
    rw [h2, if_neg (fun e => by rw [show (6 : Int32) = nI 6 from rfl, nI_eq (by omega) (by decide)] at e; omega), nI_1, goesOn_n a11 hp, bd_some, a45, rx_gd_in (vp_in_nI (show s.length < 64 by omega) (by decide)), nI_clamp (by omega), b45, nI_1]
  · have e : ∀ j, j ≠ 11 → j ≠ 12 → j ≠ 45 → (rx_ui (rx_ui (rx_ui (rx_ui S 94 12 (nI (d + 1))) 94 11 (nI (p + 1))) 123 s.length 6) 94 45 (nI (s.length + 1))).1 94 j = S.1 94 j := fun j q1 q2 q3 => by rw [ui_get, if_pos rfl, if_neg q3, ui_row (by decide), ui_get, if_pos rfl, if_neg q1, ui_get, if_pos rfl, if_neg q2]
    have er : ∀ k, k ≠ 94 → k ≠ 123 → (rx_ui (rx_ui (rx_ui (rx_ui S 94 12 (nI (d + 1))) 94 11 (nI (p + 1))) 123 s.length 6) 94 45 (nI (s.length + 1))).1 k = S.1 k := fun k q1 q2 => by rw [ui_row q1, ui_row q2, ui_row q1, ui_row q1]
    have e3 : (rx_ui (rx_ui (rx_ui (rx_ui S 94 12 (nI (d + 1))) 94 11 (nI (p + 1))) 123 s.length 6) 94 45 (nI (s.length + 1))).1 123 = upd (S.1 123) s.length 6 := by rw [ui_row (by decide), ui_same, ui_row (by decide), ui_row (by decide)]
    refine ⟨?_, ?_, (e 13 (by decide) (by decide) (by decide)).trans h3, hp1, by rw [List.length_cons]; omega, h6.eq (er 97 (by decide) (by decide)) (er 98 (by decide) (by decide)) (er 99 (by decide) (by decide)), ⟨?_, ⟨⟨?_, by decide⟩, wst_eq _ w2 (fun j hj => by rw [e3, upd_ne (by omega)])⟩, (e 41 (by decide) (by decide) (by decide)).trans w3, by rw [List.length_cons]; omega, w5, by rw [List.length_cons]; omega⟩⟩
    · rw [ui_get, if_pos rfl, if_neg (by decide), ui_row (by decide), ui_get, if_pos rfl, if_pos rfl]
    · rw [ui_get, if_pos rfl, if_neg (by decide), ui_row (by decide), ui_get, if_pos rfl, if_neg (by decide), ui_get, if_pos rfl, if_pos rfl]
    · rw [ui_get, if_pos rfl, if_pos rfl, List.length_cons]
    · rw [e3]; exact upd_at
  · exact (((eM.ui (by omega)).tr (eM.ui (by omega)) (Nat.le_refl c)).tr eM.u3 (Nat.le_refl c)).tr (eM.ui (by omega)) (Nat.le_refl c)
theorem OM_of {n mm : Nat} (hF : tkF z) (hS : XS z B d p c s S) (hk : kK z p = 40) (hd6 : d ≤ 6) (hx : ¬ d < 6 ∨ ¬ p < 400) (hl : s.length < 60) : pk (OM N n (mm + 1 + 1) S) (fun _ S' => flt z 2 p S' ∧ eM B c S S') := by
  obtain ⟨h1, h2, h3, h4, h5, h6, ⟨w1, w2, w3, w4, w5, w6⟩⟩ := hS
  unfold OM
  rw [f_X11_expression_L23, is_ok h3 h1 hF h6 h4 40 rfl (x := 6) rfl, bd_some, if_pos hk, if_neg (by decide)]
  have last : ∀ S2, flt z 2 p S2 → eM B c S S2 → S2.1 94 45 = nI s.length → pk (rx_gd (S2.1 94 45) 64 (rx_let (rx_ui S2 123 (Int32.toNatClampNeg (S2.1 94 45)) 6) (fun S108 => rx_let (rx_ui S108 94 45 ((S108.1 94 45) + 1)) (fun S109 => f_X11_expression_L23 N (exK N n) (mm + 1) (nI 0) S109)))) (fun _ S' => flt z 2 p S' ∧ eM B c S S') := by
    intro S2 f2 g2 e45
    rw [e45, pk_gdn (by omega) (by decide), pk_let, pk_let, nI_clamp (by omega)]
    have f3 : flt z 2 p (rx_ui (rx_ui S2 123 s.length 6) 94 45 ((rx_ui S2 123 s.length 6).1 94 45 + 1)) := flt.ui (f2.eq (by rw [ui_row (by decide)]) (by rw [ui_row (by decide)])) (by decide) (by decide)
    have := OM_f (N := N) (n := n) (m := mm) f3
    unfold OM at this
    rw [this, pk_some]
    exact ⟨f3, (g2.tr eM.u3 (Nat.le_refl c)).tr (eM.ui (by omega)) (Nat.le_refl c)⟩
  rw [pk_let]
  by_cases hd : d < 6
  · have hp : ¬ p < 400 := by omega
    have a11 : (rx_ui S 94 12 (nI (d + 1))).1 94 11 = nI p := by rw [ui_get, if_pos rfl, if_neg (by decide)]; exact h1
    have a13 : (rx_ui S 94 12 (nI (d + 1))).1 94 13 = 0 := by rw [ui_get, if_pos rfl, if_neg (by decide)]; exact h3
    rw [h2, if_neg (fun e => by rw [show (6 : Int32) = nI 6 from rfl, nI_eq (by omega) (by decide)] at e; omega), pk_let, h2, nI_1, goesOn_2 a13 a11 hF (h6.eq (by rw [ui_row (by decide)]) (by rw [ui_row (by decide)]) (by rw [ui_row (by decide)])) h4 hp, bd_some]
    refine last _ (flS_flt (Or.inr rfl) rfl h4) ((eM.ui (by omega)).tr eM.fl (Nat.le_refl c)) ?_
    unfold flS
    rw [ui_get, if_pos rfl, if_neg (by decide), ui_get, if_pos rfl, if_neg (by decide), ui_get, if_pos rfl, if_neg (by decide)]
    exact w1
  · rw [h2, if_pos (by rw [show d = 6 by omega]; rfl), fail_ok h3 h1 hF h6 h4, bd_some, pk_let]
    have f1 := flS_flt (S := S) (f := 2) (x := 2) (Or.inr rfl) rfl h4
    have f2 := f1.ui (j := 12) (x := (flS S 2 (nI (kP z p))).1 94 12 + 1) (by decide) (by decide)
    obtain ⟨x, hx⟩ := goesOn_f f2
    rw [hx, bd_some]
    refine last _ (f2.ui (by decide) (by decide)) (((eM.fl).tr (eM.ui (by omega)) (Nat.le_refl c)).tr (eM.ui (by omega)) (Nat.le_refl c)) ?_
    unfold flS
    rw [ui_get, if_pos rfl, if_neg (by decide), ui_get, if_pos rfl, if_neg (by decide), ui_get, if_pos rfl, if_neg (by decide), ui_get, if_pos rfl, if_neg (by decide)]
    exact w1
theorem RF_open (hF : tkF z) (hk : kK z p = 40) (hx : ¬ d < 6 ∨ ¬ p < 400) : RF z B 0 d p 2 p := by
  intro N n mm c s S hN hS hd hs hn hmm hB
  obtain ⟨mm, rfl⟩ : ∃ q, mm = q + 1 + 1 := ⟨mm - 2, by omega⟩
  exact OM_of hF hS hk hd hx (by have := hs.1; omega)
theorem sgM_eM {S S' : rx_S} {B c a : Nat} {w : List It} (h : sgM S a w) (g : eM B c S S') (hc : a + w.length ≤ c) : sgM S' a w := sgM_eq w a h (fun j _ h2 => g.2.2.1 j (Or.inl (by omega)))
/-- a closing parenthesis -/
theorem AM_close {n m c1 q : Nat} {t : List Nat} {Q : Unit → rx_S → Prop} (hN : 5000 ≤ N) (hF : tkF z) (hS : XS z B (d + 1) q c1 (t ++ 6 :: s) S) (hd : d < 6) (ht : ∀ x, x ∈ t → x ≠ 6) (hk : kK z q = 41) (hq : q < 400) (hq1 : q + 1 < kN z) (k : ∀ S', XS z B d (q + 1) (c1 + t.length) s S' → sgM S' c1 (flL t) → eM B c1 S S' → pk (AM N n m S') Q) : pk (AM N n (m + 1) S) Q := by
  obtain ⟨h1, h2, h3, h4, h5, h6, hw⟩ := hS
  have hl : (t ++ 6 :: s).length = t.length + s.length + 1 := by rw [List.length_append, List.length_cons]; omega
  rw [hl] at h5
  have h60 := hw.2.2.2.2.2
  rw [hl] at h60
  unfold AM
  rw [f_X11_expression_L96, is_ok h3 h1 hF h6 h4 41 rfl (x := 7) rfl, bd_some, if_pos hk, if_neg (by decide), h2, if_neg (nI_ge (by omega) (by omega)), pk_bd]
  refine pk_mono (co_L (s := 6 :: s) (Or.inr (Or.inl ⟨s, rfl⟩)) t N c1 S ht (Or.inl rfl) hw (by omega)) (fun _ S1 g => ?_)
  obtain ⟨⟨w1, w2, w3, w4, w5, w6⟩, g2, g3⟩ := g
  have w1 : S1.1 94 45 = nI (s.length + 1) := w1
  rw [List.length_cons] at w4 w6
  rw [pk_let, pk_let, w1, nI_pred]
  have e12 : (rx_ui S1 94 45 (nI s.length)).1 94 12 = nI (d + 1) := by rw [ui_get, if_pos rfl, if_neg (by decide), g3.2.1 12 (by decide) (by decide)]; exact h2
  rw [e12, nI_pred]
  have e11 : (rx_ui (rx_ui S1 94 45 (nI s.length)) 94 12 (nI d)).1 94 11 = nI q := by rw [ui_get, if_pos rfl, if_neg (by decide), ui_get, if_pos rfl, if_neg (by decide), g3.2.1 11 (by decide) (by decide)]; exact h1
  rw [goesOn_n e11 hq, bd_some]
  have e : ∀ j, j ≠ 11 → j ≠ 12 → j ≠ 45 → (rx_ui (rx_ui (rx_ui S1 94 45 (nI s.length)) 94 12 (nI d)) 94 11 (nI (q + 1))).1 94 j = S1.1 94 j := fun j q1 q2 q3 => by rw [ui_get, if_pos rfl, if_neg q1, ui_get, if_pos rfl, if_neg q2, ui_get, if_pos rfl, if_neg q3]
  have er : ∀ k, k ≠ 94 → (rx_ui (rx_ui (rx_ui S1 94 45 (nI s.length)) 94 12 (nI d)) 94 11 (nI (q + 1))).1 k = S1.1 k := fun k q1 => by rw [ui_row q1, ui_row q1, ui_row q1]
  refine k _ ⟨by rw [ui_get, if_pos rfl, if_pos rfl], ?_, (e 13 (by decide) (by decide) (by decide)).trans ((g3.2.1 13 (by decide) (by decide)).trans h3), hq1, by omega, h6.eq ((er 97 (by decide)).trans (g3.1 97 (by decide) (by decide) (by decide))) ((er 98 (by decide)).trans (g3.1 98 (by decide) (by decide) (by decide))) ((er 99 (by decide)).trans (g3.1 99 (by decide) (by decide) (by decide))), ⟨?_, wst_eq _ w2.2 (fun j _ => by rw [er 123 (by decide)]), (e 41 (by decide) (by decide) (by decide)).trans w3, by omega, w5, by omega⟩⟩ (sgM_eq _ _ g2 (fun j _ _ => ⟨by rw [er 121 (by decide)], by rw [er 122 (by decide)]⟩)) (((g3.e.tr (eM.ui (by omega)) (Nat.le_refl c1)).tr (eM.ui (by omega)) (Nat.le_refl c1)).tr (eM.ui (by omega)) (Nat.le_refl c1))
  · rw [ui_get, if_pos rfl, if_neg (by decide), ui_get, if_pos rfl, if_pos rfl]
  · rw [ui_get, if_pos rfl, if_neg (by decide), ui_get, if_pos rfl, if_neg (by decide), ui_get, if_pos rfl, if_pos rfl]
theorem AM_close2 {n m c1 q : Nat} {t : List Nat} (hN : 5000 ≤ N) (hF : tkF z) (hS : XS z B (d + 1) q c1 (t ++ 6 :: s) S) (hd : d < 6) (ht : ∀ x, x ∈ t → x ≠ 6) (hk : kK z q = 41) (hq : ¬ q < 400) : pk (AM N n (m + 1 + 1) S) (fun _ S' => flt z 2 q S' ∧ eM B c1 S S') := by
  obtain ⟨h1, h2, h3, h4, h5, h6, hw⟩ := hS
  have hl : (t ++ 6 :: s).length = t.length + s.length + 1 := by rw [List.length_append, List.length_cons]; omega
  have h60 := hw.2.2.2.2.2
  rw [hl] at h60
  have hu : AM N n (m + 1 + 1) S = f_X11_expression_L96 N (exJ N n) (m + 1 + 1) (nI 0) S := rfl
  rw [hu, f_X11_expression_L96, is_ok h3 h1 hF h6 h4 41 rfl (x := 7) rfl, bd_some, if_pos hk, if_neg (by decide), h2, if_neg (nI_ge (by omega) (by omega)), pk_bd]
  refine pk_mono (co_L (s := 6 :: s) (Or.inr (Or.inl ⟨s, rfl⟩)) t N c1 S ht (Or.inl rfl) hw (by omega)) (fun _ S1 g => ?_)
  obtain ⟨⟨w1, w2, w3, w4, w5, w6⟩, g2, g3⟩ := g
  have w1 : S1.1 94 45 = nI (s.length + 1) := w1
  rw [List.length_cons] at w4 w6
  rw [pk_let, pk_let, w1, nI_pred]
  have e : ∀ j x, j ≠ 12 → j ≠ 45 → (rx_ui (rx_ui S1 94 45 (nI s.length)) 94 12 x).1 94 j = S1.1 94 j := fun j x q2 q3 => by rw [ui_get, if_pos rfl, if_neg q2, ui_get, if_pos rfl, if_neg q3]
  have er : ∀ k x, k ≠ 94 → (rx_ui (rx_ui S1 94 45 (nI s.length)) 94 12 x).1 k = S1.1 k := fun k x q1 => by rw [ui_row q1, ui_row q1]
  rw [goesOn_2 ((e 13 _ (by decide) (by decide)).trans ((g3.2.1 13 (by decide) (by decide)).trans h3)) ((e 11 _ (by decide) (by decide)).trans ((g3.2.1 11 (by decide) (by decide)).trans h1)) hF (h6.eq ((er 97 _ (by decide)).trans (g3.1 97 (by decide) (by decide) (by decide))) ((er 98 _ (by decide)).trans (g3.1 98 (by decide) (by decide) (by decide))) ((er 99 _ (by decide)).trans (g3.1 99 (by decide) (by decide) (by decide)))) h4 hq, bd_some]
  have XW2 : XW B (c1 + t.length) s (rx_ui (rx_ui S1 94 45 (nI s.length)) 94 12 ((rx_ui S1 94 45 (nI s.length)).1 94 12 - 1)) := ⟨by rw [ui_get, if_pos rfl, if_neg (by decide), ui_get, if_pos rfl, if_pos rfl], wst_eq _ w2.2 (fun j _ => by rw [er 123 _ (by decide)]), (e 41 _ (by decide) (by decide)).trans w3, by omega, w5, by omega⟩
  refine pk_mono (AM_f hN (flS_flt (Or.inr rfl) rfl h4) XW2.fl) (fun _ S' g => ⟨g.1, ?_⟩)
  exact (((g3.e.tr (eM.ui (by omega)) (Nat.le_refl c1)).tr (eM.ui (by omega)) (Nat.le_refl c1)).tr eM.fl (Nat.le_refl c1)).tr g.2 (by omega)
theorem AM_close1 {n m c1 q : Nat} {s : List Nat} (hN : 5000 ≤ N) (hF : tkF z) (hS : XS z B (d + 1) q c1 s S) (hd : d < 6) (hk : ¬ kK z q = 41) (ho : ¬ isop (kK z q)) : pk (AM N n (m + 1) S) (fun _ S' => flt z 1 q S' ∧ eM B c1 S S') := by
  obtain ⟨h1, h2, h3, h4, h5, h6, hw⟩ := hS
  unfold AM
  rw [f_X11_expression_L96, is_ok h3 h1 hF h6 h4 41 rfl (x := 7) rfl, bd_some, if_neg hk, if_pos rfl, exJ_e hF h3 h1 h6 h4 ho]
  unfold exE
  rw [pk_let, h2, if_neg (nI_ge (by omega) (by omega)), fail_ok h3 h1 hF h6 h4, bd_some, pk_bd]
  refine pk_mono (cmo_any hN hw.fl) (fun _ S' g => ?_)
  rw [pk_some]
  exact ⟨(flS_flt (Or.inl rfl) rfl h4).eq (g.2.1 13 (by decide) (by decide)) (g.2.1 14 (by decide) (by decide)), eM.fl.tr g.e (Nat.le_refl c1)⟩
end EXP
