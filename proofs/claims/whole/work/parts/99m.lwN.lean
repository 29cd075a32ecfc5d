/-! ===== READ 13: a law as the reference reads it, piece by piece ===== -/
section LWN
variable {N : Nat} {S : rx_S} {z : tks} {p sd k b c : Nat}
def LwS (z : tks) (sd e p b c : Nat) (S : rx_S) : Prop := XB z (420 * sd) p c S ∧ S.1 94 35 = nI b ∧ S.1 94 19 = nI sd ∧ sd < 2 ∧ 130 * sd ≤ b ∧ 4 * b + e ≤ 520 * sd + p
def LwX (z : tks) (sd i p q : Nat) (bs : List Br) (t : List It) : Prop := (p < q ∧ q < kN z) ∧ ∀ (N n k b0 b c : Nat) (S : rx_S), 5000 ≤ N → LwS z sd 2 p b c S → k < 7 → b0 < 260 → i ≤ 4 → 10 ≤ n + i → pk (f_X11_tellLaw_L12 N (tlK N) n (nI k) (nI b0) (nI i) S) (fun _ S' => (∃ c', c ≤ c' ∧ LwS z sd 0 q (b + bs.length + 1) c' S' ∧ ∀ j, b ≤ j → j ≤ b + bs.length → (S'.1 120 j).toNatClampNeg ≤ c') ∧ lyM S' sd b bs t ∧ S'.1 114 (7 * sd + k) = nI b0 ∧ S'.1 115 (7 * sd + k) = nI (b + bs.length + 1) ∧ lM sd k b c S S')
def LwF (z : tks) (sd i p f q : Nat) : Prop := ∀ (N n k b0 b c : Nat) (S : rx_S), 5000 ≤ N → LwS z sd 2 p b c S → k < 7 → b0 < 260 → i ≤ 4 → 10 ≤ n + i → pk (f_X11_tellLaw_L12 N (tlK N) n (nI k) (nI b0) (nI i) S) (fun _ S' => flt z f q S' ∧ lM sd k b c S S')
theorem XB.go (h : XB z (420 * sd) p c S) (hp : p + 1 < kN z) : XB z (420 * sd) (p + 1) c (rx_ui S 94 11 (nI (p + 1))) := by
  obtain ⟨h1, h2, h3, h4, h5, h6, h7, h8, h9⟩ := h
  have e : ∀ j, j ≠ 11 → (rx_ui S 94 11 (nI (p + 1))).1 94 j = S.1 94 j := fun j q2 => by rw [ui_get, if_pos rfl, if_neg q2]
  exact ⟨by rw [ui_get, if_pos rfl, if_pos rfl], (e 12 (by decide)).trans h2, (e 13 (by decide)).trans h3, (e 41 (by decide)).trans h4, hp, by omega, h7, h8, h9.eq (ui_row (by decide)) (ui_row (by decide)) (ui_row (by decide))⟩
theorem XB.rows {B : Nat} {S' : rx_S} (h : XB z B p c S) (e1 : S'.1 94 11 = S.1 94 11) (e2 : S'.1 94 12 = S.1 94 12) (e3 : S'.1 94 13 = S.1 94 13) (e4 : S'.1 94 41 = S.1 94 41) (e5 : tkM z S') : XB z B p c S' := by
  obtain ⟨h1, h2, h3, h4, h5, h6, h7, h8, h9⟩ := h
  exact ⟨e1.trans h1, e2.trans h2, e3.trans h3, e4.trans h4, h5, h6, h7, h8, e5⟩
theorem XB.ub {B r j : Nat} {x : Int32} (h : XB z B p c S) (hr : 116 ≤ r ∧ r ≤ 120) : XB z B p c (rx_ui S r j x) := h.rows (by rw [ui_row (by omega)]) (by rw [ui_row (by omega)]) (by rw [ui_row (by omega)]) (by rw [ui_row (by omega)]) (h.2.2.2.2.2.2.2.2.eq (ui_row (by omega)) (ui_row (by omega)) (ui_row (by omega)))
theorem must_XB {x : Int32} (hF : tkF z) (h : XB z (420 * sd) p c S) (d : Nat) (hd : okK d = true) (hx : x = nI (kM d)) (h0 : 2 ≤ d) (hk : kK z p = d ∧ p < 400) : f_X11_must x S = some ((), rx_ui S 94 11 (nI (p + 1))) ∧ p + 1 < kN z ∧ XB z (420 * sd) (p + 1) c (rx_ui S 94 11 (nI (p + 1))) := by
  have hp1 : p + 1 < kN z := hF.2.2.2.1 p h.2.2.2.2.1 (by omega) (by omega) hk.2
  exact ⟨must_t h.2.2.1 h.1 hF h.2.2.2.2.2.2.2.2 h.2.2.2.2.1 d hd hx hk, hp1, h.go hp1⟩
theorem must_XF {x : Int32} {f : Nat} (hF : tkF z) (h : XB z (420 * sd) p c S) (d : Nat) (hd : okK d = true) (hx : x = nI (kM d)) (hk : tkFl z p d f) : f_X11_must x S = some ((), flS S (nI f) (nI (kP z p))) ∧ flt z f p (flS S (nI f) (nI (kP z p))) := ⟨must_n h.2.2.1 h.1 hF h.2.2.2.2.2.2.2.2 h.2.2.2.2.1 d hd hx hk, flS_flt hk.f rfl h.2.2.2.2.1⟩
theorem lM.fl {x y : Int32} : lM sd k b c S (flS S x y) := (lM.u94 (by omega)).tr (lM.u94 (by omega)) (Nat.le_refl b) (Nat.le_refl c)
/-- a term, whole -/
theorem term_ok {q : Nat} {t : List It} (hN : 5000 ≤ N) (hF : tkF z) (h : XB z (420 * sd) p c S) (hs : sd < 2) (hb : S.1 94 35 = nI b) (hb2 : b < 130 * sd + 130) (hr : RX z (420 * sd) 2 0 p q t) (ho : ¬ isop (kK z q)) : pk (f_X11_term N S) (fun _ S' => XB z (420 * sd) q (c + t.length) S' ∧ S'.1 94 35 = nI (b + 1) ∧ S'.1 119 b = nI c ∧ S'.1 120 b = nI (c + t.length) ∧ sgM S' c t ∧ lM sd k b c S S' ∧ (∀ r, 116 ≤ r → r ≤ 118 → S'.1 r = S.1 r)) := by
  unfold f_X11_term
  have c0 := h.2.2.2.1
  have b2 : (rx_ui S 119 b (nI c)).1 94 35 = nI b := by rw [ui_row (by decide)]; exact hb
  have f2 : (rx_ui S 119 b (nI c)).1 94 13 = 0 := by rw [ui_row (by decide)]; exact h.2.2.1
  rw [hb, pk_gdn (by omega) (by decide), pk_let, pk_let, nI_clamp (by omega), c0, if_pos f2]
  refine pk_bdm (ex_ok hN hF (h.ub (r := 119) (j := b) (x := nI c) (by decide)) hr ho) (fun _ S1 g => ?_)
  obtain ⟨g1, g2, g3⟩ := g
  have b3 : S1.1 94 35 = nI b := (g3.2.1 35 (by decide) (by decide) (by decide) (by decide) (by decide) (by decide)).trans b2
  have c3 := g1.2.2.2.1
  dsimp only
  rw [b3, pk_gdn (by omega) (by decide), pk_let, pk_let, nI_clamp (by omega), c3, pk_some]
  have b4 : (rx_ui S1 120 b (nI (c + t.length))).1 94 35 = nI b := by rw [ui_row (by decide)]; exact b3
  rw [b4, nI_1]
  have e : ∀ j, j ≠ 35 → (rx_ui (rx_ui S1 120 b (nI (c + t.length))) 94 35 (nI (b + 1))).1 94 j = S1.1 94 j := fun j q2 => by rw [ui_get, if_pos rfl, if_neg q2, ui_row (by decide)]
  have er : ∀ r, r ≠ 94 → r ≠ 120 → (rx_ui (rx_ui S1 120 b (nI (c + t.length))) 94 35 (nI (b + 1))).1 r = S1.1 r := fun r q1 q2 => by rw [ui_row q1, ui_row q2]
  have er2 : ∀ r, r ≠ 94 → r ≠ 121 → r ≠ 122 → r ≠ 123 → r ≠ 119 → S1.1 r = S.1 r := fun r q1 q2 q3 q4 q5 => (g3.1 r q1 q2 q3 q4).trans (ui_row q5)
  refine ⟨g1.rows (e 11 (by decide)) (e 12 (by decide)) (e 13 (by decide)) (e 41 (by decide)) (g1.2.2.2.2.2.2.2.2.eq (er 97 (by decide) (by decide)) (er 98 (by decide) (by decide)) (er 99 (by decide) (by decide))), by rw [ui_get, if_pos rfl, if_pos rfl], ?_, ?_, sgM_eq _ _ g2 (fun j _ _ => ⟨by rw [er 121 (by decide) (by decide)], by rw [er 122 (by decide) (by decide)]⟩), ?_, fun r h1 h2 => (er r (by omega) (by omega)).trans (er2 r (by omega) (by omega) (by omega) (by omega) (by omega))⟩
  · rw [er 119 (by decide) (by decide), g3.1 119 (by decide) (by decide) (by decide) (by decide), ui_same]
    exact upd_at
  · rw [ui_row (by decide), ui_same]
    exact upd_at
  · exact (((lM.ub (by omega) (by omega)).tr g3.l (Nat.le_refl b) (Nat.le_refl c)).tr (lM.ub (by omega) (by omega)) (Nat.le_refl b) (Nat.le_refl c)).tr (lM.u94 (by omega)) (Nat.le_refl b) (Nat.le_refl c)
theorem term_fl {f q : Nat} (hN : 5000 ≤ N) (hF : tkF z) (h : XB z (420 * sd) p c S) (hs : sd < 2) (hb : S.1 94 35 = nI b) (hb2 : b < 130 * sd + 130) (hr : RF z (420 * sd) 2 0 p f q) : pk (f_X11_term N S) (fun _ S' => flt z f q S' ∧ S'.1 94 35 = nI (b + 1) ∧ lM sd k b c S S') := by
  unfold f_X11_term
  have c0 := h.2.2.2.1
  have b2 : (rx_ui S 119 b (nI c)).1 94 35 = nI b := by rw [ui_row (by decide)]; exact hb
  have f2 : (rx_ui S 119 b (nI c)).1 94 13 = 0 := by rw [ui_row (by decide)]; exact h.2.2.1
  rw [hb, pk_gdn (by omega) (by decide), pk_let, pk_let, nI_clamp (by omega), c0, if_pos f2]
  refine pk_bdm (ex_fail hN hF (h.ub (r := 119) (j := b) (x := nI c) (by decide)) hr) (fun _ S1 g => ?_)
  obtain ⟨g1, g3⟩ := g
  have b3 : S1.1 94 35 = nI b := (g3.2.1 35 (by decide) (by decide) (by decide) (by decide) (by decide) (by decide)).trans b2
  dsimp only
  rw [b3, pk_gdn (by omega) (by decide), pk_let, pk_let, nI_clamp (by omega), pk_some]
  have b4 : (rx_ui S1 120 b (S1.1 94 41)).1 94 35 = nI b := by rw [ui_row (by decide)]; exact b3
  rw [b4, nI_1]
  exact ⟨flt.ui (g1.eq (by rw [ui_row (by decide)]) (by rw [ui_row (by decide)])) (by decide) (by decide), by rw [ui_get, if_pos rfl, if_pos rfl], (((lM.ub (by omega) (by omega)).tr g3.l (Nat.le_refl b) (Nat.le_refl c)).tr (lM.ub (by omega) (by omega)) (Nat.le_refl b) (Nat.le_refl c)).tr (lM.u94 (by omega)) (Nat.le_refl b) (Nat.le_refl c)⟩
theorem lM.g19 {S' : rx_S} (h : lM sd k b c S S') : S'.1 94 19 = S.1 94 19 := h.2.1 19 (by decide) (by decide) (by decide) (by decide) (by decide) (by decide) (by decide)
/-- the last term of a law -/
theorem LX_end {q i : Nat} {t : List It} (hF : tkF z) (hk : ¬ kK z p = 140) (hr : RX z (420 * sd) 2 0 p q t) (ho : ¬ isop (kK z q)) (he : Ex 15 t) (hq : kK z q = 59 ∧ q < 400) : LwX z sd i p (q + 1) [] t := by
  have hq1 : q + 1 < kN z := hF.2.2.2.1 q hr.1.2 (by omega) (by omega) hq.2
  refine ⟨⟨by have := hr.1; omega, hq1⟩, fun N n k b0 b c S hN hS hk7 hb0 hi hn => ?_⟩
  obtain ⟨hX, h35, h19, hs, hb1, hb2⟩ := hS
  have hm := hF.2.1
  have hp := hX.2.2.2.2.1
  obtain ⟨n, rfl⟩ : ∃ m, n = m + 1 := ⟨n - 1, by omega⟩
  rw [tlL_eq, if_pos hX.2.2.1, is_ok hX.2.2.1 hX.1 hF hX.2.2.2.2.2.2.2.2 hp 140 rfl (x := 32) rfl, bd_some, if_neg hk, if_pos rfl]
  unfold tlK
  rw [h35, pk_gdn (by omega) (by decide), pk_let, nI_clamp (by omega), show vp_nar .boolean 0 = 0 from by decide]
  refine pk_bdm (term_ok (k := k) (b := b) hN hF (hX.ub (r := 116) (j := b) (x := 0) (by decide)) hs (by rw [ui_row (by decide)]; exact h35) (by omega) hr ho) (fun _ S1 g => ?_)
  obtain ⟨g1, g2, g3, g4, g5, g6, g7⟩ := g
  obtain ⟨m1, m2, m3⟩ := must_XB hF g1 59 rfl (x := 4) rfl (by decide) hq
  have e19 : (rx_ui S1 94 11 (nI (q + 1))).1 94 19 = nI sd := by
    rw [ui_get, if_pos rfl, if_neg (by decide), g6.g19, ui_row (by decide)]
    exact h19
  have e7 : (7 : Int32) * nI sd + nI k = nI (7 * sd + k) := by
    have : (7 : Int32) * nI sd = nI (7 * sd) := nI_mul 7 sd
    rw [this, nI_add]
  have e35 : (rx_ui S1 94 11 (nI (q + 1))).1 94 35 = nI (b + 1) := by
    rw [ui_get, if_pos rfl, if_neg (by decide)]
    exact g2
  have f19 : (rx_ui (rx_ui S1 94 11 (nI (q + 1))) 114 (7 * sd + k) (nI b0)).1 94 19 = nI sd := by
    rw [ui_row (by decide)]
    exact e19
  have f35 : (rx_ui (rx_ui S1 94 11 (nI (q + 1))) 114 (7 * sd + k) (nI b0)).1 94 35 = nI (b + 1) := by
    rw [ui_row (by decide)]
    exact e35
  rw [m1, bd_some, if_pos (by rw [m3.2.2.1]; decide), e19, e7, pk_gdn (by omega) (by decide), pk_let, nI_clamp (by omega), f19, e7, pk_gdn (by omega) (by decide), pk_let, nI_clamp (by omega), f35, pk_some]
  have er : ∀ r, r ≠ 114 → r ≠ 115 → r ≠ 94 → (rx_ui (rx_ui (rx_ui S1 94 11 (nI (q + 1))) 114 (7 * sd + k) (nI b0)) 115 (7 * sd + k) (nI (b + 1))).1 r = S1.1 r := fun r q1 q2 q3 => by rw [ui_row q2, ui_row q1, ui_row q3]
  have e9 : ∀ j, (rx_ui (rx_ui (rx_ui S1 94 11 (nI (q + 1))) 114 (7 * sd + k) (nI b0)) 115 (7 * sd + k) (nI (b + 1))).1 94 j = (rx_ui S1 94 11 (nI (q + 1))).1 94 j := fun j => by rw [ui_row (by decide), ui_row (by decide)]
  have hc3 := m3.2.2.2.2.2.1
  have hc4 := g1.2.2.2.2.2.1
  have hpq := hr.1.1
  refine ⟨⟨c + t.length, by omega, ⟨m3.rows (e9 11) (e9 12) (e9 13) (e9 41) (m3.2.2.2.2.2.2.2.2.eq (by rw [ui_row (by decide), ui_row (by decide)]) (by rw [ui_row (by decide), ui_row (by decide)]) (by rw [ui_row (by decide), ui_row (by decide)])), (e9 35).trans e35, (e9 19).trans e19, hs, by omega, by show 4 * (b + 0 + 1) + 0 ≤ _; omega⟩, fun j a1 a2 => ?_⟩, ⟨⟨hb1, by omega, ?_⟩, c, hX.2.2.2.2.2.2.1, by omega, ?_, ?_, sgM_eq _ _ g5 (fun j _ _ => ⟨by rw [er 121 (by decide) (by decide) (by decide)], by rw [er 122 (by decide) (by decide) (by decide)]⟩), he⟩, ?_, ?_, ?_⟩
  · have a2 : j ≤ b + 0 := a2
    rw [show j = b by omega, er 120 (by decide) (by decide) (by decide), g4, nI_clamp (by omega)]
    exact Nat.le_refl _
  · rw [er 116 (by decide) (by decide) (by decide), g7 116 (by decide) (by decide), ui_same]
    exact upd_at
  · rw [er 119 (by decide) (by decide) (by decide)]
    exact g3
  · rw [er 120 (by decide) (by decide) (by decide)]
    exact g4
  · rw [ui_row (by decide), ui_same]
    exact upd_at
  · rw [ui_same]
    exact upd_at
  · exact ((((lM.ub (by omega) (by omega)).tr g6 (Nat.le_refl b) (Nat.le_refl c)).tr (lM.u94 (by omega)) (Nat.le_refl b) (Nat.le_refl c)).tr (lM.ul (Or.inl rfl)) (Nat.le_refl b) (Nat.le_refl c)).tr (lM.ul (Or.inr rfl)) (Nat.le_refl b) (Nat.le_refl c)
theorem LF_end {q f i : Nat} (hF : tkF z) (hk : ¬ kK z p = 140) (h : RF z (420 * sd) 2 0 p f q ∨ ∃ t, RX z (420 * sd) 2 0 p q t ∧ ¬ isop (kK z q) ∧ tkFl z q 59 f) : LwF z sd i p f q := by
  intro N n k b0 b c S hN hS hk7 hb0 hi hn
  obtain ⟨hX, h35, h19, hs, hb1, hb2⟩ := hS
  have hm := hF.2.1
  have hp := hX.2.2.2.2.1
  obtain ⟨n, rfl⟩ : ∃ m, n = m + 1 := ⟨n - 1, by omega⟩
  rw [tlL_eq, if_pos hX.2.2.1, is_ok hX.2.2.1 hX.1 hF hX.2.2.2.2.2.2.2.2 hp 140 rfl (x := 32) rfl, bd_some, if_neg hk, if_pos rfl]
  unfold tlK
  rw [h35, pk_gdn (by omega) (by decide), pk_let, nI_clamp (by omega), show vp_nar .boolean 0 = 0 from by decide]
  rcases h with h | ⟨t, hr, ho, hq⟩
  · refine pk_bdm (term_fl (k := k) (b := b) hN hF (hX.ub (r := 116) (j := b) (x := 0) (by decide)) hs (by rw [ui_row (by decide)]; exact h35) (by omega) h) (fun _ S1 g => ?_)
    rw [must_f g.1, bd_some, if_neg g.1.pos.1, pk_some]
    exact ⟨g.1, (lM.ub (by omega) (by omega)).tr g.2.2 (Nat.le_refl b) (Nat.le_refl c)⟩
  · refine pk_bdm (term_ok (k := k) (b := b) hN hF (hX.ub (r := 116) (j := b) (x := 0) (by decide)) hs (by rw [ui_row (by decide)]; exact h35) (by omega) hr ho) (fun _ S1 g => ?_)
    obtain ⟨g1, g2, g3, g4, g5, g6, g7⟩ := g
    obtain ⟨m1, m2⟩ := must_XF hF g1 59 rfl (x := 4) rfl hq
    rw [m1, bd_some, if_neg m2.pos.1, pk_some]
    exact ⟨m2, ((lM.ub (by omega) (by omega)).tr g6 (Nat.le_refl b) (Nat.le_refl c)).tr lM.fl (Nat.le_refl b) (Nat.le_refl c)⟩
/-- too many ifs -/
theorem LF_ifs (hF : tkF z) (hk : kK z p = 140) : LwF z sd 4 p 2 p := by
  intro N n k b0 b c S hN hS hk7 hb0 hi hn
  obtain ⟨hX, h35, h19, hs, hb1, hb2⟩ := hS
  have hp := hX.2.2.2.2.1
  obtain ⟨n, rfl⟩ : ∃ m, n = m + 1 := ⟨n - 1, by omega⟩
  have f2 := flS_flt (S := S) (f := 2) (x := 2) (Or.inr rfl) rfl hp
  rw [tlL_eq, if_pos hX.2.2.1, is_ok hX.2.2.1 hX.1 hF hX.2.2.2.2.2.2.2.2 hp 140 rfl (x := 32) rfl, bd_some, if_pos hk, if_neg (by decide), if_pos (show nI 4 = 4 from rfl), fail_ok hX.2.2.1 hX.1 hF hX.2.2.2.2.2.2.2.2 hp, bd_some]
  unfold tlI
  rw [if_neg f2.pos.1, pk_some]
  exact ⟨f2, lM.fl⟩
/-- an if: up to its first sign -/
theorem if_a {n i b0 : Nat} {Q : Unit → rx_S → Prop} (hF : tkF z) (hS : LwS z sd 2 p b c S) (hk : kK z p = 140 ∧ p < 400) (hi : i < 4) (kn : ∀ S2, XB z (420 * sd) (p + 1) c S2 → S2.1 94 35 = nI b → S2.1 94 19 = nI sd → S2.1 116 b = 1 → S2.1 117 b = nI c → lM sd k b c S S2 → pk (rx_bd (f_X11_expression N S2) (fun x49 S48 => tlM N n (nI k) (nI b0) (nI (i + 1)) S48)) Q) : pk (f_X11_tellLaw_L12 N (tlK N) (n + 1) (nI k) (nI b0) (nI i) S) Q := by
  obtain ⟨hX, h35, h19, hs, hb1, hb2⟩ := hS
  have hm := hF.2.1
  have hp := hX.2.2.2.2.1
  have hp1 : p + 1 < kN z := hF.2.2.2.1 p hp (by omega) (by omega) hk.2
  rw [tlL_eq, if_pos hX.2.2.1, is_ok hX.2.2.1 hX.1 hF hX.2.2.2.2.2.2.2.2 hp 140 rfl (x := 32) rfl, bd_some, if_pos hk.1, if_neg (by decide), if_neg (show ¬ nI i = 4 from fun e => by rw [show (4 : Int32) = nI 4 from rfl, nI_eq (by omega) (by decide)] at e; omega)]
  unfold tlI
  have X1 := hX.go hp1
  have a35 : (rx_ui S 94 11 (nI (p + 1))).1 94 35 = nI b := by rw [ui_get, if_pos rfl, if_neg (by decide)]; exact h35
  have a19 : (rx_ui S 94 11 (nI (p + 1))).1 94 19 = nI sd := by rw [ui_get, if_pos rfl, if_neg (by decide)]; exact h19
  rw [if_pos (by rw [hX.2.2.1]; decide), goesOn_n hX.1 hk.2, bd_some, a35, pk_gdn (by omega) (by decide), pk_let, nI_clamp (by omega), show vp_nar .boolean 1 = 1 from by decide, ui_row (by decide), a35, pk_gdn (by omega) (by decide), pk_let, nI_clamp (by omega), X1.2.2.2.1, nI_1]
  refine kn _ ((X1.ub (by decide)).ub (by decide)) (by rw [ui_row (by decide), ui_row (by decide)]; exact a35) (by rw [ui_row (by decide), ui_row (by decide)]; exact a19) ?_ ?_ (((lM.u94 (by omega)).tr (lM.ub (by omega) (by omega)) (Nat.le_refl b) (Nat.le_refl c)).tr (lM.ub (by omega) (by omega)) (Nat.le_refl b) (Nat.le_refl c))
  · rw [ui_row (by decide), ui_same]; exact upd_at
  · rw [ui_same]; exact upd_at
theorem LF_if4 {i : Nat} (hF : tkF z) (hk : kK z p = 140) (hp4 : ¬ p < 400) (hi : i < 4) : LwF z sd i p 2 p := by
  intro N n k b0 b c S hN hS hk7 hb0 _ hn
  obtain ⟨hX, h35, h19, hs, hb1, hb2⟩ := hS
  have hp := hX.2.2.2.2.1
  have hm := hF.2.1
  obtain ⟨n, rfl⟩ : ∃ m, n = m + 1 + 1 := ⟨n - 2, by omega⟩
  have f2 := flS_flt (S := S) (f := 2) (x := 2) (Or.inr rfl) rfl hp
  rw [tlL_eq, if_pos hX.2.2.1, is_ok hX.2.2.1 hX.1 hF hX.2.2.2.2.2.2.2.2 hp 140 rfl (x := 32) rfl, bd_some, if_pos hk, if_neg (by decide), if_neg (show ¬ nI i = 4 from fun e => by rw [show (4 : Int32) = nI 4 from rfl, nI_eq (by omega) (by decide)] at e; omega)]
  unfold tlI
  have a35 : (flS S 2 (nI (kP z p))).1 94 35 = nI b := by unfold flS; rw [ui_get, if_pos rfl, if_neg (by decide), ui_get, if_pos rfl, if_neg (by decide)]; exact h35
  rw [if_pos (by rw [hX.2.2.1]; decide), goesOn_2 hX.2.2.1 hX.1 hF hX.2.2.2.2.2.2.2.2 hp hp4, bd_some, a35, pk_gdn (by omega) (by decide), pk_let, nI_clamp (by omega), ui_row (by decide), a35, pk_gdn (by omega) (by decide), pk_let, nI_clamp (by omega)]
  generalize hg : rx_ui (rx_ui (flS S 2 (nI (kP z p))) 116 b (vp_nar .boolean 1)) 117 b ((flS S 2 (nI (kP z p))).1 94 41) = S2
  have l2 : lM sd k b c S S2 := by rw [← hg]; exact (lM.fl.tr (lM.ub (by omega) (by omega)) (Nat.le_refl b) (Nat.le_refl c)).tr (lM.ub (by omega) (by omega)) (Nat.le_refl b) (Nat.le_refl c)
  have f3 : flt z 2 p S2 := by rw [← hg]; exact f2.eq (by rw [ui_row (by decide), ui_row (by decide)]) (by rw [ui_row (by decide), ui_row (by decide)])
  have c35 : S2.1 94 35 = nI b := by rw [← hg, ui_row (by decide), ui_row (by decide)]; exact a35
  rw [ex_f hN f3, bd_some]
  exact pk_mono (tlM_f (k := k) (c := c) (f3.ui (by decide) (by decide)) (by rw [ui_get, if_pos rfl, if_neg (by decide)]; exact c35) hb1 (by omega) hs) (fun _ S' g => ⟨g.1, (l2.tr (lM.u94 (by omega)) (Nat.le_refl b) (Nat.le_refl c)).tr g.2 (Nat.le_refl b) (Nat.le_refl c)⟩)
end LWN
