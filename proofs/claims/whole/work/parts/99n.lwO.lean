/-! ===== READ 14: an if of the reference ===== -/
section LWO
variable {N : Nat} {S : rx_S} {z : tks} {p sd k b c : Nat}
theorem if_b {n q c1 : Nat} {x y w : Int32} {Q : Unit → rx_S → Prop} (hF : tkF z) (hs : sd < 2) (hX : XB z (420 * sd) q c1 S) (h35 : S.1 94 35 = nI b) (hb1 : 130 * sd ≤ b) (hb2 : b < 130 * sd + 120) (hq : kK z q = 60 ∧ q < 400) (kn : ∀ S5, XB z (420 * sd) (q + 1) c1 S5 → S5.1 118 b = nI c1 → (∀ r, r ≠ 94 → r ≠ 118 → S5.1 r = S.1 r) → (∀ j, j ≠ 11 → S5.1 94 j = S.1 94 j) → lM sd k b c1 S S5 → pk (rx_bd (f_X11_expression N S5) (fun x71 S70 => tlJ N n x y w S70)) Q) : pk (tlM N n x y w S) Q := by
  obtain ⟨m1, m2, m3⟩ := must_XB hF hX 60 rfl (x := 13) rfl (by decide) hq
  have a35 : (rx_ui S 94 11 (nI (q + 1))).1 94 35 = nI b := by rw [ui_get, if_pos rfl, if_neg (by decide)]; exact h35
  have a13 : (rx_ui (rx_ui S 94 11 (nI (q + 1))) 118 b (nI c1)).1 94 13 = 0 := by rw [ui_row (by decide)]; exact m3.2.2.1
  unfold tlM
  rw [m1, bd_some, a35, pk_gdn (by omega) (by decide), pk_let, nI_clamp (by omega), m3.2.2.2.1]
  unfold tlQ
  rw [if_pos a13]
  exact kn _ (m3.ub (by decide)) (by rw [ui_same]; exact upd_at) (fun r q1 q2 => by rw [ui_row q2, ui_row q1]) (fun j hj => by rw [ui_row (by decide), ui_get, if_pos rfl, if_neg hj]) ((lM.u94 (by omega)).tr (lM.ub (by omega) (by omega)) (Nat.le_refl b) (Nat.le_refl c1))
theorem LwX_if {i q1 q2 q3 q : Nat} {l r u t : List It} {bs : List Br} (hF : tkF z) (hs : sd < 2) (hk : kK z p = 140 ∧ p < 400) (hi : i < 4) (x1 : Ex 15 l) (x2 : Ex 15 r) (x3 : Ex 15 u) (r1 : RX z (420 * sd) 2 0 (p + 1) q1 l) (o1 : ¬ isop (kK z q1)) (k1 : kK z q1 = 60 ∧ q1 < 400) (r2 : RX z (420 * sd) 2 0 (q1 + 1) q2 r) (o2 : ¬ isop (kK z q2)) (k2 : kK z q2 = 141 ∧ q2 < 400) (r3 : RX z (420 * sd) 2 0 (q2 + 1) q3 u) (o3 : ¬ isop (kK z q3)) (k3 : kK z q3 = 142 ∧ q3 < 400) (rest : LwX z sd (i + 1) (q3 + 1) q bs t) : LwX z sd i p q ((l, r, u) :: bs) t := by
  have d1 := r1.1.1
  have d2 := r2.1.1
  have d3 := r3.1.1
  have d4 := rest.1.1
  refine ⟨⟨by omega, rest.1.2⟩, fun N n k b0 b c S hN hS hk7 hb0 hi4 hn => ?_⟩
  obtain ⟨n, rfl⟩ : ∃ m, n = m + 1 := ⟨n - 1, by omega⟩
  have hb1 := hS.2.2.2.2.1
  have hb2 := hS.2.2.2.2.2
  have hm := hF.2.1
  have hp := hS.1.2.2.2.2.1
  refine if_a (k := k) hF hS hk hi (fun S2 X2 p35 p19 p116 p117 pl => ?_)
  refine pk_bdm (ex_ok hN hF X2 r1 o1) (fun _ S3 g => ?_)
  obtain ⟨X3, sg3, e3⟩ := g
  have er3 : ∀ j, j ≠ 94 → j ≠ 121 → j ≠ 122 → j ≠ 123 → S3.1 j = S2.1 j := e3.1
  have f3 : ∀ j, j ≠ 11 → j ≠ 12 → j ≠ 13 → j ≠ 14 → j ≠ 41 → j ≠ 45 → S3.1 94 j = S2.1 94 j := e3.2.1
  refine if_b (k := k) hF hs X3 ((f3 35 (by decide) (by decide) (by decide) (by decide) (by decide) (by decide)).trans p35) hb1 (by omega) k1 (fun S5 X5 p118 er5 f5 l5 => ?_)
  refine pk_bdm (ex_ok hN hF X5 r2 o2) (fun _ S6 g => ?_)
  obtain ⟨X6, sg6, e6⟩ := g
  obtain ⟨m1, m2, m3⟩ := must_XB hF X6 141 rfl (x := 33) rfl (by decide) k2
  unfold tlJ
  rw [m1, bd_some]
  have q35 : (rx_ui S6 94 11 (nI (q2 + 1))).1 94 35 = nI b := by
    rw [ui_get, if_pos rfl, if_neg (by decide), e6.2.1 35 (by decide) (by decide) (by decide) (by decide) (by decide) (by decide), f5 35 (by decide), f3 35 (by decide) (by decide) (by decide) (by decide) (by decide) (by decide)]
    exact p35
  have l7 : lM sd k b c S (rx_ui S6 94 11 (nI (q2 + 1))) := (((pl.tr e3.l (Nat.le_refl b) (Nat.le_refl c)).tr l5 (Nat.le_refl b) (by omega)).tr (e6.l (k := k) (b := b)) (Nat.le_refl b) (by omega)).tr (lM.u94 (by omega)) (Nat.le_refl b) (Nat.le_refl c)
  refine pk_bdm (term_ok (k := k) (b := b) hN hF m3 hs q35 (by omega) r3 o3) (fun _ S8 g => ?_)
  obtain ⟨X8, r35, r119, r120, sg8, l8, er8⟩ := g
  obtain ⟨n1, n2, n3⟩ := must_XB hF X8 142 rfl (x := 34) rfl (by decide) k3
  rw [n1, bd_some]
  have l9 : lM sd k b c S (rx_ui S8 94 11 (nI (q3 + 1))) := (l7.tr l8 (Nat.le_refl b) (by omega)).tr (lM.u94 (by omega)) (Nat.le_refl b) (Nat.le_refl c)
  have e35 : (rx_ui S8 94 11 (nI (q3 + 1))).1 94 35 = nI (b + 1) := by rw [ui_get, if_pos rfl, if_neg (by decide)]; exact r35
  have c8 := X8.2.2.2.2.2.1
  refine pk_mono (rest.2 N n k b0 (b + 1) (c + l.length + r.length + u.length) _ hN ⟨n3, e35, l9.g19.trans hS.2.2.1, hs, by omega, by omega⟩ hk7 hb0 (by omega) (by omega)) (fun _ S' g => ?_)
  obtain ⟨⟨c', hc', h1, hbd⟩, h2, h3, h4, h5⟩ := g
  have hlen : b + ((l, r, u) :: bs).length + 1 = b + 1 + bs.length + 1 := by rw [List.length_cons]; omega
  rw [hlen]
  have cb := hS.1.2.2.2.2.2.2.1
  have keep : ∀ r j, 116 ≤ r → r ≤ 120 → j = b → S'.1 r j = S8.1 r j := fun r j a1 a2 a3 => (h5.2.2.2.1 r j a1 a2 (Or.inl (by omega))).trans (by rw [ui_row (by omega)])
  have keepC : ∀ j, j < c + l.length + r.length + u.length → S'.1 121 j = S8.1 121 j ∧ S'.1 122 j = S8.1 122 j := fun j hj => ⟨(h5.2.2.2.2.1 j (Or.inl hj)).1.trans (by rw [ui_row (by decide)]), (h5.2.2.2.2.1 j (Or.inl hj)).2.trans (by rw [ui_row (by decide)])⟩
  have row : ∀ r, 116 ≤ r → r ≤ 118 → S8.1 r = S6.1 r := fun r a1 a2 => (er8 r a1 a2).trans (ui_row (by omega))
  have row6 : ∀ r, 116 ≤ r → r ≤ 118 → S6.1 r = S5.1 r := fun r a1 a2 => e6.1 r (by omega) (by omega) (by omega) (by omega)
  refine ⟨⟨c', by omega, h1, fun j a1 a2 => ?_⟩, ⟨⟨hb1, by omega, ?_⟩, ⟨c, cb, by omega, ?_, ?_, ?_, ?_, ?_, ?_, ?_, x1, x2, x3⟩, h2⟩, h3, h4, l9.tr h5 (by omega) (by omega)⟩
  · by_cases ej : j = b
    · rw [ej, keep 120 b (by decide) (by decide) rfl, r120, nI_clamp (by omega)]
      omega
    · rw [List.length_cons] at a2
      exact hbd j (by omega) (by omega)
  · rw [keep 116 b (by decide) (by decide) rfl, row 116 (by decide) (by decide), row6 116 (by decide) (by decide), er5 116 (by decide) (by decide), er3 116 (by decide) (by decide) (by decide) (by decide)]
    exact p116
  · rw [keep 117 b (by decide) (by decide) rfl, row 117 (by decide) (by decide), row6 117 (by decide) (by decide), er5 117 (by decide) (by decide), er3 117 (by decide) (by decide) (by decide) (by decide)]
    exact p117
  · rw [keep 118 b (by decide) (by decide) rfl, row 118 (by decide) (by decide), row6 118 (by decide) (by decide)]
    exact p118
  · rw [keep 119 b (by decide) (by decide) rfl]
    exact r119
  · rw [keep 120 b (by decide) (by decide) rfl]
    exact r120
  · refine sgM_eq _ _ sg3 (fun j a1 a2 => ?_)
    have a := l8.2.2.2.2.1 j (Or.inl (by omega))
    have a' := e6.2.2.1 j (Or.inl (by omega))
    refine ⟨(keepC j (by omega)).1.trans (a.1.trans ?_), (keepC j (by omega)).2.trans (a.2.trans ?_)⟩
    · rw [ui_row (by decide), a'.1, er5 121 (by decide) (by decide)]
    · rw [ui_row (by decide), a'.2, er5 122 (by decide) (by decide)]
  · refine sgM_eq _ _ sg6 (fun j a1 a2 => ?_)
    have a := l8.2.2.2.2.1 j (Or.inl (by omega))
    refine ⟨(keepC j (by omega)).1.trans (a.1.trans ?_), (keepC j (by omega)).2.trans (a.2.trans ?_)⟩
    · rw [ui_row (by decide)]
    · rw [ui_row (by decide)]
  · exact sgM_eq _ _ sg8 (fun j a1 a2 => keepC j (by omega))
def ifBad (z : tks) (sd i p f q : Nat) : Prop := RF z (420 * sd) 2 0 (p + 1) f q ∨ ∃ q1 l, (RX z (420 * sd) 2 0 (p + 1) q1 l ∧ ¬ isop (kK z q1)) ∧ ((tkFl z q1 60 f ∧ q = q1) ∨ ((kK z q1 = 60 ∧ q1 < 400) ∧ (RF z (420 * sd) 2 0 (q1 + 1) f q ∨ ∃ q2 r, (RX z (420 * sd) 2 0 (q1 + 1) q2 r ∧ ¬ isop (kK z q2)) ∧ ((tkFl z q2 141 f ∧ q = q2) ∨ ((kK z q2 = 141 ∧ q2 < 400) ∧ (RF z (420 * sd) 2 0 (q2 + 1) f q ∨ ∃ q3 u, (RX z (420 * sd) 2 0 (q2 + 1) q3 u ∧ ¬ isop (kK z q3)) ∧ ((tkFl z q3 142 f ∧ q = q3) ∨ ((kK z q3 = 142 ∧ q3 < 400) ∧ LwF z sd (i + 1) (q3 + 1) f q))))))))
theorem LwF_if {i f q : Nat} (hF : tkF z) (hs : sd < 2) (hk : kK z p = 140 ∧ p < 400) (hi : i < 4) (h : ifBad z sd i p f q) : LwF z sd i p f q := by
  intro N n k b0 b c S hN hS hk7 hb0 hi4 hn
  obtain ⟨n, rfl⟩ : ∃ m, n = m + 1 + 1 := ⟨n - 2, by omega⟩
  have hb1 := hS.2.2.2.2.1
  have hb2 := hS.2.2.2.2.2
  have hm := hF.2.1
  have hp := hS.1.2.2.2.2.1
  refine if_a (k := k) hF hS hk hi (fun S2 X2 p35 p19 p116 p117 pl => ?_)
  rcases h with h | ⟨q1, l, ⟨r1, o1⟩, h⟩
  · refine pk_bdm (ex_fail hN hF X2 h) (fun _ S3 g => ?_)
    exact pk_mono (tlM_f (k := k) (c := c) g.1 ((g.2.2.1 35 (by decide) (by decide) (by decide) (by decide) (by decide) (by decide)).trans p35) hb1 (by omega) hs) (fun _ S' g' => ⟨g'.1, (pl.tr g.2.l (Nat.le_refl b) (Nat.le_refl c)).tr g'.2 (Nat.le_refl b) (Nat.le_refl c)⟩)
  have d1 := r1.1
  refine pk_bdm (ex_ok hN hF X2 r1 o1) (fun _ S3 g => ?_)
  obtain ⟨X3, sg3, e3⟩ := g
  have f3 : ∀ j, j ≠ 11 → j ≠ 12 → j ≠ 13 → j ≠ 14 → j ≠ 41 → j ≠ 45 → S3.1 94 j = S2.1 94 j := e3.2.1
  have p35' : S3.1 94 35 = nI b := (f3 35 (by decide) (by decide) (by decide) (by decide) (by decide) (by decide)).trans p35
  have l3 : lM sd k b c S S3 := pl.tr e3.l (Nat.le_refl b) (Nat.le_refl c)
  rcases h with ⟨hq, rfl⟩ | ⟨k1, h⟩
  · obtain ⟨m1, m2⟩ := must_XF hF X3 60 rfl (x := 13) rfl hq
    unfold tlM
    rw [m1, bd_some]
    refine pk_mono (tlM_f1 (k := k) (c := c) m2 ?_ hb1 (by omega) hs) (fun _ S' g' => ⟨g'.1, (l3.tr lM.fl (Nat.le_refl b) (Nat.le_refl c)).tr g'.2 (Nat.le_refl b) (Nat.le_refl c)⟩)
    unfold flS
    rw [ui_get, if_pos rfl, if_neg (by decide), ui_get, if_pos rfl, if_neg (by decide)]
    exact p35'
  refine if_b (k := k) hF hs X3 p35' hb1 (by omega) k1 (fun S5 X5 p118 er5 f5 l5 => ?_)
  have s35 : S5.1 94 35 = nI b := (f5 35 (by decide)).trans p35'
  have l5' : lM sd k b c S S5 := l3.tr l5 (Nat.le_refl b) (by omega)
  rcases h with h | ⟨q2, r, ⟨r2, o2⟩, h⟩
  · refine pk_bdm (ex_fail hN hF X5 h) (fun _ S6 g => ?_)
    exact pk_mono (tlJ_f (k := k) (c := c) g.1 ((g.2.2.1 35 (by decide) (by decide) (by decide) (by decide) (by decide) (by decide)).trans s35) (by omega) hs) (fun _ S' g' => ⟨g'.1, (l5'.tr g.2.l (Nat.le_refl b) (by omega)).tr g'.2 (Nat.le_refl b) (Nat.le_refl c)⟩)
  have d2 := r2.1
  refine pk_bdm (ex_ok hN hF X5 r2 o2) (fun _ S6 g => ?_)
  obtain ⟨X6, sg6, e6⟩ := g
  have s35' : S6.1 94 35 = nI b := (e6.2.1 35 (by decide) (by decide) (by decide) (by decide) (by decide) (by decide)).trans s35
  have l6 : lM sd k b c S S6 := l5'.tr e6.l (Nat.le_refl b) (by omega)
  unfold tlJ
  have fin : ∀ (f q : Nat) (S7 : rx_S), flt z f q S7 → S7.1 94 35 = nI b → lM sd k b c S S7 → pk (rx_bd (f_X11_term N S7) (fun x64 S63 => rx_bd (f_X11_must 34 S63) (fun x67 S66 => f_X11_tellLaw_L12 N (tlK N) (n + 1) (nI k) (nI b0) (nI (i + 1)) S66))) (fun _ S' => flt z f q S' ∧ lM sd k b c S S') := by
    intro f q S7 h7 b7 l7
    refine pk_bdm (term_f (k := k) (c := c) h7 b7 (by omega) hs) (fun _ S8 g => ?_)
    rw [must_f g.1, bd_some]
    exact pk_mono (tlL_f (k := k) (c := c) g.1 g.2.1 (by omega) hs) (fun _ S' g' => ⟨g'.1, (l7.tr g.2.2 (Nat.le_refl b) (Nat.le_refl c)).tr g'.2 (by omega) (Nat.le_refl c)⟩)
  rcases h with ⟨hq, rfl⟩ | ⟨k2, h⟩
  · obtain ⟨m1, m2⟩ := must_XF hF X6 141 rfl (x := 33) rfl hq
    rw [m1, bd_some]
    refine fin _ _ _ m2 ?_ (l6.tr lM.fl (Nat.le_refl b) (Nat.le_refl c))
    unfold flS
    rw [ui_get, if_pos rfl, if_neg (by decide), ui_get, if_pos rfl, if_neg (by decide)]
    exact s35'
  obtain ⟨m1, m2, m3⟩ := must_XB hF X6 141 rfl (x := 33) rfl (by decide) k2
  rw [m1, bd_some]
  have q35 : (rx_ui S6 94 11 (nI (q2 + 1))).1 94 35 = nI b := by
    rw [ui_get, if_pos rfl, if_neg (by decide)]
    exact s35'
  have l7 : lM sd k b c S (rx_ui S6 94 11 (nI (q2 + 1))) := l6.tr (lM.u94 (by omega)) (Nat.le_refl b) (Nat.le_refl c)
  rcases h with h | ⟨q3, u, ⟨r3, o3⟩, h⟩
  · refine pk_bdm (term_fl (k := k) (b := b) hN hF m3 hs q35 (by omega) h) (fun _ S8 g => ?_)
    rw [must_f g.1, bd_some]
    exact pk_mono (tlL_f (k := k) (c := c) g.1 g.2.1 (by omega) hs) (fun _ S' g' => ⟨g'.1, (l7.tr g.2.2 (Nat.le_refl b) (by omega)).tr g'.2 (by omega) (Nat.le_refl c)⟩)
  have d3 := r3.1
  refine pk_bdm (term_ok (k := k) (b := b) hN hF m3 hs q35 (by omega) r3 o3) (fun _ S8 g => ?_)
  obtain ⟨X8, r35, r119, r120, sg8, l8, er8⟩ := g
  have l8' : lM sd k b c S S8 := l7.tr l8 (Nat.le_refl b) (by omega)
  rcases h with ⟨hq, rfl⟩ | ⟨k3, h⟩
  · obtain ⟨n1, n2⟩ := must_XF hF X8 142 rfl (x := 34) rfl hq
    rw [n1, bd_some]
    refine pk_mono (tlL_f (k := k) (c := c) (b := b + 1) n2 ?_ (by omega) hs) (fun _ S' g' => ⟨g'.1, (l8'.tr lM.fl (Nat.le_refl b) (Nat.le_refl c)).tr g'.2 (by omega) (Nat.le_refl c)⟩)
    unfold flS
    rw [ui_get, if_pos rfl, if_neg (by decide), ui_get, if_pos rfl, if_neg (by decide)]
    exact r35
  obtain ⟨n1, n2, n3⟩ := must_XB hF X8 142 rfl (x := 34) rfl (by decide) k3
  rw [n1, bd_some]
  have l9 : lM sd k b c S (rx_ui S8 94 11 (nI (q3 + 1))) := l8'.tr (lM.u94 (by omega)) (Nat.le_refl b) (Nat.le_refl c)
  have e35 : (rx_ui S8 94 11 (nI (q3 + 1))).1 94 35 = nI (b + 1) := by rw [ui_get, if_pos rfl, if_neg (by decide)]; exact r35
  exact pk_mono (h N (n + 1) k b0 (b + 1) (c + l.length + r.length + u.length) _ hN ⟨n3, e35, l9.g19.trans hS.2.2.1, hs, by omega, by omega⟩ hk7 hb0 (by omega) (by omega)) (fun _ S' g => ⟨g.1, l9.tr g.2 (by omega) (by omega)⟩)
end LWO
