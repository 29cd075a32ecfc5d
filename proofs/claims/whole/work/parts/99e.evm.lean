/-! ===== READ 5: terms and laws, as the reference asks them ===== -/
def sgM (S : rx_S) : Nat → List It → Prop
  | _, [] => True
  | f, i :: w => S.1 121 f = nI i.1 ∧ S.1 122 f = nI i.2 ∧ sgM S (f + 1) w
theorem sgM_app {S : rx_S} : ∀ (u w : List It) (a : Nat), sgM S a (u ++ w) ↔ sgM S a u ∧ sgM S (a + u.length) w := by
  intro u
  induction u with
  | nil => intro w a; exact ⟨fun h => ⟨trivial, h⟩, fun h => h.2⟩
  | cons i u ih =>
    intro w a
    rw [List.cons_append, sgM, sgM, ih, List.length_cons, show a + 1 + u.length = a + (u.length + 1) by omega, and_assoc, and_assoc]
theorem sgM_eq {S S' : rx_S} : ∀ (w : List It) (a : Nat), sgM S a w → (∀ j, a ≤ j → j < a + w.length → S'.1 121 j = S.1 121 j ∧ S'.1 122 j = S.1 122 j) → sgM S' a w := by
  intro w
  induction w with
  | nil => intro a _ _; exact trivial
  | cons i w ih =>
    intro a h e
    rw [List.length_cons] at e
    exact ⟨(e a (Nat.le_refl _) (by omega)).1.trans h.1, (e a (Nat.le_refl _) (by omega)).2.trans h.2.1, ih (a + 1) h.2.2 (fun j h1 h2 => e j (by omega) (by omega))⟩
section EVM
variable {v : Nat → Int32}
def XM (v : Nat → Int32) (h : Nat) (w : List It) : Prop := ∀ (N : Nat) (K1 K2 : rx_S → Option (Int32 × rx_S)) (n f d e : Nat) (S : rx_S) (P : Int32 → rx_S → Prop), (∀ x, x < 9 → S.1 124 x = v x) → sgM S f w → f + w.length ≤ e → e ≤ 840 → d + h ≤ 400 → (∀ S', fK 125 S S' → (∀ j, j < d → S'.1 125 j = S.1 125 j) → (tVal v w = none → pk (K1 S') P) ∧ (∀ x, tVal v w = some x → S'.1 125 d = x → pk (f_X11_termOf_L5 N K1 K2 n (nI e) (nI (d + 1)) (nI (f + w.length)) S') P)) → pk (f_X11_termOf_L5 N K1 K2 (n + w.length) (nI e) (nI d) (nI f) S) P
theorem xm_leaf {h : Nat} {i : It} (hi : tLf i) : XM v (h + 1) [i] := by
  intro N K1 K2 n f d e S P hv hs hf he hd k
  have hf' : f + 1 ≤ e := hf
  have hc := hs.1
  have hc2 := hs.2.1
  show pk (f_X11_termOf_L5 N K1 K2 (n + 1) (nI e) (nI d) (nI f) S) P
  have fin : ∀ x, tVal v [i] = some x → pk (rx_gd (nI d) 400 (rx_let (rx_ui S 125 (Int32.toNatClampNeg (nI d)) x) (fun S51 => rx_let (nI d + 1) (fun x52 => rx_let (nI f + 1) (fun x53 => f_X11_termOf_L5 N K1 K2 n (nI e) x52 x53 S51))))) P := by
    intro x hx
    rw [pk_gdn (by omega) (by decide), pk_let, pk_let, pk_let, nI_1, nI_1, nI_clamp (by omega)]
    exact (k _ fK.ui (fun j hj => by rw [ui_same, upd_ne (by omega)])).2 x hx (by rw [ui_same]; exact upd_at)
  rw [f_X11_termOf_L5, if_neg (nI_ge (by omega) (by omega)), pk_gdn (by omega) (by decide), pk_let, nI_clamp (by omega), hc]
  obtain ⟨q, x⟩ := i
  rcases hi with ⟨e0, hx⟩ | ⟨e0, hx⟩
  · have e0 : q = 0 := e0
    have hx : x < 10000 := hx
    subst e0
    have hc2 : S.1 122 f = nI x := hc2
    rw [if_neg (show ¬ (2 : Int32) ≤ nI 0 from by decide), pk_let, if_pos (show nI 0 = 0 from by decide), pk_gdn (by omega) (by decide), hc2]
    exact fin (nI x) rfl
  · have e0 : q = 1 := e0
    have hx : x < 9 := hx
    subst e0
    have hc2 : S.1 122 f = nI x := hc2
    rw [if_neg (show ¬ (2 : Int32) ≤ nI 1 from by decide), pk_let, if_neg (show ¬ nI 1 = 0 from by decide), pk_gdn (by omega) (by decide), hc2, pk_gdn hx (by decide), nI_clamp (by omega), hv x hx]
    exact fin (v x) rfl
theorem xm_node {h k : Nat} {u w : List It} (h1 : 2 ≤ k) (h2 : k ≤ 5) (eu : Ex (h + 1) u) (ew : Ex h w) (hu : XM v (h + 1) u) (hw : XM v h w) : XM v (h + 1) (u ++ w ++ [(k, 0)]) := by
  intro N K1 K2 n f d e S P hv hs hf he hd kont
  rw [sgM_app, sgM_app] at hs
  obtain ⟨⟨s1, s2⟩, s3⟩ := hs
  have hl : (u ++ w ++ [(k, 0)]).length = u.length + w.length + 1 := by simp only [List.length_append, List.length_cons, List.length_nil]
  have hl2 : (u ++ w).length = u.length + w.length := List.length_append
  have hval := Ex.vl (v := v) h1 eu ew
  rw [hl] at hf kont ⊢
  have hp := ew.pos
  rw [show n + (u.length + w.length + 1) = (n + 1 + w.length) + u.length by omega]
  refine hu N K1 K2 (n + 1 + w.length) f d e S P hv s1 (by omega) he hd (fun S1 f1 g1 => ⟨fun e1 => ?_, fun x e1 hx => ?_⟩)
  · refine (kont S1 f1 g1).1 ?_
    rw [hval, e1]
    rfl
  refine hw N K1 K2 (n + 1) (f + u.length) (d + 1) e S1 P (fun z hz => by rw [f1.1 124 (by omega)]; exact hv z hz) (sgM_eq _ _ s2 (fun j _ _ => ⟨by rw [f1.1 121 (by omega)], by rw [f1.1 122 (by omega)]⟩)) (by omega) he (by omega) (fun S2 f2 g2 => ⟨fun e2 => ?_, fun y e2 hy => ?_⟩)
  · refine (kont S2 (f1.tr f2) (fun j hj => (g2 j (by omega)).trans (g1 j hj))).1 ?_
    rw [hval, e1, e2]
    rfl
  have hx2 : S2.1 125 d = x := (g2 d (by omega)).trans hx
  have hc : S2.1 121 (f + u.length + w.length) = nI k := by
    rw [f2.1 121 (by omega), f1.1 121 (by omega)]
    have := s3.1
    rw [hl2, ← Nat.add_assoc] at this
    exact this
  have fin : ∀ z, nodev k (some x) (some y) = some z → pk (rx_gd (nI d) 400 (rx_let (rx_ui S2 125 (Int32.toNatClampNeg (nI d)) z) (fun S36 => rx_let (nI (f + u.length + w.length) + 1) (fun x37 => f_X11_termOf_L5 N K1 K2 n (nI e) (nI (d + 1)) x37 S36)))) P := by
    intro z hz
    rw [pk_gdn (by omega) (by decide), pk_let, pk_let, nI_1, nI_clamp (by omega)]
    have kn := (kont (rx_ui S2 125 d z) ((f1.tr f2).tr fK.ui) (fun j hj => by rw [ui_same, upd_ne (by omega)]; exact (g2 j (by omega)).trans (g1 j hj))).2 z (by rw [hval, e1, e2]; exact hz) (by rw [ui_same]; exact upd_at)
    rw [show f + (u.length + w.length + 1) = f + u.length + w.length + 1 by omega] at kn
    exact kn
  rw [f_X11_termOf_L5, if_neg (nI_ge (by omega) (by omega)), pk_gdn (by omega) (by decide), pk_let, nI_clamp (by omega), hc]
  have hk : k = 2 ∨ k = 3 ∨ k = 4 ∨ k = 5 := by omega
  rcases hk with rfl | rfl | rfl | rfl
  · rw [if_pos (by decide), pk_let, nI_dec, nI_pred, pk_gdn (by omega) (by decide), pk_let, pk_gdn (by omega) (by decide), pk_let, nI_clamp (by omega), nI_clamp (by omega), hx2, hy, pk_let, if_neg (by decide), pk_let, if_pos (by decide), nI_pred]
    have fz := fin (x + y) rfl
    exact fz
  · rw [if_pos (by decide), pk_let, nI_dec, nI_pred, pk_gdn (by omega) (by decide), pk_let, pk_gdn (by omega) (by decide), pk_let, nI_clamp (by omega), nI_clamp (by omega), hx2, hy, pk_let, if_neg (by decide), pk_let, if_neg (by decide), if_pos (by decide), nI_pred]
    have fz := fin (x - y) rfl
    exact fz
  · rw [if_pos (by decide), pk_let, nI_dec, nI_pred, pk_gdn (by omega) (by decide), pk_let, pk_gdn (by omega) (by decide), pk_let, nI_clamp (by omega), nI_clamp (by omega), hx2, hy, pk_let, if_neg (by decide), pk_let, if_neg (by decide), if_neg (by decide), if_pos (by decide), nI_pred]
    have fz := fin (x * y) rfl
    exact fz
  · rw [if_pos (by decide), pk_let, nI_dec, nI_pred, pk_gdn (by omega) (by decide), pk_let, pk_gdn (by omega) (by decide), pk_let, nI_clamp (by omega), nI_clamp (by omega), hx2, hy, pk_let, if_pos (by decide)]
    by_cases y0 : y = 0
    · rw [if_pos y0]
      refine (kont S2 (f1.tr f2) (fun j hj => (g2 j (by omega)).trans (g1 j hj))).1 ?_
      rw [hval, e1, e2]
      show (if 5 = 5 ∧ y = 0 then none else some (opv 5 x y)) = none
      rw [if_pos ⟨rfl, y0⟩]
    · rw [if_neg y0, pk_let, if_neg (by decide), if_neg (by decide), if_neg (by decide), pk_nz y0, nI_pred]
      have fz := fin (x / y) (by
        show (if 5 = 5 ∧ y = 0 then none else some (opv 5 x y)) = some (x / y)
        rw [if_neg (fun q => y0 q.2)]
        rfl)
      exact fz
theorem Ex.xm {h : Nat} {w : List It} (hw : Ex h w) : XM v h w := (hw (fun h w => Ex h w ∧ XM v h w) (fun h i hi => ⟨Ex.lf hi, xm_leaf hi⟩) (fun h u w k h1 h2 hu hw => ⟨Ex.node h1 h2 hu.1 hw.1, xm_node h1 h2 hu.1 hw.1 hu.2 hw.2⟩)).2
theorem termM {N f : Nat} (hN : 5000 ≤ N) {t : List It} {S : rx_S} (hv : ∀ x, x < 9 → S.1 124 x = v x) (ht : Ex 15 t) (hs : sgM S f t) (hf : f + t.length ≤ 840) : pk (f_X11_termOf N (nI f) (nI (f + t.length)) S) (fun r S' => sM S S' ∧ S'.1 124 = S.1 124 ∧ ((tVal v t = none ∧ r = 0 ∧ S'.1 94 48 = 1) ∨ (∃ x, tVal v t = some x ∧ r = x ∧ S'.1 94 48 = S.1 94 48))) := by
  unfold f_X11_termOf
  rw [pk_let, pk_let]
  obtain ⟨n, rfl⟩ : ∃ q, N = q + 1 + t.length := ⟨N - 1 - t.length, by omega⟩
  refine ht.xm (v := v) _ _ _ (n + 1) f 0 (f + t.length) S _ hv hs (Nat.le_refl _) hf (by decide) (fun S1 f1 _ => ⟨fun e => ?_, fun x e hx => ?_⟩)
  · rw [pk_let, pk_some]
    refine ⟨(sM.f5 f1).tr ⟨fun k j _ _ hk => ?_, rfl⟩, ?_, Or.inl ⟨e, rfl, ?_⟩⟩
    · rw [ui_get]
      by_cases q : k = 94
      · subst q
        rw [if_pos rfl, if_neg (fun z => hk ⟨rfl, z⟩)]
      · rw [if_neg q]
    · rw [ui_row (by decide), f1.1 124 (by decide)]
    · rw [ui_get]; rfl
  · rw [f_X11_termOf_L5, if_pos (nI_le (Nat.le_refl _) (by omega)), pk_some]
    exact ⟨sM.f5 f1, f1.1 124 (by decide), Or.inr ⟨x, e, hx, by rw [f1.1 94 (by decide)]⟩⟩
/-- a told law's branches, in the half sd -/
def lyM (S : rx_S) (sd : Nat) : Nat → List Br → List It → Prop
  | b, [], t => (130 * sd ≤ b ∧ b < 130 * sd + 130 ∧ S.1 116 b = 0) ∧ ∃ f, 420 * sd ≤ f ∧ f + t.length ≤ 420 * sd + 420 ∧ S.1 119 b = nI f ∧ S.1 120 b = nI (f + t.length) ∧ sgM S f t ∧ Ex 15 t
  | b, (l, r, u) :: bs, t => (130 * sd ≤ b ∧ b < 130 * sd + 130 ∧ S.1 116 b = 1) ∧ (∃ f, 420 * sd ≤ f ∧ f + l.length + r.length + u.length ≤ 420 * sd + 420 ∧ S.1 117 b = nI f ∧ S.1 118 b = nI (f + l.length) ∧ S.1 119 b = nI (f + l.length + r.length) ∧ S.1 120 b = nI (f + l.length + r.length + u.length) ∧ sgM S f l ∧ sgM S (f + l.length) r ∧ sgM S (f + l.length + r.length) u ∧ Ex 15 l ∧ Ex 15 r ∧ Ex 15 u) ∧ lyM S sd (b + 1) bs t
theorem lyM.eq {S S' : rx_S} {sd : Nat} (e1 : ∀ k, 116 ≤ k → k ≤ 120 → ∀ j, 130 * sd ≤ j → j < 130 * sd + 130 → S'.1 k j = S.1 k j) (e2 : ∀ k, 121 ≤ k → k ≤ 122 → ∀ j, 420 * sd ≤ j → j < 420 * sd + 420 → S'.1 k j = S.1 k j) : ∀ (bs : List Br) (t : List It) (b : Nat), lyM S sd b bs t → lyM S' sd b bs t := by
  intro bs
  have g : ∀ w a, 420 * sd ≤ a → a + w.length ≤ 420 * sd + 420 → sgM S a w → sgM S' a w := fun w a h1 h2 h => sgM_eq w a h (fun j h3 h4 => ⟨e2 121 (by decide) (by decide) j (by omega) (by omega), e2 122 (by decide) (by decide) j (by omega) (by omega)⟩)
  induction bs with
  | nil =>
    intro t b h
    obtain ⟨⟨h1, h2, h3⟩, f, h4, h5, h6, h7, h8, h9⟩ := h
    exact ⟨⟨h1, h2, (e1 116 (by decide) (by decide) b h1 h2).trans h3⟩, f, h4, h5, (e1 119 (by decide) (by decide) b h1 h2).trans h6, (e1 120 (by decide) (by decide) b h1 h2).trans h7, g _ _ h4 h5 h8, h9⟩
  | cons x bs ih =>
    intro t b h
    obtain ⟨l, r, u⟩ := x
    obtain ⟨⟨h1, h2, h3⟩, ⟨f, h4, h5, a1, a2, a3, a4, a5, a6, a7, a8⟩, h9⟩ := h
    exact ⟨⟨h1, h2, (e1 116 (by decide) (by decide) b h1 h2).trans h3⟩, ⟨f, h4, h5, (e1 117 (by decide) (by decide) b h1 h2).trans a1, (e1 118 (by decide) (by decide) b h1 h2).trans a2, (e1 119 (by decide) (by decide) b h1 h2).trans a3, (e1 120 (by decide) (by decide) b h1 h2).trans a4, g _ _ (by omega) (by omega) a5, g _ _ (by omega) (by omega) a6, g _ _ (by omega) (by omega) a7, a8⟩, ih t (b + 1) h9⟩
def askK (N : Nat) : Int32 → rx_S → Option (Int32 × rx_S) := fun x11 S12 => rx_gd x11 260 (rx_gd x11 260 (rx_bd (f_X11_termOf N (S12.1 119 (Int32.toNatClampNeg x11)) (S12.1 120 (Int32.toNatClampNeg x11)) S12) (fun x16 S15 => if (S15.1 94 48) = 0 then (some (x16, S15)) else (some (0, S15)))))
theorem askK_ok {N f b : Nat} (hN : 5000 ≤ N) {t : List It} {S : rx_S} (hv : ∀ x, x < 9 → S.1 124 x = v x) (h48 : S.1 94 48 = 0) (hb : b < 260) (h1 : S.1 119 b = nI f) (h2 : S.1 120 b = nI (f + t.length)) (ht : Ex 15 t) (hs : sgM S f t) (hf : f + t.length ≤ 840) : pk (askK N (nI b) S) (fun r S' => r = (tVal v t).getD 0 ∧ sM S S' ∧ S'.1 124 = S.1 124) := by
  unfold askK
  rw [pk_gdn hb (by decide), pk_gdn hb (by decide), nI_clamp (by omega), h1, h2]
  refine pk_bdm (termM hN hv ht hs hf) (fun r S1 h => ?_)
  obtain ⟨g1, g2, ⟨e, rfl, g3⟩ | ⟨x, e, rfl, g3⟩⟩ := h
  · rw [g3, if_neg (by decide), pk_some]
    exact ⟨by rw [e]; rfl, g1, g2⟩
  · rw [g3, h48, if_pos rfl, pk_some]
    exact ⟨by rw [e]; rfl, g1, g2⟩
theorem sM.lyM {S S' : rx_S} {sd b : Nat} {bs : List Br} {t : List It} (g : sM S S') (h : lyM S sd b bs t) : lyM S' sd b bs t := lyM.eq (fun k h1 h2 j _ _ => g.1 k j (by omega) (by omega) (by omega)) (fun k h1 h2 j _ _ => g.1 k j (by omega) (by omega) (by omega)) bs t b h
theorem sM.sg {S S' : rx_S} {a : Nat} {w : List It} (g : sM S S') (h : sgM S a w) : sgM S' a w := sgM_eq w a h (fun j _ _ => ⟨g.1 121 j (by omega) (by omega) (by omega), g.1 122 j (by omega) (by omega) (by omega)⟩)
theorem asks_L {N x sd : Nat} (hN : 5000 ≤ N) (hsd : sd < 2) (hx : x < 14) {t : List It} : ∀ (bs : List Br) (n b e : Nat) (S : rx_S), (∀ x, x < 9 → S.1 124 x = v x) → S.1 94 48 = 0 → lyM S sd b bs t → S.1 115 x = nI e → e = b + bs.length + 1 → e ≤ 300 → bs.length < n → pk (f_X11_asks_L40 N (askK N) n (nI x) (nI b) S) (fun r S' => r = evL v bs t ∧ sM S S' ∧ S'.1 124 = S.1 124) := by
  intro bs
  induction bs with
  | nil =>
    intro n b e S hv h48 h he e1 e300 hn
    obtain ⟨n, rfl⟩ : ∃ q, n = q + 1 := ⟨n - 1, by omega⟩
    obtain ⟨⟨h1, h2, h3⟩, f, h4, h5, h6, h7, h8, h9⟩ := h
    have e1 : e = b + 0 + 1 := e1
    rw [f_X11_asks_L40, pk_gdn hx (by decide), nI_clamp (by omega), he, if_neg (nI_ge (by omega) (by omega)), pk_gdn (by omega) (by decide), nI_clamp (by omega), h3, if_pos rfl]
    exact askK_ok hN hv h48 (by omega) h6 h7 h9 h8 (by omega)
  | cons y bs ih =>
    intro n b e S hv h48 h he e1 e300 hn
    obtain ⟨n, rfl⟩ : ∃ q, n = q + 1 := ⟨n - 1, by omega⟩
    obtain ⟨l, r, u⟩ := y
    rw [List.length_cons] at e1 hn
    obtain ⟨⟨h1, h2, h3⟩, ⟨f, h4, h5, a1, a2, a3, a4, a5, a6, a7, a8, a9, a10⟩, h9⟩ := h
    have gb : ∀ (A : Option (Int32 × rx_S)) (P : Int32 → rx_S → Prop), pk (rx_gd (nI b) 260 A) P = pk A P := fun A P => pk_gdn (by omega) (by decide)
    rw [f_X11_asks_L40, pk_gdn hx (by decide), nI_clamp (by omega), he, if_neg (nI_ge (by omega) (by omega)), gb, nI_clamp (by omega), h3, if_neg (by decide), gb, gb, a1, a2]
    refine pk_bdm (termM hN hv a8 a5 (by omega)) (fun x1 S1 g => ?_)
    obtain ⟨g1, g2, g3⟩ := g
    rw [gb, gb, g1.1 118 b (by decide) (by decide) (by omega), g1.1 119 b (by decide) (by decide) (by omega), a2, a3]
    refine pk_bdm (termM hN (v := v) (fun z hz => by rw [g2]; exact hv z hz) a9 (g1.sg a6) (by omega)) (fun x2 S2 q => ?_)
    obtain ⟨q1, q2, q3⟩ := q
    have f12 := g1.tr q1
    have v12 : S2.1 124 = S.1 124 := q2.trans g2
    rcases g3 with ⟨e2, rfl, g3⟩ | ⟨y1, e2, rfl, g3⟩
    · have h1 : S2.1 94 48 = 1 := by
        rcases q3 with ⟨_, _, q3⟩ | ⟨_, _, _, q3⟩
        · exact q3
        · exact q3.trans g3
      rw [h1, if_neg (by decide), pk_some]
      exact ⟨by rw [evL, e2]; rfl, f12, v12⟩
    rcases q3 with ⟨e3, rfl, q3⟩ | ⟨y2, e3, rfl, q3⟩
    · rw [q3, if_neg (by decide), pk_some]
      exact ⟨by rw [evL, e2, e3]; rfl, f12, v12⟩
    have h0 : S2.1 94 48 = 0 := q3.trans (g3.trans h48)
    have hev : evL v ((l, r, u) :: bs) t = if x1 < x2 then (tVal v u).getD 0 else evL v bs t := by rw [evL, e2, e3]; rfl
    rw [h0, if_pos rfl, hev]
    by_cases q : x1 < x2
    · rw [if_pos q, if_pos q]
      refine pk_mono (askK_ok hN (v := v) (fun z hz => by rw [v12]; exact hv z hz) h0 (by omega) ((f12.1 119 b (by decide) (by decide) (by omega)).trans a3) ((f12.1 120 b (by decide) (by decide) (by omega)).trans a4) a10 (f12.sg a7) (by omega)) (fun z S' h => ⟨h.1, f12.tr h.2.1, h.2.2.trans v12⟩)
    · rw [if_neg q, if_neg q, pk_let, nI_1]
      refine pk_mono (ih n (b + 1) e S2 (fun z hz => by rw [v12]; exact hv z hz) h0 (f12.lyM h9) ((f12.1 115 x (by decide) (by decide) (by omega)).trans he) (by omega) e300 (by omega)) (fun z S' h => ⟨h.1, f12.tr h.2.1, h.2.2.trans v12⟩)
theorem askM_ok {N k sd b : Nat} (hN : 5000 ≤ N) (hsd : sd < 2) (hk : k < 7) {bs : List Br} {t : List It} {S : rx_S} {pl : Int32} (hv : ∀ x, x < 9 → S.1 124 x = v x) (h18 : S.1 94 18 = nI sd) (h114 : S.1 114 (7 * sd + k) = nI b) (h115 : S.1 115 (7 * sd + k) = nI (b + bs.length + 1)) (hb : b + bs.length + 1 ≤ 260) (h : lyM S sd b bs t) : pk (f_X11_asks N (nI k) pl S) (fun r S' => r = evL v bs t ∧ sM S S' ∧ S'.1 124 = S.1 124) := by
  have e7 : (7 : Int32) * nI sd = nI (7 * sd) := nI_mul 7 sd
  unfold f_X11_asks
  rw [pk_let, h18, e7, nI_add, pk_gdn (show 7 * sd + k < 14 by omega) (by decide), pk_gdn (show 7 * sd + k < 14 by omega) (by decide), nI_clamp (by omega), h114, h115, if_neg (fun q => by rw [nI_eq (by omega) (by omega)] at q; omega), pk_let, pk_gdn (show 7 * sd + k < 14 by omega) (by decide), pk_let, pk_let, ui_row (by decide), h114]
  have g : sM S (rx_ui S 94 48 0) := ⟨fun k j _ _ hk => by
    rw [ui_get]
    by_cases q : k = 94
    · subst q
      rw [if_pos rfl, if_neg (fun z => hk ⟨rfl, z⟩)]
    · rw [if_neg q], rfl⟩
  refine pk_mono (asks_L hN hsd (show 7 * sd + k < 14 by omega) bs N b (b + bs.length + 1) _ (fun x hx => by rw [ui_row (by decide)]; exact hv x hx) (by rw [ui_get]; rfl) (g.lyM h) (by rw [ui_row (by decide)]; exact h115) rfl (by omega) (by omega)) (fun r S' h => ⟨h.1, g.tr h.2.1, h.2.2.trans (ui_row (by decide))⟩)
end EVM
