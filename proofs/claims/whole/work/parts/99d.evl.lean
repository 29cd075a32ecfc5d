/-! ===== READ 4: terms as lists, how both sides ask them ===== -/
abbrev It : Type := Nat × Nat
abbrev Br : Type := List It × List It × List It
def opv (k : Nat) (a b : Int32) : Int32 := if k = 2 then a + b else if k = 3 then a - b else if k = 4 then a * b else a / b
def tTop (k : Nat) (s : List Int32) : Option (List Int32) := match s with
  | b :: a :: s => if k = 5 ∧ b = 0 then none else some (opv k a b :: s)
  | _ => none
def tSt (v : Nat → Int32) (i : It) (s : List Int32) : Option (List Int32) := if i.1 = 0 then some (nI i.2 :: s) else if i.1 = 1 then some (v i.2 :: s) else tTop i.1 s
def tRun (v : Nat → Int32) : List It → List Int32 → Option (List Int32)
  | [], s => some s
  | i :: w, s => (tSt v i s).bind (tRun v w)
theorem run_app {v : Nat → Int32} : ∀ (w u : List It) (s : List Int32), tRun v (w ++ u) s = (tRun v w s).bind (tRun v u) := by
  intro w
  induction w with
  | nil => intro u s; rfl
  | cons i w ih =>
    intro u s
    rw [List.cons_append, tRun, tRun]
    cases tSt v i s with
    | none => rfl
    | some z => exact ih u z
def tVal (v : Nat → Int32) (w : List It) : Option Int32 := (tRun v w []).bind List.head?
def tLf (i : It) : Prop := (i.1 = 0 ∧ i.2 < 10000) ∨ (i.1 = 1 ∧ i.2 < 9)
/-- a term that h places of the stack are enough for -/
def Ex (h : Nat) (w : List It) : Prop := ∀ Q : Nat → List It → Prop, (∀ h i, tLf i → Q (h + 1) [i]) → (∀ h u w k, 2 ≤ k → k ≤ 5 → Q (h + 1) u → Q h w → Q (h + 1) (u ++ w ++ [(k, 0)])) → Q h w
theorem Ex.lf {h : Nat} {i : It} (hi : tLf i) : Ex (h + 1) [i] := fun _ q1 _ => q1 h i hi
theorem Ex.node {h k : Nat} {u w : List It} (h1 : 2 ≤ k) (h2 : k ≤ 5) (hu : Ex (h + 1) u) (hw : Ex h w) : Ex (h + 1) (u ++ w ++ [(k, 0)]) := fun Q q1 q2 => q2 h u w k h1 h2 (hu Q q1 q2) (hw Q q1 q2)
theorem Ex.up {h : Nat} {w : List It} (hw : Ex h w) : ∀ g, Ex (h + g) w := hw (fun h w => ∀ g, Ex (h + g) w) (fun h i hi g => by
  rw [Nat.add_right_comm]
  exact Ex.lf hi) (fun h u w k h1 h2 hu hw g => by
  have a := hu g
  rw [Nat.add_right_comm] at a ⊢
  exact Ex.node h1 h2 a (hw g))
theorem Ex.le {h g : Nat} {w : List It} (hw : Ex h w) (hg : h ≤ g) : Ex g w := by
  have := hw.up (g - h)
  rw [Nat.add_sub_cancel' hg] at this
  exact this
theorem Ex.pos {h : Nat} {w : List It} (hw : Ex h w) : 1 ≤ h := hw (fun h _ => 1 ≤ h) (fun h _ _ => Nat.le_add_left 1 h) (fun h _ _ _ _ _ _ _ => Nat.le_add_left 1 h)
def nodev (k : Nat) (x y : Option Int32) : Option Int32 := x.bind fun a => y.bind fun b => if k = 5 ∧ b = 0 then none else some (opv k a b)
theorem run_node {v : Nat → Int32} {u w : List It} {k : Nat} (h1 : 2 ≤ k) (hu : ∀ s, tRun v u s = (tVal v u).map (fun x => x :: s)) (hw : ∀ s, tRun v w s = (tVal v w).map (fun x => x :: s)) : tVal v (u ++ w ++ [(k, 0)]) = nodev k (tVal v u) (tVal v w) ∧ ∀ s, tRun v (u ++ w ++ [(k, 0)]) s = (nodev k (tVal v u) (tVal v w)).map (fun x => x :: s) := by
  have e : ∀ s, tRun v (u ++ w ++ [(k, 0)]) s = (nodev k (tVal v u) (tVal v w)).map (fun x => x :: s) := by
    intro s
    rw [run_app, run_app, hu s]
    unfold nodev
    cases tVal v u with
    | none => rfl
    | some a =>
      show ((tRun v w (a :: s)).bind (tRun v [(k, 0)])) = _
      rw [hw (a :: s)]
      cases tVal v w with
      | none => rfl
      | some b =>
        show (tSt v (k, 0) (b :: a :: s)).bind (tRun v []) = Option.map (fun x => x :: s) (if k = 5 ∧ b = 0 then none else some (opv k a b))
        have e0 : tSt v (k, 0) (b :: a :: s) = if k = 5 ∧ b = 0 then none else some (opv k a b :: s) := by
          unfold tSt
          rw [if_neg (show ¬ (k, 0).1 = 0 by show ¬ k = 0; omega), if_neg (show ¬ (k, 0).1 = 1 by show ¬ k = 1; omega)]
          rfl
        rw [e0]
        by_cases q : k = 5 ∧ b = 0
        · rw [if_pos q, if_pos q]
          rfl
        · rw [if_neg q, if_neg q]
          rfl
  refine ⟨?_, e⟩
  show (tRun v (u ++ w ++ [(k, 0)]) []).bind List.head? = _
  rw [e []]
  generalize nodev k (tVal v u) (tVal v w) = X
  cases X <;> rfl
theorem Ex.rn {v : Nat → Int32} {h : Nat} {w : List It} (hw : Ex h w) : ∀ s, tRun v w s = (tVal v w).map (fun x => x :: s) := hw (fun _ w => ∀ s, tRun v w s = (tVal v w).map (fun x => x :: s)) (fun _ i hi s => by
  obtain ⟨k, x⟩ := i
  rcases hi with ⟨e, _⟩ | ⟨e, _⟩
  · have e : k = 0 := e
    subst e
    rfl
  · have e : k = 1 := e
    subst e
    rfl) (fun _ u w k h1 _ hu hw s => by
  obtain ⟨a, b⟩ := run_node h1 hu hw
  rw [a]
  exact b s)
theorem Ex.vl {v : Nat → Int32} {h g k : Nat} {u w : List It} (h1 : 2 ≤ k) (hu : Ex h u) (hw : Ex g w) : tVal v (u ++ w ++ [(k, 0)]) = nodev k (tVal v u) (tVal v w) := (run_node h1 hu.rn hw.rn).1
/-! the class's code -/
def cw (i : It) : Int32 := if i.1 = 0 then nI i.2 else if i.1 = 1 then -1 - nI i.2 else -8 - nI i.1
def sgC (C : Nat → Int32) : Nat → List It → Prop
  | _, [] => True
  | a, i :: w => C a = cw i ∧ sgC C (a + 1) w
theorem sgC_app {C : Nat → Int32} : ∀ (u w : List It) (a : Nat), sgC C a (u ++ w) ↔ sgC C a u ∧ sgC C (a + u.length) w := by
  intro u
  induction u with
  | nil => intro w a; exact ⟨fun h => ⟨trivial, h⟩, fun h => h.2⟩
  | cons i u ih =>
    intro w a
    rw [List.cons_append, sgC, sgC, ih, List.length_cons, show a + 1 + u.length = a + (u.length + 1) by omega, and_assoc]
theorem sgC_eq {C D : Nat → Int32} : ∀ (w : List It) (a : Nat), sgC C a w → (∀ j, a ≤ j → j < a + w.length → D j = C j) → sgC D a w := by
  intro w
  induction w with
  | nil => intro a _ _; exact trivial
  | cons i w ih =>
    intro a h e
    rw [List.length_cons] at e
    exact ⟨(e a (Nat.le_refl _) (by omega)).trans h.1, ih (a + 1) h.2 (fun j h1 h2 => e j (by omega) (by omega))⟩
theorem nI_neg {x : Nat} {c : Int32} (hx : x < 2 ^ 31) (hc : c < 0) : ¬ nI x = c ∧ ¬ nI x ≤ c := by
  rw [i_lt] at hc
  have h0 : (0 : Int32).toInt = 0 := rfl
  constructor
  · intro q
    rw [i_inj, nI_toInt hx] at q
    omega
  · intro q
    rw [i_le, nI_toInt hx] at q
    omega
theorem nI_dec (n : Nat) : nI (n + 1) + (-1) = nI n := by rw [← nI_1, Int32.add_assoc, show (1 : Int32) + -1 = 0 from by decide, Int32.add_zero]
section EVC
variable {v : Nat → Int32} {kk : Nat}
def XC (v : Nat → Int32) (kk h : Nat) (w : List It) : Prop := ∀ (N : Nat) (K : Int32 → rx_S → Option (Int32 × rx_S)) (n a d st : Nat) (S : rx_S) (P : Int32 → rx_S → Prop), (∀ x, x < 9 → S.1 (kk + 4) x = v x) → sgC (S.1 (kk + 1)) a w → a + w.length ≤ 420 → d + h ≤ 20 → st ≤ a → (∀ S', fK (kk + 3) S S' → (∀ j, j < d → S'.1 (kk + 3) j = S.1 (kk + 3) j) → (tVal v w = none → P 0 S') ∧ (∀ x, tVal v w = some x → S'.1 (kk + 3) d = x → pk (f_X2_answer_L26 kk N K n (nI (a + w.length)) (nI (d + 1)) (nI (st + w.length)) S') P)) → pk (f_X2_answer_L26 kk N K (n + w.length) (nI a) (nI d) (nI st) S) P
theorem var_dec : ∀ x, x < 9 → ¬ ((-1 : Int32) - nI x = -14) ∧ ¬ ((-1 : Int32) - nI x ≤ -10) ∧ ((-1 : Int32) - nI x < 0) ∧ (-1 : Int32) - (-1 - nI x) = nI x := by decide
theorem xc_leaf {h : Nat} {i : It} (hi : tLf i) : XC v kk (h + 1) [i] := by
  intro N K n a d st S P hv hs ha hd hst k
  have ha' : a + 1 ≤ 420 := ha
  have hc := hs.1
  show pk (f_X2_answer_L26 kk N K (n + 1) (nI a) (nI d) (nI st) S) P
  have fin : ∀ x, tVal v [i] = some x → pk (rx_gd (nI d) 20 (rx_let (rx_ui S (kk + 3) (Int32.toNatClampNeg (nI d)) x) (fun S59 => rx_let (nI d + 1) (fun x60 => rx_let (nI st + 1) (fun x61 => f_X2_answer_L26 kk N K n (nI (a + 1)) x60 x61 S59))))) P := by
    intro x hx
    rw [pk_gdn (by omega) (by decide), pk_let, pk_let, pk_let, nI_1, nI_1, nI_clamp (by omega)]
    exact (k _ fK.ui (fun j hj => by rw [ui_same, upd_ne (by omega)])).2 x hx (by rw [ui_same]; exact upd_at)
  rw [f_X2_answer_L26, if_neg (show ¬ (420 : Int32) ≤ nI st from nI_ge (b := 420) (by omega) (by decide)), if_neg (nI_pos (by omega)), if_neg (show ¬ (420 : Int32) ≤ nI a from nI_ge (b := 420) (by omega) (by decide)), pk_gdn (by omega) (by decide), pk_let, pk_let, nI_clamp (by omega), hc, nI_1 a]
  obtain ⟨q, x⟩ := i
  rcases hi with ⟨e, hx⟩ | ⟨e, hx⟩
  · have e : q = 0 := e
    have hx : x < 10000 := hx
    subst e
    have g := fun c (hc : c < 0) => nI_neg (x := x) (c := c) (by omega) hc
    rw [show cw (0, x) = nI x from rfl, if_neg (g _ (by decide)).1, if_neg (g _ (by decide)).2, if_pos (show nI d < 20 from nI_lt (b := 20) (by omega) (by decide)), pk_let, if_neg (nI_pos (by omega))]
    exact fin (nI x) rfl
  · have e : q = 1 := e
    have hx : x < 9 := hx
    subst e
    obtain ⟨g1, g2, g3, g4⟩ := var_dec x hx
    rw [show cw (1, x) = -1 - nI x from rfl, if_neg g1, if_neg g2, if_pos (show nI d < 20 from nI_lt (b := 20) (by omega) (by decide)), pk_let, if_pos g3, g4, pk_gdn hx (by decide), nI_clamp (by omega), hv x hx]
    exact fin (v x) rfl
theorem xc_node {h k : Nat} {u w : List It} (h1 : 2 ≤ k) (h2 : k ≤ 5) (eu : Ex (h + 1) u) (ew : Ex h w) (hu : XC v kk (h + 1) u) (hw : XC v kk h w) : XC v kk (h + 1) (u ++ w ++ [(k, 0)]) := by
  intro N K n a d st S P hv hs ha hd hst kont
  rw [sgC_app, sgC_app] at hs
  obtain ⟨⟨s1, s2⟩, s3⟩ := hs
  have hl : (u ++ w ++ [(k, 0)]).length = u.length + w.length + 1 := by simp only [List.length_append, List.length_cons, List.length_nil]
  have hl2 : (u ++ w).length = u.length + w.length := List.length_append
  have hval := Ex.vl (v := v) h1 eu ew
  rw [hl] at ha kont ⊢
  have hp := ew.pos
  rw [show n + (u.length + w.length + 1) = (n + 1 + w.length) + u.length by omega]
  refine hu N K (n + 1 + w.length) a d st S P hv s1 (by omega) hd hst (fun S1 f1 g1 => ⟨fun e => ?_, fun x e hx => ?_⟩)
  · refine (kont S1 f1 g1).1 ?_
    rw [hval, e]
    rfl
  refine hw N K (n + 1) (a + u.length) (d + 1) (st + u.length) S1 P (fun z hz => by rw [f1.1 (kk + 4) (by omega)]; exact hv z hz) (by rw [f1.1 (kk + 1) (by omega)]; exact s2) (by omega) (by omega) (by omega) (fun S2 f2 g2 => ⟨fun e2 => ?_, fun y e2 hy => ?_⟩)
  · refine (kont S2 (f1.tr f2) (fun j hj => (g2 j (by omega)).trans (g1 j hj))).1 ?_
    rw [hval, e, e2]
    rfl
  have hx2 : S2.1 (kk + 3) d = x := (g2 d (by omega)).trans hx
  have hc : S2.1 (kk + 1) (a + u.length + w.length) = cw (k, 0) := by
    rw [f2.1 (kk + 1) (by omega), f1.1 (kk + 1) (by omega)]
    have := s3.1
    rw [hl2, ← Nat.add_assoc] at this
    exact this
  have fin : ∀ z, nodev k (some x) (some y) = some z → pk (rx_gd (nI d) 20 (rx_let (rx_ui S2 (kk + 3) (Int32.toNatClampNeg (nI d)) z) (fun S32 => rx_let (nI (st + u.length + w.length) + 1) (fun x33 => f_X2_answer_L26 kk N K n (nI (a + u.length + w.length + 1)) (nI (d + 1)) x33 S32)))) P := by
    intro z hz
    rw [pk_gdn (by omega) (by decide), pk_let, pk_let, nI_1, nI_clamp (by omega)]
    have kn := (kont (rx_ui S2 (kk + 3) d z) ((f1.tr f2).tr fK.ui) (fun j hj => by rw [ui_same, upd_ne (by omega)]; exact (g2 j (by omega)).trans (g1 j hj))).2 z (by rw [hval, e, e2]; exact hz) (by rw [ui_same]; exact upd_at)
    rw [show a + (u.length + w.length + 1) = a + u.length + w.length + 1 by omega, show st + (u.length + w.length + 1) = st + u.length + w.length + 1 by omega] at kn
    exact kn
  rw [f_X2_answer_L26, if_neg (show ¬ (420 : Int32) ≤ nI (st + u.length + w.length) from nI_ge (b := 420) (by omega) (by decide)), if_neg (nI_pos (by omega)), if_neg (show ¬ (420 : Int32) ≤ nI (a + u.length + w.length) from nI_ge (b := 420) (by omega) (by decide)), pk_gdn (by omega) (by decide), pk_let, pk_let, nI_clamp (by omega), hc, nI_1 (a + u.length + w.length)]
  have hk : k = 2 ∨ k = 3 ∨ k = 4 ∨ k = 5 := by omega
  have g20 : (2 : Int32) ≤ nI (d + 1 + 1) := nI_le (a := 2) (by omega) (by omega)
  rcases hk with rfl | rfl | rfl | rfl
  · rw [show cw (2, 0) = -10 from by decide, if_neg (by decide), if_pos (by decide), if_pos g20, pk_let, nI_dec, nI_pred, pk_gdn (by omega) (by decide), pk_let, pk_gdn (by omega) (by decide), pk_let, nI_clamp (by omega), nI_clamp (by omega), hx2, hy, if_neg (by decide), if_neg (by decide), if_neg (by decide), if_pos rfl]
    have fz := fin (x + y) rfl
    rw [nI_clamp (by omega)] at fz
    exact fz
  · rw [show cw (3, 0) = -11 from by decide, if_neg (by decide), if_pos (by decide), if_pos g20, pk_let, nI_dec, nI_pred, pk_gdn (by omega) (by decide), pk_let, pk_gdn (by omega) (by decide), pk_let, nI_clamp (by omega), nI_clamp (by omega), hx2, hy, if_neg (by decide), if_neg (by decide), if_pos rfl]
    have fz := fin (x - y) rfl
    rw [nI_clamp (by omega)] at fz
    exact fz
  · rw [show cw (4, 0) = -12 from by decide, if_neg (by decide), if_pos (by decide), if_pos g20, pk_let, nI_dec, nI_pred, pk_gdn (by omega) (by decide), pk_let, pk_gdn (by omega) (by decide), pk_let, nI_clamp (by omega), nI_clamp (by omega), hx2, hy, if_neg (by decide), if_pos rfl]
    have fz := fin (x * y) rfl
    rw [nI_clamp (by omega)] at fz
    exact fz
  · rw [show cw (5, 0) = -13 from by decide, if_neg (by decide), if_pos (by decide), if_pos g20, pk_let, nI_dec, nI_pred, pk_gdn (by omega) (by decide), pk_let, pk_gdn (by omega) (by decide), pk_let, nI_clamp (by omega), nI_clamp (by omega), hx2, hy, if_pos rfl]
    by_cases y0 : y = 0
    · rw [if_pos y0, pk_some]
      refine (kont S2 (f1.tr f2) (fun j hj => (g2 j (by omega)).trans (g1 j hj))).1 ?_
      rw [hval, e, e2]
      show (if 5 = 5 ∧ y = 0 then none else some (opv 5 x y)) = none
      rw [if_pos ⟨rfl, y0⟩]
    · rw [if_neg y0, pk_nz y0]
      have fz := fin (x / y) (by
        show (if 5 = 5 ∧ y = 0 then none else some (opv 5 x y)) = some (x / y)
        rw [if_neg (fun q => y0 q.2)]
        rfl)
      rw [nI_clamp (by omega)] at fz
      exact fz
theorem Ex.xc {h : Nat} {w : List It} (hw : Ex h w) : XC v kk h w := (hw (fun h w => Ex h w ∧ XC v kk h w) (fun h i hi => ⟨Ex.lf hi, xc_leaf hi⟩) (fun h u w k h1 h2 hu hw => ⟨Ex.node h1 h2 hu.1 hw.1, xc_node h1 h2 hu.1 hw.1 hu.2 hw.2⟩)).2
/-- a law -/
def evL (v : Nat → Int32) : List Br → List It → Int32
  | [], t => (tVal v t).getD 0
  | (l, r, u) :: bs, t => (tVal v l).elim 0 (fun a => (tVal v r).elim 0 (fun b => if a < b then (tVal v u).getD 0 else evL v bs t))
def lyC (C : Nat → Int32) : Nat → List Br → List It → Prop
  | a, [], t => Ex 15 t ∧ sgC C a t ∧ C (a + t.length) = -14 ∧ a + t.length < 420
  | a, (l, r, u) :: bs, t => (Ex 15 l ∧ Ex 15 r ∧ Ex 15 u) ∧ (sgC C a l ∧ sgC C (a + l.length) r ∧ C (a + l.length + r.length) = -100 - nI (a + l.length + r.length + 1 + u.length + 1) ∧ sgC C (a + l.length + r.length + 1) u ∧ C (a + l.length + r.length + 1 + u.length) = -14 ∧ a + l.length + r.length + 1 + u.length + 1 < 420) ∧ lyC C (a + l.length + r.length + 1 + u.length + 1) bs t
theorem lyC.eq {C D : Nat → Int32} : ∀ (bs : List Br) (t : List It) (a z : Nat), lyC C a bs t → (∀ j, j < 420 → D j = C j) → lyC D a bs t := by
  intro bs
  induction bs with
  | nil =>
    intro t a z h e
    obtain ⟨h1, h2, h3, h4⟩ := h
    exact ⟨h1, sgC_eq _ _ h2 (fun j _ _ => e j (by omega)), by rw [e _ h4]; exact h3, h4⟩
  | cons b bs ih =>
    intro t a z h e
    obtain ⟨l, r, u⟩ := b
    obtain ⟨h1, ⟨h2, h3, h4, h5, h6, h7⟩, h8⟩ := h
    exact ⟨h1, ⟨sgC_eq _ _ h2 (fun j _ _ => e j (by omega)), sgC_eq _ _ h3 (fun j _ _ => e j (by omega)), by rw [e _ (by omega)]; exact h4, sgC_eq _ _ h5 (fun j _ _ => e j (by omega)), by rw [e _ (by omega)]; exact h6, h7⟩, ih t _ z h8 e⟩
def ansK (kk : Nat) : Int32 → rx_S → Option (Int32 × rx_S) := fun x5 S6 => if x5 = 1 then (some ((S6.1 (kk + 3) 0), S6)) else (some (0, S6))
theorem stopC {N n a st : Nat} {S : rx_S} {P : Int32 → rx_S → Prop} (ha : a < 420) (hs : st ≤ a) (hc : S.1 (kk + 1) a = -14) (hP : P (S.1 (kk + 3) 0) S) : pk (f_X2_answer_L26 kk N (ansK kk) (n + 1) (nI a) (nI (0 + 1)) (nI st) S) P := by
  rw [f_X2_answer_L26, if_neg (show ¬ (420 : Int32) ≤ nI st from nI_ge (b := 420) (by omega) (by decide)), if_neg (nI_pos (by omega)), if_neg (show ¬ (420 : Int32) ≤ nI a from nI_ge (b := 420) (by omega) (by decide)), pk_gdn (by omega) (by decide), pk_let, pk_let, nI_clamp (by omega), hc, if_pos rfl]
  unfold ansK
  rw [if_pos (by decide), pk_some]
  exact hP
theorem jump_dec {b : Nat} (hb : b < 420) : ¬ ((-100 : Int32) - nI b = -14) ∧ ((-100 : Int32) - nI b ≤ -10) ∧ ¬ ((-100 : Int32) - nI b = -13) ∧ ¬ ((-100 : Int32) - nI b = -12) ∧ ¬ ((-100 : Int32) - nI b = -11) ∧ ¬ ((-100 : Int32) - nI b = -10) ∧ (-100 : Int32) - (-100 - nI b) = nI b := by
  have : ∀ b, b < 420 → ¬ ((-100 : Int32) - nI b = -14) ∧ ((-100 : Int32) - nI b ≤ -10) ∧ ¬ ((-100 : Int32) - nI b = -13) ∧ ¬ ((-100 : Int32) - nI b = -12) ∧ ¬ ((-100 : Int32) - nI b = -11) ∧ ¬ ((-100 : Int32) - nI b = -10) ∧ (-100 : Int32) - (-100 - nI b) = nI b := by decide +kernel
  exact this b hb
theorem termC {N n a st : Nat} {t : List It} {S : rx_S} (hv : ∀ x, x < 9 → S.1 (kk + 4) x = v x) (ht : Ex 15 t) (hs : sgC (S.1 (kk + 1)) a t) (h14 : S.1 (kk + 1) (a + t.length) = -14) (ha : a + t.length < 420) (hst : st ≤ a) (hn : 430 ≤ n + st) : pk (f_X2_answer_L26 kk N (ansK kk) n (nI a) (nI 0) (nI st) S) (fun r S' => r = (tVal v t).getD 0 ∧ fK (kk + 3) S S') := by
  obtain ⟨n', rfl⟩ : ∃ q, n = q + 1 + t.length := ⟨n - 1 - t.length, by omega⟩
  refine ht.xc (v := v) N (ansK kk) (n' + 1) a 0 st S _ hv hs (by omega) (by decide) hst (fun S1 f1 _ => ⟨fun e => ⟨by rw [e]; rfl, f1⟩, fun x e hx => ?_⟩)
  exact stopC (by omega) (by omega) (by rw [f1.1 (kk + 1) (by omega)]; exact h14) ⟨by rw [e, hx]; rfl, f1⟩
theorem lawC_ok {N : Nat} {t : List It} : ∀ (bs : List Br) (n a st : Nat) (S : rx_S), (∀ x, x < 9 → S.1 (kk + 4) x = v x) → lyC (S.1 (kk + 1)) a bs t → st ≤ a → 430 ≤ n + st → pk (f_X2_answer_L26 kk N (ansK kk) n (nI a) (nI 0) (nI st) S) (fun r S' => r = evL v bs t ∧ fK (kk + 3) S S') := by
  intro bs
  induction bs with
  | nil =>
    intro n a st S hv h hst hn
    obtain ⟨h1, h2, h3, h4⟩ := h
    exact termC hv h1 h2 h3 h4 hst hn
  | cons b bs ih =>
    intro n a st S hv h hst hn
    obtain ⟨l, r, u⟩ := b
    obtain ⟨⟨x1, x2, x3⟩, ⟨h2, h3, h4, h5, h6, h7⟩, h8⟩ := h
    obtain ⟨n', rfl⟩ : ∃ q, n = q + 1 + r.length + l.length := ⟨n - 1 - r.length - l.length, by omega⟩
    refine x1.xc (v := v) N (ansK kk) (n' + 1 + r.length) a 0 st S _ hv h2 (by omega) (by decide) hst (fun S1 f1 _ => ⟨fun e => ⟨by rw [evL, e]; rfl, f1⟩, fun x e hx => ?_⟩)
    refine x2.xc (v := v) N (ansK kk) (n' + 1) (a + l.length) (0 + 1) (st + l.length) S1 _ (fun z hz => by rw [f1.1 (kk + 4) (by omega)]; exact hv z hz) (by rw [f1.1 (kk + 1) (by omega)]; exact h3) (by omega) (by decide) (by omega) (fun S2 f2 g2 => ⟨fun e2 => ⟨by rw [evL, e, e2]; rfl, f1.tr f2⟩, fun y e2 hy => ?_⟩)
    have f12 := f1.tr f2
    have hx2 : S2.1 (kk + 3) 0 = x := (g2 0 (by omega)).trans hx
    have hc : S2.1 (kk + 1) (a + l.length + r.length) = -100 - nI (a + l.length + r.length + 1 + u.length + 1) := by
      rw [f12.1 (kk + 1) (by omega)]
      exact h4
    obtain ⟨j1, j2, j3, j4, j5, j6, j7⟩ := jump_dec h7
    rw [f_X2_answer_L26, if_neg (show ¬ (420 : Int32) ≤ nI (st + l.length + r.length) from nI_ge (b := 420) (by omega) (by decide)), if_neg (nI_pos (by omega)), if_neg (show ¬ (420 : Int32) ≤ nI (a + l.length + r.length) from nI_ge (b := 420) (by omega) (by decide)), pk_gdn (by omega) (by decide), pk_let, pk_let, nI_clamp (by omega), hc, nI_1 (a + l.length + r.length), if_neg j1, if_pos j2, if_pos (by decide), pk_let, nI_dec, nI_pred, pk_gdn (by omega) (by decide), pk_let, pk_gdn (by omega) (by decide), pk_let, nI_clamp (by omega), nI_clamp (by omega), hx2, hy, if_neg j3, if_neg j4, if_neg j5, if_neg j6, pk_let, nI_dec, j7]
    have hev : evL v ((l, r, u) :: bs) t = if x < y then (tVal v u).getD 0 else evL v bs t := by rw [evL, e, e2]; rfl
    rw [hev]
    by_cases q : y ≤ x
    · rw [if_pos q, pk_let, pk_let, nI_1, if_neg (i_nlt.mpr q)]
      refine pk_mono (ih n' _ (st + l.length + r.length + 1) S2 (fun z hz => by rw [f12.1 (kk + 4) (by omega)]; exact hv z hz) (by rw [f12.1 (kk + 1) (by omega)]; exact h8) (by omega) (by omega)) (fun z S' h => ⟨h.1, f12.tr h.2⟩)
    · rw [if_neg q, pk_let, nI_1, if_pos (i_nle.mp q)]
      refine pk_mono (termC (v := v) (t := u) (st := st + l.length + r.length + 1) (fun z hz => by rw [f12.1 (kk + 4) (by omega)]; exact hv z hz) x3 (by rw [f12.1 (kk + 1) (by omega)]; exact h5) (by rw [f12.1 (kk + 1) (by omega)]; exact h6) (by omega) (by omega) (by omega)) (fun z S' h => ⟨h.1, f12.tr h.2⟩)
theorem ansC_ok {N : Nat} (hN : 5000 ≤ N) {t : List It} {bs : List Br} {a k : Nat} {S : rx_S} (hv : ∀ x, x < 9 → S.1 (kk + 4) x = v x) (hk : k < 7) (h5 : S.1 (kk + 2) k = nI a) (h : lyC (S.1 (kk + 1)) a bs t) : pk (f_X2_answer kk N (nI k) S) (fun r S' => r = evL v bs t ∧ fK (kk + 3) S S') := by
  unfold f_X2_answer
  rw [pk_let, pk_let, if_neg (nI_pos (by omega)), if_neg (show ¬ (7 : Int32) ≤ nI k from nI_ge (b := 7) hk (by decide)), pk_gdn hk (by decide), nI_clamp (by omega), h5]
  exact lawC_ok bs N a 0 S hv h (by omega) (by omega)
end EVC
