/-! ===== READ 12: a law as the reference reads it ===== -/
def tkFl (z : tks) (p k f : Nat) : Prop := (f = 2 ∧ kK z p = k ∧ ¬ p < 400) ∨ (f = 1 ∧ ¬ kK z p = k)
theorem tk_cases (z : tks) (p k : Nat) : (kK z p = k ∧ p < 400) ∨ ∃ f, tkFl z p k f := by
  by_cases h : kK z p = k
  · by_cases g : p < 400
    · exact Or.inl ⟨h, g⟩
    · exact Or.inr ⟨2, Or.inl ⟨rfl, h, g⟩⟩
  · exact Or.inr ⟨1, Or.inr ⟨rfl, h⟩⟩
theorem tkFl.f {z : tks} {p k f : Nat} (h : tkFl z p k f) : f = 1 ∨ f = 2 := by
  rcases h with ⟨h, _⟩ | ⟨h, _⟩
  · exact Or.inr h
  · exact Or.inl h
section LWM
variable {N : Nat} {S : rx_S} {z : tks} {p : Nat}
theorem must_t (h13 : S.1 94 13 = 0) (h11 : S.1 94 11 = nI p) (hF : tkF z) (ht : tkM z S) (hp : p < kN z) {x : Int32} (c : Nat) (hc : okK c = true) (hx : x = nI (kM c)) (h : kK z p = c ∧ p < 400) : f_X11_must x S = some ((), rx_ui S 94 11 (nI (p + 1))) := by
  unfold f_X11_must
  rw [is_ok h13 h11 hF ht hp c hc hx, bd_some, if_pos h.1, if_neg (by decide), goesOn_n h11 h.2]
  rfl
theorem must_n (h13 : S.1 94 13 = 0) (h11 : S.1 94 11 = nI p) (hF : tkF z) (ht : tkM z S) (hp : p < kN z) {x : Int32} (c : Nat) (hc : okK c = true) (hx : x = nI (kM c)) {f : Nat} (h : tkFl z p c f) : f_X11_must x S = some ((), flS S (nI f) (nI (kP z p))) := by
  unfold f_X11_must
  rw [is_ok h13 h11 hF ht hp c hc hx, bd_some]
  rcases h with ⟨rfl, h1, h2⟩ | ⟨rfl, h1⟩
  · rw [if_pos h1, if_neg (by decide), goesOn_2 h13 h11 hF ht hp h2]
    rfl
  · rw [if_neg h1, if_pos rfl, fail_ok h13 h11 hF ht hp]
    rfl
theorem must_f {f q : Nat} {x : Int32} (h : flt z f q S) : f_X11_must x S = some ((), S) := by
  unfold f_X11_must
  rw [is_f h.pos.2.1, bd_some, if_pos rfl, fail_f h]
  rfl
theorem ex_f {f q : Nat} (hN : 5000 ≤ N) (h : flt z f q S) : f_X11_expression N S = some ((), rx_ui S 94 45 0) := by
  obtain ⟨n, rfl⟩ : ∃ q, N = q + 1 := ⟨N - 1, by omega⟩
  have h2 : ¬ (rx_ui S 94 45 0).1 94 13 = 0 := (h.ui (j := 45) (x := 0) (by decide) (by decide)).pos.2.1
  rw [ex_eq, f_X11_expression_L12, if_neg (by decide), if_neg h2]
/-- the frame of a law -/
def lM (sd k b c : Nat) (S S' : rx_S) : Prop := (∀ r, r ≠ 94 → (r < 114 ∨ 123 < r) → S'.1 r = S.1 r) ∧ (∀ j, j ≠ 11 → j ≠ 12 → j ≠ 13 → j ≠ 14 → j ≠ 35 → j ≠ 41 → j ≠ 45 → S'.1 94 j = S.1 94 j) ∧ (∀ j, j ≠ 7 * sd + k → S'.1 114 j = S.1 114 j ∧ S'.1 115 j = S.1 115 j) ∧ (∀ r j, 116 ≤ r → r ≤ 120 → (j < b ∨ 130 * sd + 130 ≤ j) → S'.1 r j = S.1 r j) ∧ (∀ j, (j < c ∨ 420 * sd + 401 ≤ j) → S'.1 121 j = S.1 121 j ∧ S'.1 122 j = S.1 122 j) ∧ S'.2 = S.2
theorem lM.rf {sd k b c : Nat} : lM sd k b c S S := ⟨fun _ _ _ => rfl, fun _ _ _ _ _ _ _ _ => rfl, fun _ _ => ⟨rfl, rfl⟩, fun _ _ _ _ _ => rfl, fun _ _ => ⟨rfl, rfl⟩, rfl⟩
theorem lM.tr {sd k b c b' c' : Nat} {S S' S'' : rx_S} (h : lM sd k b c S S') (g : lM sd k b' c' S' S'') (hb : b ≤ b') (hc : c ≤ c') : lM sd k b c S S'' := ⟨fun r a1 a2 => (g.1 r a1 a2).trans (h.1 r a1 a2), fun j a1 a2 a3 a4 a5 a6 a7 => (g.2.1 j a1 a2 a3 a4 a5 a6 a7).trans (h.2.1 j a1 a2 a3 a4 a5 a6 a7), fun j a => ⟨(g.2.2.1 j a).1.trans (h.2.2.1 j a).1, (g.2.2.1 j a).2.trans (h.2.2.1 j a).2⟩, fun r j a1 a2 a3 => (g.2.2.2.1 r j a1 a2 (by omega)).trans (h.2.2.2.1 r j a1 a2 a3), fun j a => ⟨(g.2.2.2.2.1 j (by omega)).1.trans (h.2.2.2.2.1 j a).1, (g.2.2.2.2.1 j (by omega)).2.trans (h.2.2.2.2.1 j a).2⟩, g.2.2.2.2.2.trans h.2.2.2.2.2⟩
theorem eM.l {sd k b c : Nat} {S S' : rx_S} (h : eM (420 * sd) c S S') : lM sd k b c S S' := ⟨fun r a1 a2 => h.1 r a1 (by omega) (by omega) (by omega), fun j a1 a2 a3 a4 a5 a6 a7 => h.2.1 j a1 a2 a3 a4 a6 a7, fun j _ => ⟨by rw [h.1 114 (by decide) (by decide) (by decide) (by decide)], by rw [h.1 115 (by decide) (by decide) (by decide) (by decide)]⟩, fun r j a1 a2 _ => by rw [h.1 r (by omega) (by omega) (by omega) (by omega)], h.2.2.1, h.2.2.2⟩
theorem lM.u94 {sd k b c j : Nat} {x : Int32} (hj : j = 11 ∨ j = 12 ∨ j = 13 ∨ j = 14 ∨ j = 35 ∨ j = 41 ∨ j = 45) : lM sd k b c S (rx_ui S 94 j x) := ⟨fun r a _ => ui_row a, fun i _ _ _ _ _ _ _ => by rw [ui_get, if_pos rfl, if_neg (by omega)], fun i _ => ⟨by rw [ui_row (by decide)], by rw [ui_row (by decide)]⟩, fun r i _ _ _ => by rw [ui_row (by omega)], fun i _ => ⟨by rw [ui_row (by decide)], by rw [ui_row (by decide)]⟩, rfl⟩
theorem lM.ub {sd k b c r j : Nat} {x : Int32} (hr : 116 ≤ r ∧ r ≤ 120) (hj : b ≤ j ∧ j < 130 * sd + 130) : lM sd k b c S (rx_ui S r j x) := ⟨fun r a _ => ui_row (by omega), fun i _ _ _ _ _ _ _ => by rw [ui_row (by omega)], fun i _ => ⟨by rw [ui_row (by omega)], by rw [ui_row (by omega)]⟩, fun r' i _ _ _ => by
  rw [ui_get]
  by_cases e : r' = r
  · rw [if_pos e, if_neg (by omega), e]
  · rw [if_neg e], fun i _ => ⟨by rw [ui_row (by omega)], by rw [ui_row (by omega)]⟩, rfl⟩
theorem lM.ul {sd k b c r : Nat} {x : Int32} (hr : r = 114 ∨ r = 115) : lM sd k b c S (rx_ui S r (7 * sd + k) x) := ⟨fun r a _ => ui_row (by omega), fun i _ _ _ _ _ _ _ => by rw [ui_row (by omega)], fun i hi => ⟨by
  rw [ui_get]
  by_cases e : 114 = r
  · rw [if_pos e, if_neg hi, e]
  · rw [if_neg e], by
  rw [ui_get]
  by_cases e : 115 = r
  · rw [if_pos e, if_neg hi, e]
  · rw [if_neg e]⟩, fun r' i _ _ _ => by rw [ui_row (by omega)], fun i _ => ⟨by rw [ui_row (by omega)], by rw [ui_row (by omega)]⟩, rfl⟩
theorem lM.tk {sd k b c : Nat} {S S' : rx_S} (h : lM sd k b c S S') (ht : tkM z S) : tkM z S' := ht.eq (h.1 97 (by decide) (by decide)) (h.1 98 (by decide) (by decide)) (h.1 99 (by decide) (by decide))
def tlK (N : Nat) : Int32 → Int32 → rx_S → Option (Unit × rx_S) := fun x7 x8 S9 => rx_gd (S9.1 94 35) 260 (rx_let (rx_ui S9 116 (Int32.toNatClampNeg (S9.1 94 35)) (vp_nar .boolean 0)) (fun S11 => rx_bd (f_X11_term N S11) (fun x13 S12 => rx_bd (f_X11_must 4 S12) (fun x16 S15 => if (S15.1 94 13) ≤ 0 then (rx_gd (((7 : Int32) * (S15.1 94 19)) + x7) 14 (rx_let (rx_ui S15 114 (Int32.toNatClampNeg (((7 : Int32) * (S15.1 94 19)) + x7)) x8) (fun S20 => rx_gd (((7 : Int32) * (S20.1 94 19)) + x7) 14 (rx_let (rx_ui S20 115 (Int32.toNatClampNeg (((7 : Int32) * (S20.1 94 19)) + x7)) (S20.1 94 35)) (fun S22 => some ((), S22)))))) else (some ((), S15))))))
def tlJ (N n : Nat) (x56 x57 x58 : Int32) (S59 : rx_S) : Option (Unit × rx_S) := rx_bd (f_X11_must 33 S59) (fun x61 S60 => rx_bd (f_X11_term N S60) (fun x64 S63 => rx_bd (f_X11_must 34 S63) (fun x67 S66 => f_X11_tellLaw_L12 N (tlK N) n x56 x57 x58 S66)))
def tlQ (N n : Nat) (x56 x57 x58 : Int32) (S55 : rx_S) : Option (Unit × rx_S) := if (S55.1 94 13) = 0 then (rx_bd (f_X11_expression N S55) (fun x71 S70 => tlJ N n x56 x57 x58 S70)) else (tlJ N n x56 x57 x58 S55)
def tlM (N n : Nat) (x56 x57 x58 : Int32) (S48 : rx_S) : Option (Unit × rx_S) := rx_bd (f_X11_must 13 S48) (fun x52 S51 => rx_gd (S51.1 94 35) 260 (rx_let (rx_ui S51 118 (Int32.toNatClampNeg (S51.1 94 35)) (S51.1 94 41)) (fun S55 => tlQ N n x56 x57 x58 S55)))
def tlI (N n : Nat) (x56 x57 x58 : Int32) (S38 : rx_S) : Option (Unit × rx_S) := if (S38.1 94 13) ≤ 0 then (rx_bd (f_X11_goesOn S38) (fun x42 S41 => rx_gd (S41.1 94 35) 260 (rx_let (rx_ui S41 116 (Int32.toNatClampNeg (S41.1 94 35)) (vp_nar .boolean 1)) (fun S45 => rx_gd (S45.1 94 35) 260 (rx_let (rx_ui S45 117 (Int32.toNatClampNeg (S45.1 94 35)) (S45.1 94 41)) (fun S47 => rx_bd (f_X11_expression N S47) (fun x49 S48 => tlM N n x56 x57 (x58 + 1) S48))))))) else (some ((), S38))
theorem tellLaw_eq {x : Int32} : f_X11_tellLaw N x S = rx_bd (f_X11_must 5 S) (fun x4 S3 => f_X11_tellLaw_L12 N (tlK N) N x (S3.1 94 35) 0 S3) := rfl
theorem tlL_eq {n : Nat} {x y w : Int32} : f_X11_tellLaw_L12 N (tlK N) (n + 1) x y w S = if (S.1 94 13) = 0 then (rx_bd (f_X11_is 32 S) (fun x32 S31 => if x32 = 0 then (tlK N x y S31) else (if w = 4 then (rx_bd (f_X11_fail 2 S31) (fun x75 S74 => tlI N n x y w S74)) else (tlI N n x y w S31)))) else (tlK N x y S) := by
  rw [f_X11_tellLaw_L12]
  rfl
/-- behind a fault -/
theorem term_f {f q b sd k c : Nat} (h : flt z f q S) (hb : S.1 94 35 = nI b) (hb2 : b < 130 * sd + 130) (hs : sd < 2) : pk (f_X11_term N S) (fun _ S' => flt z f q S' ∧ S'.1 94 35 = nI (b + 1) ∧ lM sd k b c S S') := by
  unfold f_X11_term
  have h2 : flt z f q (rx_ui S 119 b (S.1 94 41)) := h.eq (by rw [ui_row (by decide)]) (by rw [ui_row (by decide)])
  have b2 : (rx_ui S 119 b (S.1 94 41)).1 94 35 = nI b := by rw [ui_row (by decide)]; exact hb
  rw [hb, pk_gdn (by omega) (by decide), pk_let, pk_let, nI_clamp (by omega), if_neg h2.pos.2.1]
  dsimp only
  rw [b2, pk_gdn (by omega) (by decide), pk_let, pk_let, nI_clamp (by omega), pk_some]
  have b3 : (rx_ui (rx_ui S 119 b (S.1 94 41)) 120 b ((rx_ui S 119 b (S.1 94 41)).1 94 41)).1 94 35 = nI b := by rw [ui_row (by decide)]; exact b2
  rw [b3, nI_1]
  refine ⟨flt.ui (h2.eq (by rw [ui_row (by decide)]) (by rw [ui_row (by decide)])) (by decide) (by decide), by rw [ui_get, if_pos rfl, if_pos rfl], ((lM.ub (by omega) (by omega)).tr (lM.ub (by omega) (by omega)) (Nat.le_refl b) (Nat.le_refl c)).tr (lM.u94 (by omega)) (Nat.le_refl b) (Nat.le_refl c)⟩
theorem tlK_f {f q b sd k c : Nat} {x y : Int32} (h : flt z f q S) (hb : S.1 94 35 = nI b) (hb2 : b < 130 * sd + 130) (hs : sd < 2) : pk (tlK N x y S) (fun _ S' => flt z f q S' ∧ lM sd k b c S S') := by
  unfold tlK
  have h2 : flt z f q (rx_ui S 116 b (vp_nar .boolean 0)) := h.eq (by rw [ui_row (by decide)]) (by rw [ui_row (by decide)])
  rw [hb, pk_gdn (by omega) (by decide), pk_let, nI_clamp (by omega)]
  refine pk_bdm (term_f (k := k) (c := c) h2 (by rw [ui_row (by decide)]; exact hb) hb2 hs) (fun _ S1 g => ?_)
  rw [must_f g.1, bd_some, if_neg g.1.pos.1, pk_some]
  exact ⟨g.1, (lM.ub (by omega) (by omega)).tr g.2.2 (Nat.le_refl b) (Nat.le_refl c)⟩
theorem tlL_f {f q b sd k c n : Nat} {x y w : Int32} (h : flt z f q S) (hb : S.1 94 35 = nI b) (hb2 : b < 130 * sd + 130) (hs : sd < 2) : pk (f_X11_tellLaw_L12 N (tlK N) (n + 1) x y w S) (fun _ S' => flt z f q S' ∧ lM sd k b c S S') := by
  rw [tlL_eq, if_neg h.pos.2.1]
  exact tlK_f h hb hb2 hs
theorem tlJ_f {f q b sd k c n : Nat} {x y w : Int32} (h : flt z f q S) (hb : S.1 94 35 = nI b) (hb2 : b + 1 < 130 * sd + 130) (hs : sd < 2) : pk (tlJ N (n + 1) x y w S) (fun _ S' => flt z f q S' ∧ lM sd k b c S S') := by
  unfold tlJ
  rw [must_f h, bd_some]
  refine pk_bdm (term_f (k := k) (c := c) h hb (by omega) hs) (fun _ S1 g => ?_)
  rw [must_f g.1, bd_some]
  exact pk_mono (tlL_f (k := k) (c := c) g.1 g.2.1 hb2 hs) (fun _ S' g' => ⟨g'.1, g.2.2.tr g'.2 (by omega) (Nat.le_refl c)⟩)
theorem tlQ_f {f q b sd k c n : Nat} {x y w : Int32} (h : flt z f q S) (hb : S.1 94 35 = nI b) (hb2 : b + 1 < 130 * sd + 130) (hs : sd < 2) : pk (tlQ N (n + 1) x y w S) (fun _ S' => flt z f q S' ∧ lM sd k b c S S') := by
  unfold tlQ
  rw [if_neg h.pos.2.1]
  exact tlJ_f h hb hb2 hs
theorem tlM_f1 {f q b sd k c n : Nat} {x y w : Int32} (h : flt z f q S) (hb : S.1 94 35 = nI b) (hb1 : 130 * sd ≤ b) (hb2 : b + 1 < 130 * sd + 130) (hs : sd < 2) : pk (rx_gd (S.1 94 35) 260 (rx_let (rx_ui S 118 (Int32.toNatClampNeg (S.1 94 35)) (S.1 94 41)) (fun S55 => tlQ N (n + 1) x y w S55))) (fun _ S' => flt z f q S' ∧ lM sd k b c S S') := by
  rw [hb, pk_gdn (by omega) (by decide), pk_let, nI_clamp (by omega)]
  exact pk_mono (tlQ_f (k := k) (c := c) (h.eq (by rw [ui_row (by decide)]) (by rw [ui_row (by decide)])) (by rw [ui_row (by decide)]; exact hb) hb2 hs) (fun _ S' g => ⟨g.1, (lM.ub (by omega) (by omega)).tr g.2 (Nat.le_refl b) (Nat.le_refl c)⟩)
theorem tlM_f {f q b sd k c n : Nat} {x y w : Int32} (h : flt z f q S) (hb : S.1 94 35 = nI b) (hb1 : 130 * sd ≤ b) (hb2 : b + 1 < 130 * sd + 130) (hs : sd < 2) : pk (tlM N (n + 1) x y w S) (fun _ S' => flt z f q S' ∧ lM sd k b c S S') := by
  unfold tlM
  rw [must_f h, bd_some]
  exact tlM_f1 h hb hb1 hb2 hs
end LWM
