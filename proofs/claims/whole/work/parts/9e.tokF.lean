/-! ===== READ 31: the reference's cut ===== -/
def tkwM (b : Nat → Nat) (len j : Nat) (S : rx_S) : Prop := S.1 97 j = nI (kM (tkd b len (tpl b len j))) ∧ S.1 98 j = nI (tpl b len j) ∧ (tkd b len (tpl b len j) = 3 → S.1 99 j = nI (nuD b (tpl b len j) (tln b len (tpl b len j)))) ∧ (tkd b len (tpl b len j) = 2 → S.2 100 j = Int64.ofNat (en 27 (wdg b (tpl b len j)) (tln b len (tpl b len j))))
def ctM (S S' : rx_S) : Prop := (∀ r, r ≠ 94 → r ≠ 97 → r ≠ 98 → r ≠ 99 → S'.1 r = S.1 r) ∧ (∀ j, j ≠ 10 → S'.1 94 j = S.1 94 j) ∧ (∀ r, r ≠ 100 → S'.2 r = S.2 r)
theorem ctM.rf {S : rx_S} : ctM S S := ⟨fun _ _ _ _ _ => rfl, fun _ _ => rfl, fun _ _ => rfl⟩
theorem ctM.tr {S S' S'' : rx_S} (h : ctM S S') (g : ctM S' S'') : ctM S S'' := ⟨fun r a c d e => (g.1 r a c d e).trans (h.1 r a c d e), fun j a => (g.2.1 j a).trans (h.2.1 j a), fun r a => (g.2.2 r a).trans (h.2.2 r a)⟩
section TOKF
variable {N len i j : Nat} {b : Nat → Nat} {S : rx_S}
theorem inM.eq {S S' : rx_S} (h : inM len b S) (g : ctM S S') : inM len b S' := ⟨h.1, (g.2.1 4 (by decide)).trans h.2.1, fun j hj => by rw [g.1 96 (by decide) (by decide) (by decide) (by decide)]; exact h.2.2 j hj⟩
def tkS (S : rx_S) (j : Nat) (x y w : Int32) (v : Int64) : rx_S := rx_ui (rx_uj (rx_ui (rx_ui (rx_ui S 97 j x) 98 j y) 99 j w) 100 j v) 94 10 (nI (j + 1))
theorem token_ok {x y w : Int32} {v : Int64} (h : S.1 94 10 = nI j) (hj : j < 403) : f_X11_token x y w v S = some ((), tkS S j x y w v) := by
  have g : ∀ {β : Type} (A : Option β), rx_gd (nI j) 403 A = A := fun A => rx_gd_in (vp_in_nI hj (by decide))
  have e1 : (rx_ui S 97 j x).1 94 10 = nI j := by rw [ui_row (by decide)]; exact h
  have e2 : (rx_ui (rx_ui S 97 j x) 98 j y).1 94 10 = nI j := by rw [ui_row (by decide)]; exact e1
  have e3 : (rx_ui (rx_ui (rx_ui S 97 j x) 98 j y) 99 j w).1 94 10 = nI j := by rw [ui_row (by decide)]; exact e2
  have e4 : (rx_uj (rx_ui (rx_ui (rx_ui S 97 j x) 98 j y) 99 j w) 100 j v).1 94 10 = nI j := e3
  unfold f_X11_token tkS
  simp only [rx_let]
  rw [h, g, nI_clamp (by omega), e1, g, nI_clamp (by omega), e2, g, nI_clamp (by omega), e3, g, nI_clamp (by omega), e4, nI_1]
theorem tkS_F {x y w : Int32} {v : Int64} : ctM S (tkS S j x y w v) := by
  unfold tkS
  refine ⟨fun r q1 q2 q3 q4 => ?_, fun k hk => ?_, fun r hr => ?_⟩
  · rw [ui_row q1]
    show (rx_ui (rx_ui (rx_ui S 97 j x) 98 j y) 99 j w).1 r = _
    rw [ui_row q4, ui_row q3, ui_row q2]
  · rw [ui_get, if_pos rfl, if_neg hk]
    show (rx_ui (rx_ui (rx_ui S 97 j x) 98 j y) 99 j w).1 94 k = _
    rw [ui_row (by decide), ui_row (by decide), ui_row (by decide)]
  · show (rx_uj (rx_ui (rx_ui (rx_ui S 97 j x) 98 j y) 99 j w) 100 j v).2 r = _
    rw [uj_L hr]
    rfl
theorem tkS_r {x y w : Int32} {v : Int64} : (tkS S j x y w v).1 97 = upd (S.1 97) j x ∧ (tkS S j x y w v).1 98 = upd (S.1 98) j y ∧ (tkS S j x y w v).1 99 = upd (S.1 99) j w ∧ (tkS S j x y w v).2 100 = vp_updL (S.2 100) j v ∧ (tkS S j x y w v).1 94 10 = nI (j + 1) := by
  unfold tkS
  refine ⟨?_, ?_, ?_, ?_, ?_⟩
  · rw [ui_row (by decide)]
    show (rx_ui (rx_ui (rx_ui S 97 j x) 98 j y) 99 j w).1 97 = _
    rw [ui_row (by decide), ui_row (by decide), ui_same]
  · rw [ui_row (by decide)]
    show (rx_ui (rx_ui (rx_ui S 97 j x) 98 j y) 99 j w).1 98 = _
    rw [ui_row (by decide), ui_same, ui_row (by decide)]
  · rw [ui_row (by decide)]
    show (rx_ui (rx_ui (rx_ui S 97 j x) 98 j y) 99 j w).1 99 = _
    rw [ui_same, ui_row (by decide), ui_row (by decide)]
  · show (rx_uj (rx_ui (rx_ui (rx_ui S 97 j x) 98 j y) 99 j w) 100 j v).2 100 = _
    rw [uj_at]
    rfl
  · rw [ui_get, if_pos rfl, if_pos rfl]
/-- a token, written -/
theorem tkS_w {x w : Int32} {v : Int64} (hw : ∀ k, k < j → tkwM b len k S) (hx : x = nI (kM (tkd b len (tpl b len j)))) (h3 : tkd b len (tpl b len j) = 3 → w = nI (nuD b (tpl b len j) (tln b len (tpl b len j)))) (h2 : tkd b len (tpl b len j) = 2 → v = Int64.ofNat (en 27 (wdg b (tpl b len j)) (tln b len (tpl b len j)))) : ∀ k, k < j + 1 → tkwM b len k (tkS S j x (nI (tpl b len j)) w v) := by
  intro k hk
  obtain ⟨r1, r2, r3, r4, -⟩ := tkS_r (S := S) (j := j) (x := x) (y := nI (tpl b len j)) (w := w) (v := v)
  unfold tkwM
  rw [r1, r2, r3, r4]
  by_cases e : k = j
  · subst e
    rw [upd_at, upd_at, upd_at, updL_at]
    exact ⟨hx, rfl, h3, h2⟩
  · rw [upd_ne e, upd_ne e, upd_ne e, updL_ne e]
    exact hw k (by omega)
theorem q_0 : qLe 0 = false ∧ qDi 0 = false := by decide
theorem ck85_L (h : inM len b S) {n : Nat} (hn : i + n ≤ len) (hq : ∀ k, i ≤ k → k < i + n → qLe (b k) = true) (he : i + n < len → qLe (b (i + n)) = false) {K : Int32 → Int32 → Int64 → rx_S → Option (Unit × rx_S)} : ∀ m f k, k + m = n → m < f → f_X11_cut_L85 N K f (nI i) (nI k) (Int64.ofNat (en 27 (wdg b i) (min k 8))) S = K (nI i) (nI n) (Int64.ofNat (en 27 (wdg b i) (min n 8))) S := by
  intro m
  have hl := h.1
  induction m with
  | zero =>
    intro f k hk hf
    obtain ⟨f, rfl⟩ : ∃ q, f = q + 1 := ⟨f - 1, by omega⟩
    have e : k = n := by omega
    subst e
    have hb : (if i + k < len then b (i + k) else 0) < 256 ∧ qLe (if i + k < len then b (i + k) else 0) = false := by
      split
      · rename_i q
        exact ⟨(h.2.2 _ q).1, he q⟩
      · exact ⟨by decide, q_0.1⟩
    rw [f_X11_cut_L85, nI_add, byM h (by omega), bd_some, leM hb.1, bd_some, if_pos (by rw [hb.2]; rfl)]
  | succ m ih =>
    intro f k hk hf
    obtain ⟨f, rfl⟩ : ∃ q, f = q + 1 := ⟨f - 1, by omega⟩
    have hi : i + k < len := by omega
    have h1 := (h.2.2 (i + k) hi).1
    have q1 := hq (i + k) (by omega) (by omega)
    have hd := le_dec _ h1 q1
    rw [f_X11_cut_L85, nI_add, byM h (by omega), bd_some, if_pos hi, leM h1, bd_some, if_pos q1, if_neg (by decide)]
    simp only [rx_let, nI_1]
    by_cases k8 : 8 ≤ k
    · rw [if_pos (show (8 : Int32) ≤ nI k from nI_le (a := 8) k8 (by omega))]
      have := ih f (k + 1) (by omega) (by omega)
      rw [show min (k + 1) 8 = min k 8 by omega] at this
      exact this
    · rw [if_neg (show ¬ (8 : Int32) ≤ nI k from nI_ge (b := 8) (by omega) (by decide)), byM h (by omega), bd_some, if_pos hi]
      unfold f_X11_appends
      rw [if_neg hd.2.2.1, bd_some, hd.2.1, l_nI (by omega), show (27 : Int64) = Int64.ofNat 27 from rfl, l_mul, l_add]
      have := ih f (k + 1) (by omega) (by omega)
      rw [show min (k + 1) 8 = k + 1 by omega, en] at this
      rw [show min k 8 = k by omega]
      exact this
theorem ck208_L (h : inM len b S) {n : Nat} (hn : i + n ≤ len) (hq : ∀ k, i ≤ k → k < i + n → qDi (b k) = true) (he : i + n < len → qDi (b (i + n)) = false) {K : Int32 → Int32 → Int32 → rx_S → Option (Unit × rx_S)} : ∀ m f k, k + m = n → m < f → f_X11_cut_L208 N K f (nI i) (nI k) (nI (nuD b i (min k 4))) S = K (nI i) (nI n) (nI (nuD b i (min n 4))) S := by
  intro m
  have hl := h.1
  induction m with
  | zero =>
    intro f k hk hf
    obtain ⟨f, rfl⟩ : ∃ q, f = q + 1 := ⟨f - 1, by omega⟩
    have e : k = n := by omega
    subst e
    have hb : (if i + k < len then b (i + k) else 0) < 256 ∧ qDi (if i + k < len then b (i + k) else 0) = false := by
      split
      · rename_i q
        exact ⟨(h.2.2 _ q).1, he q⟩
      · exact ⟨by decide, q_0.2⟩
    rw [f_X11_cut_L208, nI_add, byM h (by omega), bd_some, diM hb.1, bd_some, if_pos (by rw [hb.2]; rfl)]
  | succ m ih =>
    intro f k hk hf
    obtain ⟨f, rfl⟩ : ∃ q, f = q + 1 := ⟨f - 1, by omega⟩
    have hi : i + k < len := by omega
    have h1 := (h.2.2 (i + k) hi).1
    have q1 := hq (i + k) (by omega) (by omega)
    have hd := di_dec _ h1 q1
    rw [f_X11_cut_L208, nI_add, byM h (by omega), bd_some, if_pos hi, diM h1, bd_some, if_pos q1, if_neg (by decide)]
    simp only [rx_let, nI_1]
    by_cases k4 : 4 ≤ k
    · rw [if_pos (show (4 : Int32) ≤ nI k from nI_le (a := 4) k4 (by omega))]
      have := ih f (k + 1) (by omega) (by omega)
      rw [show min (k + 1) 4 = min k 4 by omega] at this
      exact this
    · rw [if_neg (show ¬ (4 : Int32) ≤ nI k from nI_ge (b := 4) (by omega) (by decide)), byM h (by omega), bd_some, if_pos hi]
      have e10 : (10 : Int32) * nI (nuD b i (min k 4)) = nI (10 * nuD b i (min k 4)) := nI_mul 10 _
      have e48 : nI (10 * nuD b i (min k 4) + b (i + k)) - 48 = nI (10 * nuD b i (min k 4) + (b (i + k) - 48)) := by
        have := nI_sub (a := 10 * nuD b i (min k 4) + b (i + k)) (b := 48) (by omega)
        rw [show 10 * nuD b i (min k 4) + b (i + k) - 48 = 10 * nuD b i (min k 4) + (b (i + k) - 48) by omega] at this
        exact this
      have := ih f (k + 1) (by omega) (by omega)
      rw [show min (k + 1) 4 = k + 1 by omega, nuD] at this
      rw [e10, nI_add, e48, show min k 4 = k by omega]
      exact this
theorem sign_ok {c : Nat} {d : Int32} (hc : c < 256) (h : S.1 94 10 = nI j) (hj : j < 403) : f_X11_sign (nI i) (nI c) d S = some (1, tkS S j (nI (kM (if sgn c = true then c else 1))) (nI i) 0 0) := by
  have ne : ∀ k : Nat, k < 1000 → (nI c = nI k ↔ c = k) := fun k hk => nI_eq (by omega) (by omega)
  have T : ∀ x : Int32, rx_bd (f_X11_token x (nI i) 0 (0 : Int64) S) (fun x29 S28 => some ((1 : Int32), S28)) = some (1, tkS S j x (nI i) 0 0) := fun x => by rw [token_ok h hj, bd_some]
  unfold f_X11_sign
  simp only [rx_let]
  simp only [T]
  by_cases e1 : c = 59
  · subst e1; rfl
  by_cases e2 : c = 61
  · subst e2; rfl
  by_cases e3 : c = 40
  · subst e3; rfl
  by_cases e4 : c = 41
  · subst e4; rfl
  by_cases e5 : c = 43
  · subst e5; rfl
  by_cases e6 : c = 45
  · subst e6; rfl
  by_cases e7 : c = 42
  · subst e7; rfl
  by_cases e8 : c = 47
  · subst e8; rfl
  by_cases e9 : c = 60
  · subst e9; rfl
  have hs : ¬ sgn c = true := by
    unfold sgn
    simp only [Bool.or_eq_true, beq_iff_eq]
    omega
  rw [if_neg (show ¬ nI c = 59 from fun e => e1 ((ne 59 (by decide)).mp e)), if_neg (show ¬ nI c = 61 from fun e => e2 ((ne 61 (by decide)).mp e)), if_neg (show ¬ nI c = 40 from fun e => e3 ((ne 40 (by decide)).mp e)), if_neg (show ¬ nI c = 41 from fun e => e4 ((ne 41 (by decide)).mp e)), if_neg (show ¬ nI c = 43 from fun e => e5 ((ne 43 (by decide)).mp e)), if_neg (show ¬ nI c = 45 from fun e => e6 ((ne 45 (by decide)).mp e)), if_neg (show ¬ nI c = 42 from fun e => e7 ((ne 42 (by decide)).mp e)), if_neg (show ¬ nI c = 47 from fun e => e8 ((ne 47 (by decide)).mp e)), if_neg (show ¬ nI c = 60 from fun e => e9 ((ne 60 (by decide)).mp e)), if_neg hs]
  rfl
end TOKF
