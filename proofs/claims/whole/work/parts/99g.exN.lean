/-! ===== READ 7: the reference's expressions, how they go on ===== -/
def exE (N : Nat) : Int32 → rx_S → Option (Unit × rx_S) := fun x4 S5 => rx_let (fun (S6 : rx_S) => rx_bd (f_X11_comesOut N 0 S6) (fun x8 S7 => some ((), S7))) (fun J204_2 => if (S5.1 94 12) ≤ x4 then (J204_2 S5) else (rx_bd (f_X11_fail 1 S5) (fun x12 S11 => J204_2 S11)))
def exO (N n : Nat) (x39 x40 x41 : Int32) (S42 : rx_S) : Option (Unit × rx_S) := rx_bd (f_X11_comesOut N x41 S42) (fun x44 S43 => rx_gd (S43.1 94 11) 403 (rx_gd (S43.1 94 45) 64 (rx_let (rx_ui S43 123 (Int32.toNatClampNeg (S43.1 94 45)) (S43.1 97 (Int32.toNatClampNeg (S43.1 94 11)))) (fun S48 => rx_let (rx_ui S48 94 45 ((S48.1 94 45) + 1)) (fun S49 => rx_bd (f_X11_goesOn S49) (fun x51 S50 => f_X11_expression_L12 N (exE N) n x39 x40 S50))))))
def exJ (N n : Nat) : Int32 → rx_S → Option (Unit × rx_S) := fun x27 S28 => rx_bd (f_X11_is 8 S28) (fun x30 S29 => rx_let (fun (x32 : Int32) (x33 : Int32) (S34 : rx_S) => if x33 = 0 then (exE N x32 S34) else (rx_bd (f_X11_is 10 S34) (fun x37 S36 => rx_let (exO N n) (fun J234_6 => rx_let (fun (x53 : Int32) (x54 : Int32) (S55 : rx_S) => J234_6 x53 x54 1 S55) (fun J229_7 => if x37 = 0 then (rx_bd (f_X11_is 15 S36) (fun x58 S57 => if x58 = 0 then (J234_6 x32 x33 0 S57) else (J229_7 x32 x33 S57))) else (J229_7 x32 x33 S36)))))) (fun J186_5 => rx_let (fun (x61 : Int32) (S62 : rx_S) => J186_5 x61 1 S62) (fun J181_8 => if x30 = 0 then (rx_bd (f_X11_is 9 S29) (fun x65 S64 => if x65 = 0 then (rx_bd (f_X11_is 10 S64) (fun x69 S68 => if x69 = 0 then (rx_bd (f_X11_is 15 S68) (fun x73 S72 => if x73 = 0 then (J186_5 x27 0 S72) else (J181_8 x27 S72))) else (J181_8 x27 S68))) else (J181_8 x27 S64))) else (J181_8 x27 S29))))
def exK (N n : Nat) : Int32 → rx_S → Option (Unit × rx_S) := fun x21 S22 => rx_bd (f_X11_unit S22) (fun x24 S23 => if (S23.1 94 13) ≤ 0 then (f_X11_expression_L96 N (exJ N n) N x21 S23) else (some ((), S23)))
def OM (N n m : Nat) (S : rx_S) : Option (Unit × rx_S) := f_X11_expression_L23 N (exK N n) m (nI 0) S
def AM (N n m : Nat) (S : rx_S) : Option (Unit × rx_S) := f_X11_expression_L96 N (exJ N n) m (nI 0) S
theorem ex_eq {N : Nat} {S : rx_S} : f_X11_expression N S = f_X11_expression_L12 N (exE N) N ((rx_ui S 94 45 0).1 94 12) 1 (rx_ui S 94 45 0) := rfl
theorem L12_n {N n : Nat} {S : rx_S} (h : S.1 94 13 = 0) : f_X11_expression_L12 N (exE N) (n + 1) (nI 0) 1 S = OM N n N S := by
  rw [f_X11_expression_L12, if_neg (by decide), if_pos h]
  rfl
theorem L12_f {N n : Nat} {S : rx_S} (h : ¬ S.1 94 13 = 0) : f_X11_expression_L12 N (exE N) (n + 1) (nI 0) 1 S = some ((), S) := by
  rw [f_X11_expression_L12, if_neg (by decide), if_neg h]
section EXN
variable {N : Nat} {S : rx_S} {z : tks} {p : Nat}
def XS (z : tks) (B d p c : Nat) (s : List Nat) (S : rx_S) : Prop := S.1 94 11 = nI p ∧ S.1 94 12 = nI d ∧ S.1 94 13 = 0 ∧ p < kN z ∧ c + s.length ≤ B + p ∧ tkM z S ∧ XW B c s S
def isop (k : Nat) : Prop := k = 43 ∨ k = 45 ∨ k = 42 ∨ k = 47
theorem exJ_f {n : Nat} {x : Int32} (h : ¬ S.1 94 13 = 0) : exJ N n x S = exE N x S := by
  unfold exJ
  simp only [is_f h, bd_some, rx_let, if_true]
theorem exJ_e {n : Nat} {x : Int32} (hF : tkF z) (h13 : S.1 94 13 = 0) (h11 : S.1 94 11 = nI p) (ht : tkM z S) (hp : p < kN z) (hk : ¬ isop (kK z p)) : exJ N n x S = exE N x S := by
  have i8 := is_ok h13 h11 hF ht hp 43 rfl (x := 8) rfl
  have i9 := is_ok h13 h11 hF ht hp 45 rfl (x := 9) rfl
  have i10 := is_ok h13 h11 hF ht hp 42 rfl (x := 10) rfl
  have i15 := is_ok h13 h11 hF ht hp 47 rfl (x := 15) rfl
  unfold exJ
  unfold isop at hk
  simp only [bd_some, rx_let, i8, i9, i10, i15]
  rw [if_neg (show ¬ kK z p = 43 by omega), if_pos rfl, if_neg (show ¬ kK z p = 45 by omega), if_pos rfl, if_neg (show ¬ kK z p = 42 by omega), if_pos rfl, if_neg (show ¬ kK z p = 47 by omega), if_pos rfl, if_pos rfl]
  exact if_pos trivial
theorem exJ_o {n : Nat} {x : Int32} (hF : tkF z) (h13 : S.1 94 13 = 0) (h11 : S.1 94 11 = nI p) (ht : tkM z S) (hp : p < kN z) (hk : isop (kK z p)) : exJ N n x S = exO N n x 1 (if kK z p = 42 ∨ kK z p = 47 then 1 else 0) S := by
  have i8 := is_ok h13 h11 hF ht hp 43 rfl (x := 8) rfl
  have i9 := is_ok h13 h11 hF ht hp 45 rfl (x := 9) rfl
  unfold exJ
  have i10 := is_ok h13 h11 hF ht hp 42 rfl (x := 10) rfl
  have i15 := is_ok h13 h11 hF ht hp 47 rfl (x := 15) rfl
  simp only [bd_some, rx_let, i8, i9, i10, i15]
  rcases hk with e | e | e | e
  · rw [e]; rfl
  · rw [e]; rfl
  · rw [e]; rfl
  · rw [e]; rfl
theorem exE_n {B c : Nat} {t : List Nat} (hN : 5000 ≤ N) (h12 : S.1 94 12 = nI 0) (h6 : ∀ x, x ∈ t → x ≠ 6) (h : XW B c t S) : pk (exE N (nI 0) S) (fun _ S' => XW B (c + t.length) [] S' ∧ sgM S' c (flL t) ∧ coF B c S S') := by
  unfold exE
  rw [pk_let, if_pos (by rw [h12]; decide), pk_bd]
  have h60 := h.2.2.2.2.2
  refine pk_mono (co_L (s := []) (Or.inl rfl) t N c S h6 (Or.inl rfl) (by rw [List.append_nil]; exact h) (by omega)) (fun _ S' g => ?_)
  rw [pk_some]
  exact g
/-- behind a fault: nothing but what comes out -/
theorem exE_f {B c f q : Nat} {s : List Nat} (hN : 5000 ≤ N) (hf : flt z f q S) (h : XW B c s S) : pk (exE N (nI 0) S) (fun _ S' => flt z f q S' ∧ eM B c S S') := by
  have fin : pk (rx_bd (f_X11_comesOut N 0 S) (fun x8 S7 => some ((), S7))) (fun _ S' => flt z f q S' ∧ eM B c S S') := by
    rw [pk_bd]
    refine pk_mono (cmo_any hN h) (fun _ S' g => ?_)
    rw [pk_some]
    exact ⟨hf.eq (g.2.1 13 (by decide) (by decide)) (g.2.1 14 (by decide) (by decide)), g.e⟩
  unfold exE
  rw [pk_let]
  by_cases e : S.1 94 12 ≤ nI 0
  · rw [if_pos e]
    exact fin
  · rw [if_neg e, fail_f hf, bd_some]
    exact fin
theorem XW.ui {B c j : Nat} {s : List Nat} {x : Int32} (h : XW B c s S) (h1 : j ≠ 41) (h2 : j ≠ 45) : XW B c s (rx_ui S 94 j x) := ⟨by rw [ui_get, if_pos rfl, if_neg (fun e => h2 e.symm)]; exact h.1, wst_eq _ h.2.1 (fun j _ => by rw [ui_row (by decide)]), by rw [ui_get, if_pos rfl, if_neg (fun e => h1 e.symm)]; exact h.2.2.1, h.2.2.2⟩
theorem XW.fl {B c : Nat} {s : List Nat} {x y : Int32} (h : XW B c s S) : XW B c s (flS S x y) := (h.ui (by decide) (by decide)).ui (by decide) (by decide)
theorem AM_f {B c f q n m : Nat} {s : List Nat} (hN : 5000 ≤ N) (hf : flt z f q S) (h : XW B c s S) : pk (AM N n (m + 1) S) (fun _ S' => flt z f q S' ∧ eM B c S S') := by
  unfold AM
  rw [f_X11_expression_L96, is_f hf.pos.2.1, bd_some, if_pos rfl, exJ_f hf.pos.2.1]
  exact exE_f hN hf h
theorem unit_f {f q : Nat} (hf : flt z f q S) : f_X11_unit S = some ((), S) := by
  unfold f_X11_unit
  rw [is_f hf.pos.2.1, bd_some, if_pos rfl]
  simp only [rx_let]
  rw [if_neg hf.pos.2.1, fail_f hf]
  rfl
theorem exK_f {f q n : Nat} {x : Int32} (hf : flt z f q S) : exK N n x S = some ((), S) := by
  unfold exK
  rw [unit_f hf, bd_some, if_neg hf.pos.1]
theorem OM_f {f q n m : Nat} (hf : flt z f q S) : OM N n (m + 1) S = some ((), S) := by
  unfold OM
  rw [f_X11_expression_L23, is_f hf.pos.2.1, bd_some, if_pos rfl, exK_f hf]
def scond (lv d : Nat) (s : List Nat) : Prop := s.length + lv ≤ 3 * d + 2 ∧ (lv = 0 ∨ s = [] ∨ ∃ x r, s = x :: r ∧ (x = 6 ∨ (lv = 1 ∧ (x = 8 ∨ x = 9))))
def tcond (lv : Nat) (t : List Nat) : Prop := t.length ≤ lv ∧ ∀ x, x ∈ t → (x = 10 ∨ x = 15 ∨ (lv = 2 ∧ (x = 8 ∨ x = 9)))
def RX (z : tks) (B lv d p q : Nat) (w : List It) : Prop := (p < q ∧ q < kN z) ∧ ∀ (N n mm c : Nat) (s : List Nat) (S : rx_S) (Q : Unit → rx_S → Prop), 5000 ≤ N → XS z B d p c s S → d ≤ 6 → scond lv d s → 1000 ≤ n + p → 20 ≤ mm + d → B ≤ c → (∀ (n' m' : Nat) (S' : rx_S) (t : List Nat) (w' : List It), w = w' ++ flL t → tcond lv t → 1000 ≤ n' + q → 20 + d ≤ m' → XS z B d q (c + w'.length) (t ++ s) S' → sgM S' c w' → eM B c S S' → pk (AM N n' m' S') Q) → pk (OM N n mm S) Q
def RF (z : tks) (B lv d p f q : Nat) : Prop := ∀ (N n mm c : Nat) (s : List Nat) (S : rx_S), 5000 ≤ N → XS z B d p c s S → d ≤ 6 → scond lv d s → 1000 ≤ n + p → 20 ≤ mm + d → B ≤ c → pk (OM N n mm S) (fun _ S' => flt z f q S' ∧ eM B c S S')
theorem scond.dn {lv d : Nat} {s : List Nat} (h : scond (lv + 1) d s) : scond lv d s := by
  refine ⟨by have := h.1; omega, ?_⟩
  rcases h.2 with e | e | ⟨x, r, e, g⟩
  · omega
  · exact Or.inr (Or.inl e)
  · rcases g with g | ⟨g1, g2⟩
    · exact Or.inr (Or.inr ⟨x, r, e, Or.inl g⟩)
    · exact Or.inl (by omega)
theorem tcond.up {lv : Nat} {t : List Nat} (h : tcond lv t) (hl : lv ≤ 1) : tcond (lv + 1) t := ⟨by have := h.1; omega, fun x hx => by
  rcases h.2 x hx with e | e | ⟨e, _⟩
  · exact Or.inl e
  · exact Or.inr (Or.inl e)
  · omega⟩
theorem RX.up {B lv d p q : Nat} {w : List It} (h : RX z B lv d p q w) (hl : lv ≤ 1) : RX z B (lv + 1) d p q w := ⟨h.1, fun N n mm c s S Q hN hS hd hs hn hm hB k => h.2 N n mm c s S Q hN hS hd hs.dn hn hm hB (fun n' m' S' t w' e1 e2 => k n' m' S' t w' e1 (e2.up hl))⟩
theorem RF.up {B lv d p f q : Nat} (h : RF z B lv d p f q) : RF z B (lv + 1) d p f q := fun N n mm c s S hN hS hd hs hn hm hB => h N n mm c s S hN hS hd hs.dn hn hm hB
theorem XS.go {B d p c : Nat} {s : List Nat} {S : rx_S} (h : XS z B d p c s S) (hp : p + 1 < kN z) : XS z B d (p + 1) c s (rx_ui S 94 11 (nI (p + 1))) := by
  obtain ⟨h1, h2, h3, h4, h5, h6, h7⟩ := h
  refine ⟨by rw [ui_get]; simp, by rw [ui_get]; simp [h2], by rw [ui_get]; simp [h3], hp, by omega, h6.eq (by rw [ui_row (by decide)]) (by rw [ui_row (by decide)]) (by rw [ui_row (by decide)]), h7.ui (by decide) (by decide)⟩
end EXN
