/-! ===== READ 21: the reference's couples ===== -/
def kqM (S : rx_S) (x : Int64) : Nat → Bool := fun k => decide (S.2 102 k = x) && decide (¬ S.1 103 k < 0)
def oM (S : rx_S) (x : Int64) (nn : Nat) : Option Nat := (ff (kqM S x) nn 0).map (fun k => (S.1 103 k).toNatClampNeg)
def nAt (S : rx_S) (nn : Nat) : Prop := ∀ k, k < nn → S.1 103 k = -1 ∨ ∃ s, s < 6 ∧ S.1 103 k = nI s
def cfM (S : rx_S) (sd : Nat) (o : Option Nat) : Bool := match o with
  | some s => decide (¬ S.1 106 (6 * sd + s) < 0)
  | none => true
def tcE (x15 x16 x17 : Int32) (S18 : rx_S) : Option (Unit × rx_S) := rx_bd (f_X11_must 4 S18) (fun x20 S19 => if (S19.1 94 13) ≤ 0 then (rx_gd ((2 : Int32) * x15) 12 (rx_let (rx_ui S19 108 (Int32.toNatClampNeg ((2 : Int32) * x15)) x16) (fun S24 => rx_gd (((2 : Int32) * x15) + 1) 12 (rx_let (rx_ui S24 108 (Int32.toNatClampNeg (((2 : Int32) * x15) + 1)) x17) (fun S26 => rx_let (fun (x27 : Int32) (S28 : rx_S) => rx_let (fun (S29 : rx_S) => rx_gd (S29.1 94 19) 2 (rx_gd (S29.1 94 19) 2 (rx_let (rx_ui S29 107 (Int32.toNatClampNeg (S29.1 94 19)) ((S29.1 107 (Int32.toNatClampNeg (S29.1 94 19))) + 1)) (fun S32 => some ((), S32))))) (fun J204_4 => if x27 < 0 then (J204_4 S28) else (rx_gd (S28.1 94 19) 2 (rx_gd (((6 : Int32) * (S28.1 94 19)) + x27) 12 (rx_let (rx_ui S28 106 (Int32.toNatClampNeg (((6 : Int32) * (S28.1 94 19)) + x27)) (S28.1 107 (Int32.toNatClampNeg (S28.1 94 19)))) (fun S36 => J204_4 S36)))))) (fun J175_3 => if x16 < 0 then (J175_3 x17 S26) else (rx_gd (S26.1 94 19) 2 (rx_gd (((6 : Int32) * (S26.1 94 19)) + x16) 12 (rx_let (rx_ui S26 106 (Int32.toNatClampNeg (((6 : Int32) * (S26.1 94 19)) + x16)) (S26.1 107 (Int32.toNatClampNeg (S26.1 94 19)))) (fun S40 => J175_3 x17 S40)))))))))) else (some ((), S19)))
def tcB (N : Nat) (x8 x9 : Int32) (S10 : rx_S) : Option (Unit × rx_S) := rx_let (S10.1 94 11) (fun x11 => rx_bd (f_X11_knownSpouse N S10) (fun x13 S12 => if (S12.1 94 13) = 0 then (if x13 < 0 then (tcE x8 x9 x13 S12) else (if x9 = x13 then (rx_bd (f_X11_wrong 3 x11 S12) (fun x49 S48 => tcE x8 x9 x13 S48)) else (rx_gd (((6 : Int32) * (S12.1 94 19)) + x13) 12 (if (S12.1 106 (Int32.toNatClampNeg (((6 : Int32) * (S12.1 94 19)) + x13))) < 0 then (tcE x8 x9 x13 S12) else (rx_bd (f_X11_wrong 3 x11 S12) (fun x49 S48 => tcE x8 x9 x13 S48)))))) else (tcE x8 x9 x13 S12)))
theorem tellCouple_eq {N : Nat} {S : rx_S} : f_X11_tellCouple N S = rx_gd (S.1 94 19) 2 (rx_let (((3 : Int32) * (S.1 94 19)) + (S.1 107 (Int32.toNatClampNeg (S.1 94 19)))) (fun x3 => rx_let (S.1 94 11) (fun x4 => rx_bd (f_X11_knownSpouse N S) (fun x6 S5 => if (S5.1 94 13) = 0 then (if x6 < 0 then (tcB N x3 x6 S5) else (rx_gd (((6 : Int32) * (S5.1 94 19)) + x6) 12 (if (S5.1 106 (Int32.toNatClampNeg (((6 : Int32) * (S5.1 94 19)) + x6))) < 0 then (tcB N x3 x6 S5) else (rx_bd (f_X11_wrong 3 x4 S5) (fun x59 S58 => tcB N x3 x6 S58))))) else (tcB N x3 x6 S5))))) := rfl
section FCO
variable {N : Nat} {S : rx_S} {z : tks} {p nn sd q : Nat} {m : Nat × Nat}
theorem ks_L {K54 K67 : Int32 → rx_S → Option (Int32 × rx_S)} (h20 : S.1 94 20 = nI nn) (hnn : nn ≤ 10) (hp : p < 403) : ∀ (d f k : Nat), k + d = nn → d < f → f_X11_knownSpouse_L21 N K54 K67 f (nI p) (nI k) S = (match ff (kqM S (S.2 100 p)) d k with | some k => K54 (nI k) S | none => K67 (nI p) S) := by
  intro d
  induction d with
  | zero =>
    intro f k hk hf
    obtain ⟨f, rfl⟩ : ∃ q, f = q + 1 := ⟨f - 1, by omega⟩
    rw [f_X11_knownSpouse_L21, h20, if_pos (nI_le (by omega) (by omega))]
    rfl
  | succ d ih =>
    intro f k hk hf
    obtain ⟨f, rfl⟩ : ∃ q, f = q + 1 := ⟨f - 1, by omega⟩
    have g10 : ∀ {β : Type} (A : Option β), rx_gd (nI k) 10 A = A := fun A => rx_gd_in (vp_in_nI (by omega) (by decide))
    rw [f_X11_knownSpouse_L21, h20, if_neg (nI_ge (by omega) (by omega)), g10, rx_gd_in (vp_in_nI (show p < 403 by omega) (by decide)), nI_clamp (by omega), nI_clamp (by omega), g10, ff]
    simp only [rx_let, nI_1]
    by_cases q1 : S.2 102 k = S.2 100 p
    · rw [if_pos ((lg_cmp_eq _ _).mpr q1)]
      by_cases q2 : S.1 103 k < 0
      · have e : ¬ kqM S (S.2 100 p) k = true := by
          unfold kqM
          rw [decide_eq_false (fun h : ¬ S.1 103 k < 0 => h q2), Bool.and_false]
          decide
        rw [if_pos q2, if_neg e]
        exact ih f (k + 1) (by omega) (by omega)
      · have e : kqM S (S.2 100 p) k = true := by
          unfold kqM
          rw [decide_eq_true q1, decide_eq_true q2]
          rfl
        rw [if_neg q2, if_pos e]
    · have e : ¬ kqM S (S.2 100 p) k = true := by
        unfold kqM
        rw [decide_eq_false q1, Bool.false_and]
        decide
      rw [if_neg (fun h => q1 ((lg_cmp_eq _ _).mp h)), if_neg e]
      exact ih f (k + 1) (by omega) (by omega)
theorem oM_lt {x : Int64} {s : Nat} (hA : nAt S nn) (h : oM S x nn = some s) : s < 6 ∧ ∃ k, k < nn ∧ ff (kqM S x) nn 0 = some k ∧ S.1 103 k = nI s := by
  unfold oM at h
  cases hff : ff (kqM S x) nn 0 with
  | none => rw [hff] at h; cases h
  | some k =>
    rw [hff] at h
    obtain ⟨h1, h2⟩ := ff_lt hff
    have h3 : ¬ S.1 103 k < 0 := by
      unfold kqM at h2
      rw [Bool.and_eq_true, decide_eq_true_iff, decide_eq_true_iff] at h2
      exact h2.2
    rcases hA k h1 with e | ⟨s', hs', e⟩
    · rw [e] at h3
      exact absurd (by decide) h3
    · have h4 : (S.1 103 k).toNatClampNeg = s := by
        have : some (S.1 103 k).toNatClampNeg = some s := h
        exact Option.some.inj this
      rw [e, nI_clamp (by omega)] at h4
      subst h4
      exact ⟨hs', k, h1, rfl, e⟩
theorem knSp (hN : 5000 ≤ N) (hF : tkF z) (hS : MF z p m S) (h20 : S.1 94 20 = nI nn) (hnn : nn ≤ 10) (hA : nAt S nn) : pk (f_X11_knownSpouse N S) (fun r S' => g1F S S' ∧ ((∃ f, tkFl z p 2 f ∧ flt z f p S' ∧ r = -1) ∨ ((kK z p = 2 ∧ p < 400) ∧ r = oV (oM S (S.2 100 p) nn) ∧ MF z (p + 1) (mA m (oM S (S.2 100 p) nn).isNone 4 p) S'))) := by
  have hm := hF.2.1
  have hp := hS.2.2.1
  unfold f_X11_knownSpouse
  rw [pk_let, hS.1]
  rcases tk_cases z p 2 with k | ⟨f, k⟩
  · obtain ⟨t1, t2⟩ := mst hF hS 2 rfl (by decide) (x := 1) rfl k
    have e20 : (rx_ui S 94 11 (nI (p + 1))).1 94 20 = nI nn := by rw [ui_get, if_pos rfl, if_neg (by decide)]; exact h20
    rw [t1, bd_some, if_pos (by rw [t2.2.1]; decide), pk_let, pk_let]
    have hL := ks_L (N := N) (S := rx_ui S 94 11 (nI (p + 1))) (p := p) (K54 := fun (x12 : Int32) (S13 : rx_S) => rx_gd x12 10 (some ((S13.1 103 (Int32.toNatClampNeg x12)), S13))) (K67 := fun (x7 : Int32) (S8 : rx_S) => rx_bd (f_X11_wrong 4 x7 S8) (fun x10 S9 => some ((-1), S9))) e20 hnn (by omega) nn N 0 (by omega) (by omega)
    have eq : kqM (rx_ui S 94 11 (nI (p + 1))) ((rx_ui S 94 11 (nI (p + 1))).2 100 p) = kqM S (S.2 100 p) := by
      unfold kqM
      rw [ui_row (by decide)]
      rfl
    rw [eq] at hL
    have hL' : f_X11_knownSpouse_L21 N (fun (x12 : Int32) (S13 : rx_S) => rx_gd x12 10 (some ((S13.1 103 (Int32.toNatClampNeg x12)), S13))) (fun (x7 : Int32) (S8 : rx_S) => rx_bd (f_X11_wrong 4 x7 S8) (fun x10 S9 => some ((-1), S9))) N (nI p) 0 (rx_ui S 94 11 (nI (p + 1))) = _ := hL
    rw [hL']
    cases hff : ff (kqM S (S.2 100 p)) nn 0 with
    | some c =>
      obtain ⟨h1, h2⟩ := ff_lt hff
      have ho : ∃ s, oM S (S.2 100 p) nn = some s := ⟨(S.1 103 c).toNatClampNeg, by unfold oM; rw [hff]; rfl⟩
      obtain ⟨s, ho⟩ := ho
      obtain ⟨hs, c', hc', e1, e2⟩ := oM_lt hA ho
      have ec : c' = c := Option.some.inj (e1.symm.trans hff)
      subst ec
      simp only []
      rw [pk_gdn (by omega) (by decide), nI_clamp (by omega), ui_row (by decide), e2, pk_some, ho]
      refine ⟨g1F.ui (by omega), Or.inr ⟨k, rfl, ?_⟩⟩
      show MF z (p + 1) (mA m false 4 p) _
      rw [mA_f]
      exact t2
    | none =>
      have ho : oM S (S.2 100 p) nn = none := by unfold oM; rw [hff]; rfl
      obtain ⟨S2, b1, b2, b3, b4, b5⟩ := wrong_ok (k := 4) hF t2.2.1 t2.2.2.2.1 hp t2.2.2.2.2.1 (fun q => Or.inl (hS.2.2.2.2.2 q)) (by omega)
      simp only []
      rw [show (4 : Int32) = nI 4 from rfl, b1, bd_some, pk_some, ho]
      exact ⟨(g1F.ui (by omega)).tr b3, Or.inr ⟨k, rfl, b4.trans t2.1, b5.trans t2.2.1, t2.2.2.1, b3.tk t2.2.2.2.1, b2, mA_2 t2.2.2.2.2.2 (by omega)⟩⟩
  · obtain ⟨t1, t2⟩ := msn hF hS 2 rfl (x := 1) rfl k
    rw [t1, bd_some, if_neg t2.pos.1, pk_some]
    exact ⟨g1F.fl, Or.inl ⟨f, k, t2, rfl⟩⟩
theorem tcE_f {f j : Nat} {x y w : Int32} (h : flt z f j S) : tcE x y w S = some ((), S) := by
  unfold tcE
  rw [must_f h, bd_some, if_neg h.pos.1]
theorem tcB_f {f j : Nat} {x y : Int32} (h : flt z f j S) : tcB N x y S = some ((), S) := by
  unfold tcB f_X11_knownSpouse
  simp only [rx_let]
  rw [must_f h, bd_some, if_neg h.pos.1, bd_some, if_neg h.pos.2.1, tcE_f h]
def tcU (S : rx_S) (sd : Nat) (o : Option Nat) (q : Nat) : rx_S := match o with
  | some s => rx_ui S 106 (6 * sd + s) (nI q)
  | none => S
theorem tcU_r {o : Option Nat} {r : Nat} (h : r ≠ 106) : (tcU S sd o q).1 r = S.1 r := by
  cases o with
  | none => rfl
  | some s => exact ui_row h
theorem tcU_L {o : Option Nat} : (tcU S sd o q).2 = S.2 := by
  cases o <;> rfl
theorem tcU_rd {o : Option Nat} (ho : ∀ s, o = some s → s < 6) : rdM sd S (tcU S sd o q) := by
  cases o with
  | none => exact rdM.rf
  | some s =>
    have := ho s rfl
    exact rdM.uh (by decide) (by have F : hsz 106 = 6 := rfl; rw [F]; omega)
theorem tcJ {o : Option Nat} (h19 : S.1 94 19 = nI sd) (hs : sd < 2) (h107 : S.1 107 sd = nI q) (ho : ∀ s, o = some s → s < 6) : rx_let (fun (S29 : rx_S) => rx_gd (S29.1 94 19) 2 (rx_gd (S29.1 94 19) 2 (rx_let (rx_ui S29 107 (Int32.toNatClampNeg (S29.1 94 19)) ((S29.1 107 (Int32.toNatClampNeg (S29.1 94 19))) + 1)) (fun S32 => some ((), S32))))) (fun J204_4 => if oV o < 0 then (J204_4 S) else (rx_gd (S.1 94 19) 2 (rx_gd (((6 : Int32) * (S.1 94 19)) + oV o) 12 (rx_let (rx_ui S 106 (Int32.toNatClampNeg (((6 : Int32) * (S.1 94 19)) + oV o)) (S.1 107 (Int32.toNatClampNeg (S.1 94 19)))) (fun S36 => J204_4 S36))))) = some ((), rx_ui (tcU S sd o q) 107 sd (nI (q + 1))) := by
  have g2 : ∀ {β : Type} (A : Option β), rx_gd (nI sd) 2 A = A := fun A => rx_gd_in (vp_in_nI hs (by decide))
  have fin : ∀ S1 : rx_S, S1.1 94 19 = nI sd → S1.1 107 sd = nI q → rx_gd (S1.1 94 19) 2 (rx_gd (S1.1 94 19) 2 (some ((), rx_ui S1 107 (Int32.toNatClampNeg (S1.1 94 19)) ((S1.1 107 (Int32.toNatClampNeg (S1.1 94 19))) + 1)))) = some ((), rx_ui S1 107 sd (nI (q + 1))) := by
    intro S1 h1 h2
    rw [h1, g2, g2, nI_clamp (by omega), h2, nI_1]
  simp only [rx_let]
  cases o with
  | none =>
    rw [if_pos (show oV none < 0 from by decide)]
    exact fin S h19 h107
  | some s =>
    have hs6 := ho s rfl
    have e6 : (6 : Int32) * nI sd + nI s = nI (6 * sd + s) := by
      have : (6 : Int32) * nI sd = nI (6 * sd) := nI_mul 6 sd
      rw [this, nI_add]
    rw [if_neg (show ¬ oV (some s) < 0 from nI_pos (by omega))]
    rw [fin _ (by rw [ui_row (by decide)]; exact h19) (by rw [ui_row (by decide)]; exact h107)]
    have ev : oV (some s) = nI s := rfl
    rw [h19, g2, ev, e6, rx_gd_in (vp_in_nI (show 6 * sd + s < 12 by omega) (by decide)), nI_clamp (by omega), nI_clamp (by omega), h107]
    rfl
def cpMm (z : tks) (p q sd : Nat) (m : Nat × Nat) (oa ob : Option Nat) (S S' : rx_S) : Prop := MF z (p + 4) m S' ∧ S'.1 107 = upd (S.1 107) sd (nI (q + 1)) ∧ (∀ s t, oa = some s → ob = some t → S'.1 108 = upd (upd (S.1 108) (2 * (3 * sd + q)) (nI s)) (2 * (3 * sd + q) + 1) (nI t) ∧ S'.1 106 = upd (upd (S.1 106) (6 * sd + s) (nI q)) (6 * sd + t) (nI q)) ∧ (∀ r, r ≠ 94 → r ≠ 106 → r ≠ 107 → r ≠ 108 → S'.1 r = S.1 r) ∧ (∀ j, j ≠ 11 → j ≠ 13 → j ≠ 14 → j ≠ 15 → j ≠ 16 → S'.1 94 j = S.1 94 j) ∧ S'.2 = S.2
theorem tcE_ok {oa ob : Option Nat} (hF : tkF z) (hS : MF z (p + 3) m S) (h19 : S.1 94 19 = nI sd) (hs : sd < 2) (h107 : S.1 107 sd = nI q) (hq : q < 3) (ha : ∀ s, oa = some s → s < 6) (hb : ∀ s, ob = some s → s < 6) : pk (tcE (nI (3 * sd + q)) (oV oa) (oV ob) S) (fun _ S' => rdM sd S S' ∧ ((∃ f, tkFl z (p + 3) 59 f ∧ flt z f (p + 3) S') ∨ ((kK z (p + 3) = 59 ∧ p + 3 < 400) ∧ cpMm z p q sd m oa ob S S'))) := by
  unfold tcE
  rcases tk_cases z (p + 3) 59 with k | ⟨f, k⟩
  · obtain ⟨t1, t2⟩ := mst hF hS 59 rfl (by decide) (x := 4) rfl k
    have e2 : (2 : Int32) * nI (3 * sd + q) = nI (2 * (3 * sd + q)) := nI_mul 2 _
    have F108 : hsz 108 = 6 := rfl
    have F107 : hsz 107 = 1 := rfl
    rw [t1, bd_some, if_pos (by rw [t2.2.1]; decide), e2, pk_gdn (by omega) (by decide), pk_let, nI_clamp (by omega), nI_1, pk_gdn (by omega) (by decide), pk_let, nI_clamp (by omega), pk_let]
    generalize hB : rx_ui (rx_ui (rx_ui S 94 11 (nI (p + 3 + 1))) 108 (2 * (3 * sd + q)) (oV oa)) 108 (2 * (3 * sd + q) + 1) (oV ob) = B
    have B94 : B.1 94 = (rx_ui S 94 11 (nI (p + 3 + 1))).1 94 := by rw [← hB, ui_row (by decide), ui_row (by decide)]
    have Br : ∀ r, r ≠ 94 → r ≠ 108 → B.1 r = S.1 r := fun r q1 q2 => by rw [← hB, ui_row q2, ui_row q2, ui_row q1]
    have B19 : B.1 94 19 = nI sd := by rw [B94, ui_get, if_pos rfl, if_neg (by decide)]; exact h19
    have B107 : B.1 107 sd = nI q := by rw [Br 107 (by decide) (by decide)]; exact h107
    have BL : B.2 = S.2 := by rw [← hB]; rfl
    have Brd : rdM sd S B := by
      rw [← hB]
      exact ((rdM.u94 (by omega)).tr (rdM.uh (by decide) (by rw [F108]; omega))).tr (rdM.uh (by decide) (by rw [F108]; omega))
    have J1 := tcJ (o := ob) (S := tcU B sd oa q) (sd := sd) (q := q) (by rw [tcU_r (by decide)]; exact B19) hs (by rw [tcU_r (by decide)]; exact B107) hb
    have fin : pk (some ((), rx_ui (tcU (tcU B sd oa q) sd ob q) 107 sd (nI (q + 1)))) (fun _ S' => rdM sd S S' ∧ ((∃ f, tkFl z (p + 3) 59 f ∧ flt z f (p + 3) S') ∨ ((kK z (p + 3) = 59 ∧ p + 3 < 400) ∧ cpMm z p q sd m oa ob S S'))) := by
      rw [pk_some]
      have T94 : (rx_ui (tcU (tcU B sd oa q) sd ob q) 107 sd (nI (q + 1))).1 94 = (rx_ui S 94 11 (nI (p + 3 + 1))).1 94 := by rw [ui_row (by decide), tcU_r (by decide), tcU_r (by decide), B94]
      have Tr : ∀ r, r ≠ 94 → r ≠ 106 → r ≠ 107 → r ≠ 108 → (rx_ui (tcU (tcU B sd oa q) sd ob q) 107 sd (nI (q + 1))).1 r = S.1 r := fun r q1 q2 q3 q4 => by rw [ui_row q3, tcU_r q2, tcU_r q2, Br r q1 q4]
      refine ⟨((Brd.tr (tcU_rd ha)).tr (tcU_rd hb)).tr (rdM.uh (by decide) (by rw [F107]; omega)), Or.inr ⟨k, ⟨t2.rows (fun j _ => by rw [T94]) (fun r q1 q2 => ?_), ?_, fun s t h1 h2 => ?_, Tr, fun j q1 _ _ _ _ => ?_, ?_⟩⟩⟩
      · rw [Tr r (by omega) (by omega) (by omega) (by omega), ui_row (by omega)]
      · rw [ui_same, tcU_r (by decide), tcU_r (by decide), Br 107 (by decide) (by decide)]
      · cases h1
        cases h2
        refine ⟨?_, ?_⟩
        · rw [ui_row (by decide), tcU_r (by decide), tcU_r (by decide), ← hB, ui_same, ui_same, ui_row (by decide)]
          rfl
        · rw [ui_row (by decide)]
          show (rx_ui (rx_ui B 106 (6 * sd + s) (nI q)) 106 (6 * sd + t) (nI q)).1 106 = _
          rw [ui_same, ui_same, Br 106 (by decide) (by decide)]
      · rw [T94, ui_get, if_pos rfl, if_neg q1]
      · show (tcU (tcU B sd oa q) sd ob q).2 = _
        rw [tcU_L, tcU_L, BL]
    cases oa with
    | none =>
      rw [if_pos (show oV none < 0 from by decide)]
      have J2 : (fun (x27 : Int32) (S28 : rx_S) => rx_let (fun (S29 : rx_S) => rx_gd (S29.1 94 19) 2 (rx_gd (S29.1 94 19) 2 (rx_let (rx_ui S29 107 (Int32.toNatClampNeg (S29.1 94 19)) ((S29.1 107 (Int32.toNatClampNeg (S29.1 94 19))) + 1)) (fun S32 => some ((), S32))))) (fun J204_4 => if x27 < 0 then (J204_4 S28) else (rx_gd (S28.1 94 19) 2 (rx_gd (((6 : Int32) * (S28.1 94 19)) + x27) 12 (rx_let (rx_ui S28 106 (Int32.toNatClampNeg (((6 : Int32) * (S28.1 94 19)) + x27)) (S28.1 107 (Int32.toNatClampNeg (S28.1 94 19)))) (fun S36 => J204_4 S36)))))) (oV ob) B = some ((), rx_ui (tcU (tcU B sd none q) sd ob q) 107 sd (nI (q + 1))) := J1
      rw [J2]
      exact fin
    | some s =>
      have hs6 := ha s rfl
      have e6 : (6 : Int32) * nI sd + nI s = nI (6 * sd + s) := by
        have : (6 : Int32) * nI sd = nI (6 * sd) := nI_mul 6 sd
        rw [this, nI_add]
      have ev : oV (some s) = nI s := rfl
      rw [if_neg (show ¬ oV (some s) < 0 from nI_pos (by omega)), B19, pk_gdn hs (by decide), ev, e6, pk_gdn (by omega) (by decide), pk_let, nI_clamp (by omega), nI_clamp (by omega), B107]
      have J2 : (fun (x27 : Int32) (S28 : rx_S) => rx_let (fun (S29 : rx_S) => rx_gd (S29.1 94 19) 2 (rx_gd (S29.1 94 19) 2 (rx_let (rx_ui S29 107 (Int32.toNatClampNeg (S29.1 94 19)) ((S29.1 107 (Int32.toNatClampNeg (S29.1 94 19))) + 1)) (fun S32 => some ((), S32))))) (fun J204_4 => if x27 < 0 then (J204_4 S28) else (rx_gd (S28.1 94 19) 2 (rx_gd (((6 : Int32) * (S28.1 94 19)) + x27) 12 (rx_let (rx_ui S28 106 (Int32.toNatClampNeg (((6 : Int32) * (S28.1 94 19)) + x27)) (S28.1 107 (Int32.toNatClampNeg (S28.1 94 19)))) (fun S36 => J204_4 S36)))))) (oV ob) (rx_ui B 106 (6 * sd + s) (nI q)) = some ((), rx_ui (tcU (tcU B sd (some s) q) sd ob q) 107 sd (nI (q + 1))) := J1
      rw [J2]
      exact fin
  · obtain ⟨t1, t2⟩ := msn hF hS 59 rfl (x := 4) rfl k
    rw [t1, bd_some, if_neg t2.pos.1, pk_some]
    exact ⟨g1F.fl.rd, Or.inl ⟨f, k, t2⟩⟩
end FCO
