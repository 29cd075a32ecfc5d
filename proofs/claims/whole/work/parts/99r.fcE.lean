/-! ===== READ 18: the class's couples ===== -/
def nsv (S : rx_S) (x : Int64) (nc : Nat) : Int32 := match ff (nmE S x) nc 0 with
  | some k => S.1 31 k
  | none => -1
def spI (x : Int32) (n : Nat) : Option Nat := if 0 ≤ x ∧ x < nI n then some x.toNatClampNeg else none
def cfC (S : rx_S) (o : Option Nat) : Bool := match o with
  | some s => decide (¬ S.1 26 s = -2)
  | none => true
def nmK (o : Option Nat) : Nat := match o with
  | some _ => 3
  | none => 4
def oV (o : Option Nat) : Int32 := match o with
  | some s => nI s
  | none => -1
def sameB (o o' : Option Nat) : Bool := match o, o' with
  | some s, some t => decide (s = t)
  | _, _ => false
theorem nsv_eq {S S' : rx_S} {x : Int64} {nc : Nat} (h : c1F S S') : nsv S' x nc = nsv S x nc := by
  have e : nmE S' x = nmE S x := by unfold nmE; rw [h.2.2]
  unfold nsv
  rw [e, h.1 31 (by decide)]
theorem cfC_eq {S S' : rx_S} {o : Option Nat} (h : c1F S S') : cfC S' o = cfC S o := by
  unfold cfC
  rw [h.1 26 (by decide)]
theorem spI_some {x : Int32} {n s : Nat} (hn : n ≤ 1000) (h : spI x n = some s) : s < n ∧ x = nI s := by
  unfold spI at h
  rcases in_cases (x := x) (t := n) hn with ⟨i, hi, e⟩ | q
  · rw [if_pos (in01 hn hi e), e, nI_clamp (by omega)] at h
    cases h
    exact ⟨hi, e⟩
  · rw [if_neg q] at h
    cases h
section FCE
variable {N : Nat} {S : rx_S} {z : tks} {p nc n : Nat} {m : Nat × Nat}
theorem nmJ {x : Int32} (hF : tkF z) (hS : CF z (p + 1) m nc S) (hp : p < kN z) (h6 : S.1 19 6 = nI n) (hn : n ≤ 6) : pk (rx_bd (f_X8_hasSpouse 19 x S) (fun x11 S10 => if x11 = 0 then (rx_bd (f_X4_blame 4 S10) (fun x20 S19 => some ((-1), S19))) else (rx_gd x 6 (if (S10.1 26 (Int32.toNatClampNeg x)) = (-2) then (some (x, S10)) else (rx_bd (f_X4_blame 3 S10) (fun x17 S16 => some (x, S16))))))) (fun r S' => c1F S S' ∧ r = oV (spI x n) ∧ CF z (p + 1) (mA m (cfC S (spI x n)) (nmK (spI x n)) p) nc S') := by
  obtain ⟨h1, h2', h3, h4, h5, h6', h7⟩ := hS
  rw [hasSpouse_eq, bd_some, h6]
  rcases in_cases (x := x) (t := n) (by omega) with ⟨i, hi, e⟩ | q
  · have es : spI x n = some i := by
      unfold spI
      rw [if_pos (in01 (by omega) hi e), e, nI_clamp (by omega)]
    rw [if_pos (in01 (by omega) hi e), if_neg (by decide), e, pk_gdn (by omega) (by decide), nI_clamp (by omega), ← e, es]
    by_cases c2 : S.1 26 i = -2
    · rw [if_pos c2, pk_some]
      refine ⟨c1F.rf, e, ?_⟩
      have e2 : cfC S (some i) = false := by
        show decide (¬ S.1 26 i = -2) = false
        exact decide_eq_false (fun q => q c2)
      have e3 : mA m false (nmK (some i)) p = m := if_neg (fun q => by cases q.1)
      rw [e2, e3]
      exact ⟨h1, h2', h3, h4, h5, h6', h7⟩
    · obtain ⟨S2, b1, b2, b3, b4, b5⟩ := blame_ok (k := 3) hF h4 h1 hp h5 (by omega)
      rw [if_neg c2, show (3 : Int32) = nI 3 from rfl, b1, bd_some, pk_some]
      have e2 : cfC S (some i) = true := by
        show decide (¬ S.1 26 i = -2) = true
        exact decide_eq_true c2
      rw [e2]
      exact ⟨b3, e, b4.trans h1, b5.trans h2', h3, b3.tk h4, b2, (b3.2.1 4 (by decide) (by decide) (by decide) (by decide)).trans h6', h7⟩
  · have es : spI x n = none := by
      unfold spI
      rw [if_neg q]
    obtain ⟨S2, b1, b2, b3, b4, b5⟩ := blame_ok (k := 4) hF h4 h1 hp h5 (by omega)
    rw [if_neg q, if_pos rfl, show (4 : Int32) = nI 4 from rfl, b1, bd_some, pk_some, es]
    exact ⟨b3, rfl, b4.trans h1, b5.trans h2', h3, b3.tk h4, b2, (b3.2.1 4 (by decide) (by decide) (by decide) (by decide)).trans h6', h7⟩
theorem nmSp (hN : 5000 ≤ N) (hF : tkF z) (hS : CF z (p + 1) m nc S) (hp : p < kN z) (h6 : S.1 19 6 = nI n) (hn : n ≤ 6) : pk (f_X4_namedSpouse N S) (fun r S' => c1F S S' ∧ r = oV (spI (nsv S (S.2 18 p) nc) n) ∧ CF z (p + 1) (mA m (cfC S (spI (nsv S (S.2 18 p) nc) n)) (nmK (spI (nsv S (S.2 18 p) nc) n)) p) nc S') := by
  have h4 := hS.2.2.2.1
  unfold f_X4_namedSpouse
  rw [hS.1, nI_pred, vAt_ok hF h4 hp, bd_some, fnd_ok hN hS.2.2.2.2.2.1 hS.2.2.2.2.2.2, bd_some, pk_let, pk_let]
  have e : ∀ o, ff (nmE S (S.2 18 p)) nc 0 = o → nsv S (S.2 18 p) nc = (match o with | some k => S.1 31 k | none => -1) := fun o h => by
    unfold nsv
    rw [h]
  cases hff : ff (nmE S (S.2 18 p)) nc 0 with
  | some k =>
    have hk := ff_lt hff
    have h10 := hS.2.2.2.2.2.2
    simp only []
    rw [if_neg (nI_pos (by omega)), if_neg (show ¬ (10 : Int32) ≤ nI k from nI_ge (b := 10) (by omega) (by decide)), pk_gdn (by omega) (by decide), nI_clamp (by omega), e _ hff]
    exact nmJ hF hS hp h6 hn
  | none =>
    simp only []
    rw [if_pos (by decide), e _ hff]
    exact nmJ hF hS hp h6 hn
theorem has_oV {o : Option Nat} (h6 : S.1 19 6 = nI n) (hn : n ≤ 6) (ho : ∀ s, o = some s → s < n) : f_X8_hasSpouse 19 (oV o) S = some (if o.isSome = true then 1 else 0, S) := by
  rw [hasSpouse_eq, h6]
  cases o with
  | none => rfl
  | some s =>
    have := ho s rfl
    show some (if 0 ≤ nI s ∧ nI s < nI n then 1 else 0, S) = _
    rw [if_pos (in01 (by omega) this rfl)]
    rfl
theorem addCp {q : Nat} {oa ob : Option Nat} (h6 : S.1 19 6 = nI n) (hn : n ≤ 6) (h7 : S.1 19 7 = nI q) (hq : q < 3) (ha : ∀ s, oa = some s → s < n) (hb : ∀ s, ob = some s → s < n) : ∃ S', f_X8_addCouple 19 (oV oa) (oV ob) S = some ((), S') ∧ S'.1 19 = upd (S.1 19) 7 (nI (q + 1)) ∧ (∀ r, r ≠ 19 → r ≠ 26 → r ≠ 27 → S'.1 r = S.1 r) ∧ S'.2 = S.2 ∧ (∀ s t, oa = some s → ob = some t → S'.1 27 = upd (upd (S.1 27) (2 * q) (nI s)) (2 * q + 1) (nI t) ∧ S'.1 26 = upd (upd (S.1 26) s (nI q)) t (nI q)) := by
  unfold f_X8_addCouple
  rw [h7, if_neg (show ¬ (3 : Int32) ≤ nI q from nI_ge (b := 3) hq (by decide)), has_oV h6 hn ha, bd_some]
  simp only [rx_let]
  have one : ∀ S : rx_S, S.1 19 7 = nI q → (rx_ui S 19 7 (S.1 19 7 + 1)) = rx_ui S 19 7 (nI (q + 1)) := fun S h => by rw [h, nI_1]
  have plain : ∃ S', (some ((), rx_ui S 19 7 (S.1 19 7 + 1)) : Option (Unit × rx_S)) = some ((), S') ∧ S'.1 19 = upd (S.1 19) 7 (nI (q + 1)) ∧ (∀ r, r ≠ 19 → r ≠ 26 → r ≠ 27 → S'.1 r = S.1 r) ∧ S'.2 = S.2 := ⟨rx_ui S 19 7 (nI (q + 1)), by rw [one S h7], ui_same, fun r q1 _ _ => ui_row q1, rfl⟩
  cases oa with
  | none =>
    obtain ⟨S', e, g1, g2, g3⟩ := plain
    exact ⟨S', by rw [if_pos (show (if (none : Option Nat).isSome = true then (1 : Int32) else 0) = 0 from rfl)]; exact e, g1, g2, g3, fun s t h => by cases h⟩
  | some s =>
    rw [if_neg (show ¬ (if (some s).isSome = true then (1 : Int32) else 0) = 0 from (by decide : ¬ (1 : Int32) = 0)), has_oV h6 hn hb, bd_some]
    cases ob with
    | none =>
      obtain ⟨S', e, g1, g2, g3⟩ := plain
      exact ⟨S', by rw [if_pos (show (if (none : Option Nat).isSome = true then (1 : Int32) else 0) = 0 from rfl)]; exact e, g1, g2, g3, fun s t _ h => by cases h⟩
    | some t =>
      have hs := ha s rfl
      have ht := hb t rfl
      have e2 : (2 : Int32) * nI q = nI (2 * q) := nI_mul 2 q
      have es : oV (some s) = nI s := rfl
      have et : oV (some t) = nI t := rfl
      rw [if_neg (show ¬ (if (some t).isSome = true then (1 : Int32) else 0) = 0 from (by decide : ¬ (1 : Int32) = 0)), h7, e2, rx_gd_in (vp_in_nI (show 2 * q < 6 by omega) (by decide)), nI_clamp (by omega), es, et]
      generalize hA : rx_ui S (19 + 8) (2 * q) (nI s) = A
      have a7 : A.1 19 7 = nI q := by rw [← hA, ui_row (by decide)]; exact h7
      rw [a7, e2, nI_1, rx_gd_in (vp_in_nI (show 2 * q + 1 < 6 by omega) (by decide)), nI_clamp (by omega), rx_gd_in (vp_in_nI (show s < 6 by omega) (by decide)), nI_clamp (by omega)]
      generalize hB : rx_ui A (19 + 8) (2 * q + 1) (nI t) = B
      have b7 : B.1 19 7 = nI q := by rw [← hB, ui_row (by decide)]; exact a7
      rw [b7, rx_gd_in (vp_in_nI (show t < 6 by omega) (by decide)), nI_clamp (by omega)]
      generalize hC : rx_ui B (19 + 7) s (nI q) = C
      have c7 : C.1 19 7 = nI q := by rw [← hC, ui_row (by decide)]; exact b7
      rw [c7]
      generalize hD : rx_ui C (19 + 7) t (nI q) = D
      have d7 : D.1 19 7 = nI q := by rw [← hD, ui_row (by decide)]; exact c7
      rw [one D d7]
      refine ⟨rx_ui D 19 7 (nI (q + 1)), rfl, ?_, fun r q1 q2 q3 => ?_, ?_, fun s' t' h1 h2 => ?_⟩
      · rw [ui_same, ← hD, ui_row (by decide), ← hC, ui_row (by decide), ← hB, ui_row (by decide), ← hA, ui_row (by decide)]
      · rw [ui_row q1, ← hD, ui_row (by omega), ← hC, ui_row (by omega), ← hB, ui_row (by omega), ← hA, ui_row (by omega)]
      · rw [← hD, ← hC, ← hB, ← hA]
        rfl
      · cases h1
        cases h2
        refine ⟨?_, ?_⟩
        · rw [ui_row (by decide), ← hD, ui_row (by decide), ← hC, ui_row (by decide), ← hB, ui_same, ← hA, ui_same]
        · rw [ui_row (by decide), ← hD, ui_same, ← hC, ui_same, ← hB, ui_row (by decide), ← hA, ui_row (by decide)]
def cpM (m : Nat × Nat) (p : Nat) (oa ob : Option Nat) (ca cb : Bool) : Nat × Nat := mA (mA (mA m ca (nmK oa) (p + 1)) cb (nmK ob) (p + 2)) (sameB oa ob) 3 (p + 2)
def cpC (z : tks) (p n q nc : Nat) (m : Nat × Nat) (oa ob : Option Nat) (S S' : rx_S) : Prop := q < 3 ∧ sqT z p [129, 2, 2, 59] ∧ kCf S S' ∧ CF z (p + 4) (cpM m p oa ob (cfC S oa) (cfC S ob)) nc S' ∧ S'.1 19 = upd (S.1 19) 7 (nI (q + 1)) ∧ (∀ s t, oa = some s → ob = some t → S'.1 27 = upd (upd (S.1 27) (2 * q) (nI s)) (2 * q + 1) (nI t) ∧ S'.1 26 = upd (upd (S.1 26) s (nI q)) t (nI q)) ∧ (∀ r, r ≠ 13 → r ≠ 19 → r ≠ 26 → r ≠ 27 → S'.1 r = S.1 r) ∧ S'.2 = S.2
theorem rdCp {q : Nat} (hN : 5000 ≤ N) (hF : tkF z) (hS : CF z p m nc S) (h6 : S.1 19 6 = nI n) (hn : n ≤ 6) (h7 : S.1 19 7 = nI q) (hq : q ≤ 3) : pk (f_X4_readCouple N S) (fun r S' => (r = 0 ∧ ∃ f j, ((q = 3 ∧ f = 2 ∧ j = p) ∨ (q < 3 ∧ sqF z p [129, 2, 2, 59] f j)) ∧ fC z f j S' ∧ kCf S S') ∨ (r = 1 ∧ cpC z p n q nc m (spI (nsv S (S.2 18 (p + 1)) nc) n) (spI (nsv S (S.2 18 (p + 2)) nc) n) S S')) := by
  unfold f_X4_readCouple
  by_cases n3 : q < 3
  · rw [h7, if_pos (show nI q < 3 from nI_lt (b := 3) n3 (by decide))]
    rcases tk_cases z p 129 with k0 | ⟨f, k0⟩
    rotate_left
    · obtain ⟨S1, t1, t2, t3⟩ := tkn hF hS 129 (by decide) (x := 129) rfl k0
      rw [t1, bd_some, if_pos rfl, pk_some]
      exact Or.inl ⟨rfl, f, p, Or.inr ⟨n3, Or.inl ⟨k0, rfl⟩⟩, t2, t3.k⟩
    obtain ⟨t1, C1, F1⟩ := tkt hF hS 129 (by decide) (by decide) (x := 129) rfl k0
    rw [t1, bd_some, if_neg (by decide)]
    rcases tk_cases z (p + 1) 2 with k1 | ⟨f, k1⟩
    rotate_left
    · obtain ⟨S1, t1, t2, t3⟩ := tkn hF C1 2 (by decide) (x := 2) rfl k1
      rw [t1, bd_some, if_pos rfl, pk_some]
      exact Or.inl ⟨rfl, f, p + 1, Or.inr ⟨n3, Or.inr ⟨k0, Or.inl ⟨k1, rfl⟩⟩⟩, t2, F1.k.tr t3.k⟩
    obtain ⟨t1, C2, F2⟩ := tkt hF C1 2 (by decide) (by decide) (x := 2) rfl k1
    rw [t1, bd_some, if_neg (by decide)]
    have F12 := F1.tr F2
    refine pk_bdm (nmSp (n := n) hN hF C2 C1.2.2.1 (by rw [F12.1 19 (by decide)]; exact h6) hn) (fun ra S3 h => ?_)
    obtain ⟨F3, rfl, C3⟩ := h
    rw [nsv_eq F12, cfC_eq F12, F12.2.2] at C3
    rw [nsv_eq F12, F12.2.2]
    generalize hoa : spI (nsv S (S.2 18 (p + 1)) nc) n = oa at C3 ⊢
    have F13 := F12.tr F3
    rcases tk_cases z (p + 2) 2 with k2 | ⟨f, k2⟩
    rotate_left
    · obtain ⟨S1, t1, t2, t3⟩ := tkn hF C3 2 (by decide) (x := 2) rfl k2
      rw [t1, bd_some, if_pos rfl, pk_some]
      exact Or.inl ⟨rfl, f, p + 2, Or.inr ⟨n3, Or.inr ⟨k0, Or.inr ⟨k1, Or.inl ⟨k2, rfl⟩⟩⟩⟩, t2, F13.k.tr t3.k⟩
    obtain ⟨t1, C4, F4⟩ := tkt hF C3 2 (by decide) (by decide) (x := 2) rfl k2
    rw [t1, bd_some, if_neg (by decide)]
    have F14 := F13.tr F4
    refine pk_bdm (nmSp (n := n) hN hF C4 C3.2.2.1 (by rw [F14.1 19 (by decide)]; exact h6) hn) (fun rb S5 h => ?_)
    obtain ⟨F5, rfl, C5⟩ := h
    rw [nsv_eq F14, cfC_eq F14, F14.2.2] at C5
    rw [nsv_eq F14, F14.2.2, show p + 1 + 1 = p + 2 from rfl]
    rw [show p + 1 + 1 = p + 2 from rfl] at C5
    generalize hob : spI (nsv S (S.2 18 (p + 2)) nc) n = ob at C5 ⊢
    have F15 := F14.tr F5
    have ha : ∀ s, oa = some s → s < n := fun s h => (spI_some (by omega) (hoa.trans h)).1
    have hb : ∀ s, ob = some s → s < n := fun s h => (spI_some (by omega) (hob.trans h)).1
    have fin : ∀ (S6 : rx_S), c1F S S6 → CF z (p + 3) (cpM m p oa ob (cfC S oa) (cfC S ob)) nc S6 → pk (rx_bd (f_X8_addCouple 19 (oV oa) (oV ob) S6) (fun x25 S24 => rx_bd (f_X4_take 59 S24) (fun x28 S27 => rx_bl x28 (some (x28, S27))))) (fun r S' => (r = 0 ∧ ∃ f j, ((q = 3 ∧ f = 2 ∧ j = p) ∨ (q < 3 ∧ sqF z p [129, 2, 2, 59] f j)) ∧ fC z f j S' ∧ kCf S S') ∨ (r = 1 ∧ cpC z p n q nc m oa ob S S')) := by
      intro S6 F6 C6
      obtain ⟨S7, a1, a2, a3, a4, a5⟩ := addCp (S := S6) (by rw [F6.1 19 (by decide)]; exact h6) hn (by rw [F6.1 19 (by decide)]; exact h7) n3 ha hb
      rw [a1, bd_some]
      have F7 : kCf S6 S7 := ⟨fun k h => a3 k (by omega) (by omega) (by omega), fun k _ => by rw [a4]⟩
      obtain ⟨h1, h2', h3, h4, h5, h6', h7'⟩ := C6
      have e13 : S7.1 13 = S6.1 13 := a3 13 (by decide) (by decide) (by decide)
      have C7 : CF z (p + 3) (cpM m p oa ob (cfC S oa) (cfC S ob)) nc S7 := ⟨by rw [e13]; exact h1, by rw [e13]; exact h2', h3, F7.tk h4, h5.eq (by rw [e13]) (by rw [e13]), by rw [e13]; exact h6', h7'⟩
      have F07 := F6.k.tr F7
      refine last_ok (S0 := S) hF C7 (fun f S' k3 t2 t3 => Or.inl ⟨rfl, f, p + 3, Or.inr ⟨n3, Or.inr ⟨k0, Or.inr ⟨k1, Or.inr ⟨k2, Or.inl ⟨k3, rfl⟩⟩⟩⟩⟩, t2, F07.tr t3.k⟩) (fun k3 C8 => Or.inr ⟨rfl, n3, ⟨k0, k1, k2, k3, trivial⟩, F07.tr (kCf.ui (by omega)), C8, ?_, fun s t e1 e2 => ?_, fun r q1 q2 q3 q4 => ?_, ?_⟩)
      · rw [ui_row (by decide), a2, F6.1 19 (by decide)]
      · rw [ui_row (by decide), ui_row (by decide), (a5 s t e1 e2).1, (a5 s t e1 e2).2, F6.1 26 (by decide), F6.1 27 (by decide)]
        exact ⟨rfl, rfl⟩
      · rw [ui_row q1, a3 r q2 q3 q4, F6.1 r q1]
      · show S7.2 = _
        rw [a4, F6.2.2]
    have noS : sameB oa ob = false → cpM m p oa ob (cfC S oa) (cfC S ob) = mA (mA m (cfC S oa) (nmK oa) (p + 1)) (cfC S ob) (nmK ob) (p + 2) := fun h => by
      unfold cpM
      rw [h]
      exact if_neg (fun q => by cases q.1)
    rw [pk_let]
    cases oa with
    | none =>
      rw [if_pos (show oV none = -1 from rfl)]
      exact fin S5 F15 (by rw [noS rfl]; exact C5)
    | some s =>
      have hs := ha s rfl
      rw [if_neg (show ¬ oV (some s) = -1 from (nI_neg (by omega) (by decide)).1)]
      have hsame : oV (some s) = oV ob ↔ sameB (some s) ob = true := by
        cases ob with
        | none => exact ⟨fun e => absurd e (nI_neg (x := s) (c := -1) (by omega) (by decide)).1, fun e => by cases e⟩
        | some t =>
          have ht := hb t rfl
          show nI s = nI t ↔ decide (s = t) = true
          rw [nI_eq (by omega) (by omega), decide_eq_true_iff]
      by_cases e : oV (some s) = oV ob
      · obtain ⟨h1, h2', h3, h4, h5, h6', h7'⟩ := C5
        obtain ⟨S6, b1, b2, b3, b4, b5⟩ := blame_ok (k := 3) (j := p + 2) hF h4 h1 C3.2.2.1 h5 (by omega)
        rw [if_pos e, show (3 : Int32) = nI 3 from rfl, b1, bd_some]
        refine fin S6 (F15.tr b3) ⟨b4.trans h1, b5.trans h2', h3, b3.tk h4, ?_, (b3.2.1 4 (by decide) (by decide) (by decide) (by decide)).trans h6', h7'⟩
        unfold cpM
        rw [hsame.mp e]
        exact b2
      · rw [if_neg e]
        exact fin S5 F15 (by rw [noS (Bool.eq_false_iff.mpr (fun q => e (hsame.mpr q)))]; exact C5)
  · rw [h7, if_neg (show ¬ nI q < 3 from nI_nlt (b := 3) (by omega) (by omega))]
    exact pk_mono (refuse_ok hS) (fun r S' h => Or.inl ⟨h.1, 2, p, Or.inl ⟨by omega, rfl, rfl⟩, h.2.1, h.2.2.k⟩)
end FCE
