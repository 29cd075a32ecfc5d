/-! ===== THE INVARIANT of the law's loop ===== -/
def sav (T : tx) (n : Nat) (R st : Nat → Int32) : Prop := stR T R st ∧ ∃ w, w ≤ 60 * n ∧ WS T w st
def isB (x : Int32) : Prop := -128 ≤ x.toInt ∧ x.toInt < 128
def iTape (SC SM : rx_S) : Prop := ∃ len, len ≤ 2000 ∧ SC.1 0 1 = nI len ∧ SM.1 94 2 = nI len ∧ ∀ j, j < len → SC.1 1 j = SM.1 95 j ∧ isB (SC.1 1 j)
def iUndo (T : tx) (n : Nat) (SC SM : rx_S) : Prop := ∃ nx ds, nx < 40 ∧ ds ≤ 40 ∧ SC.1 33 3 = nI nx ∧ SC.1 33 4 = nI ds ∧ SM.1 94 52 = nI ds ∧ ∀ u, u < ds → sav T n (SC.1 (35 + (nx + (40 - ds) + u) % 40)) (fun k => SM.1 128 (48 * u + k))
def iHeld (T : tx) (n : Nat) (SC SM : rx_S) : Prop := ∀ s, s < 3 → (SC.1 79 s = 0 ∧ SM.1 137 s = 0) ∨ (SC.1 79 s = 1 ∧ SM.1 137 s = 1 ∧ sav T n (SC.1 (76 + s)) (fun k => SM.1 138 (48 * s + k)))
def iTold (SC SM : rx_S) : Prop := ∃ m, m ≤ 20 ∧ SC.1 91 4 = nI m ∧ SM.1 94 62 = nI m ∧ ∀ j, j < m → ∃ w p, w < 8 ∧ p < 9 ∧ SC.1 92 j = nI w ∧ SM.1 134 j = nI w ∧ SM.1 135 j = nI p ∧ SC.1 93 j = nI (if p = 8 then 1 else 8 + p)
def iText (N : Nat) (T : tx) (SC SM : rx_S) : Prop := WF T ∧ TC N T SC ∧ TM N T SM
def Inv (N n : Nat) (SC SM : rx_S) : Prop := iTape SC SM ∧ SC.1 0 2 = SM.1 94 17 ∧ SC.2 15 = zC.2 15 ∧ SM.2 101 = zM.2 101 ∧ iTold SC SM ∧ ∃ T, iText N T SC SM ∧ sav T n (SC.1 32) (SM.1 126) ∧ iUndo T n SC SM ∧ iHeld T n SC SM
/-- what of the class's cells the invariant reads -/
def kpC (k : Nat) : Prop := k ≤ 5 ∨ (8 ≤ k ∧ k ≤ 12) ∨ (32 ≤ k ∧ k ≤ 79) ∨ (91 ≤ k ∧ k ≤ 93)
def kpM (k j : Nat) : Prop := (k = 94 ∧ (j = 2 ∨ j = 17 ∨ j = 18 ∨ j = 52 ∨ j = 62)) ∨ k = 95 ∨ (104 ≤ k ∧ k ≤ 122) ∨ k = 126 ∨ k = 128 ∨ k = 134 ∨ k = 135 ∨ k = 137 ∨ k = 138
def iC (S S' : rx_S) : Prop := (∀ k, kpC k → S'.1 k = S.1 k) ∧ S'.2 = S.2
def iM (S S' : rx_S) : Prop := (∀ k j, kpM k j → S'.1 k j = S.1 k j) ∧ S'.2 = S.2
theorem iC.rf {S : rx_S} : iC S S := ⟨fun _ _ => rfl, rfl⟩
theorem iC.tr {S S' S'' : rx_S} (h : iC S S') (g : iC S' S'') : iC S S'' := ⟨fun k hk => (g.1 k hk).trans (h.1 k hk), g.2.trans h.2⟩
theorem iM.rf {S : rx_S} : iM S S := ⟨fun _ _ _ => rfl, rfl⟩
theorem iM.tr {S S' S'' : rx_S} (h : iM S S') (g : iM S' S'') : iM S S'' := ⟨fun k j hk => (g.1 k j hk).trans (h.1 k j hk), g.2.trans h.2⟩
theorem sC.i {S S' : rx_S} (h : sC S S') : iC S S' := ⟨fun k hk => h.1 k (by unfold kpC at hk; omega) (by unfold kpC at hk; omega), h.2⟩
theorem wC.i {kk : Nat} {S S' : rx_S} (h : wC kk S S') (hk : ¬ kpC kk) : iC S S' := ⟨fun k hq => h.1 k (by unfold kpC at hq; omega) (by unfold kpC at hq; omega) (fun e => hk (e ▸ hq)), h.2⟩
theorem fK.iC {kk : Nat} {S S' : rx_S} (h : fK kk S S') (hk : ¬ kpC kk) : iC S S' := ⟨fun k hq => h.1 k (fun e => hk (e ▸ hq)), h.2⟩
theorem iC.ag {S S' : rx_S} (h : iC S S') : agC S S' := fun k hk => h.1 k (by unfold kpC; omega)
theorem sM.i {S S' : rx_S} (h : sM S S') : iM S S' := ⟨fun k j hk => h.1 k j (by unfold kpM at hk; omega) (by unfold kpM at hk; omega) (by unfold kpM at hk; omega), h.2⟩
theorem wM.i {S S' : rx_S} (h : wM S S') : iM S S' := ⟨fun k j hk => h.1 k j (by unfold kpM at hk; omega) (by unfold kpM at hk; omega) (by unfold kpM at hk; omega) (by unfold kpM at hk; omega), h.2⟩
theorem iM.ag {S S' : rx_S} (h : iM S S') : agM S S' := ⟨fun k h1 h2 => funext fun j => h.1 k j (by unfold kpM; omega), h.1 94 18 (by unfold kpM; omega)⟩
theorem iM.row {S S' : rx_S} (h : iM S S') {k : Nat} (hk : k = 95 ∨ (104 ≤ k ∧ k ≤ 122) ∨ k = 126 ∨ k = 128 ∨ k = 134 ∨ k = 135 ∨ k = 137 ∨ k = 138) : S'.1 k = S.1 k := funext fun j => h.1 k j (Or.inr hk)
theorem iM.fld {S S' : rx_S} (h : iM S S') {j : Nat} (hj : j = 2 ∨ j = 17 ∨ j = 18 ∨ j = 52 ∨ j = 62) : S'.1 94 j = S.1 94 j := h.1 94 j (Or.inl ⟨rfl, hj⟩)
theorem sav.up {T : tx} {n : Nat} {R st : Nat → Int32} (h : sav T n R st) : sav T (n + 1) R st := by
  obtain ⟨h1, w, h2, h3⟩ := h
  exact ⟨h1, w, by omega, h3⟩
theorem Inv.keep {N n : Nat} {SC SM SC' SM' : rx_S} (h : Inv N n SC SM) (hc : iC SC SC') (hm : iM SM SM') : Inv N (n + 1) SC' SM' := by
  obtain ⟨⟨len, t1, t2, t3, t4⟩, hp, k1, k2, ⟨m, o1, o2, o3, o4⟩, T, ⟨hF, hTC, hTM⟩, hs, ⟨nx, ds, u1, u2, u3, u4, u5, u6⟩, hh⟩ := h
  have c0 := hc.1 0 (by unfold kpC; omega)
  have c1 := hc.1 1 (by unfold kpC; omega)
  have c32 := hc.1 32 (by unfold kpC; omega)
  have c33 := hc.1 33 (by unfold kpC; omega)
  have c79 := hc.1 79 (by unfold kpC; omega)
  have c91 := hc.1 91 (by unfold kpC; omega)
  have c92 := hc.1 92 (by unfold kpC; omega)
  have c93 := hc.1 93 (by unfold kpC; omega)
  refine ⟨⟨len, t1, ?_, ?_, fun j hj => ?_⟩, ?_, ?_, ?_, ⟨m, o1, ?_, ?_, fun j hj => ?_⟩, T, ⟨hF, hTC.ag hc.ag, hTM.ag hm.ag⟩, ?_, ⟨nx, ds, u1, u2, ?_, ?_, ?_, fun u hu => ?_⟩, fun s hs => ?_⟩
  · rw [c0]; exact t2
  · rw [hm.fld (by omega)]; exact t3
  · rw [c1, hm.row (by omega)]; exact t4 j hj
  · rw [c0, hm.fld (by omega)]; exact hp
  · rw [hc.2]; exact k1
  · rw [hm.2]; exact k2
  · rw [c91]; exact o2
  · rw [hm.fld (by omega)]; exact o3
  · rw [c92, c93, hm.row (k := 134) (by omega), hm.row (k := 135) (by omega)]; exact o4 j hj
  · rw [c32, hm.row (by omega)]; exact hs.up
  · rw [c33]; exact u3
  · rw [c33]; exact u4
  · rw [hm.fld (by omega)]; exact u5
  · have hlt : (nx + (40 - ds) + u) % 40 < 40 := Nat.mod_lt _ (by decide)
    rw [hc.1 _ (by unfold kpC; omega), hm.row (k := 128) (by omega)]; exact (u6 u hu).up
  · rw [c79, hm.row (k := 137) (by omega), hc.1 _ (by unfold kpC; omega), hm.row (k := 138) (by omega)]
    rcases hh s hs with e | ⟨e1, e2, e3⟩
    · exact Or.inl e
    · exact Or.inr ⟨e1, e2, e3.up⟩
/-- a question: both answer alike, and the invariant's cells stay -/
theorem st_q {N n : Nat} {SC SM : rx_S} {oC oM : Option (Int32 × rx_S)} {R : Int32} (h : Inv N n SC SM) (hc : pk oC (fun r S' => r = R ∧ iC SC S')) (hm : pk oM (fun r S' => r = R ∧ iM SM S')) : ∃ r SC' SM', oC = some (r, SC') ∧ oM = some (r, SM') ∧ Inv N (n + 1) SC' SM' := by
  obtain ⟨r, S', e, rfl, i⟩ := hc
  obtain ⟨r', S'', e', rfl, i'⟩ := hm
  exact ⟨_, _, _, e, e', h.keep i i'⟩
section ARG
variable {N : Nat} {T : tx} {SC SM : rx_S}
theorem in_cases {x : Int32} {t : Nat} (ht : t ≤ 1000) : (∃ i, i < t ∧ x = nI i) ∨ ¬ (0 ≤ x ∧ x < nI t) := by
  by_cases h : 0 ≤ x ∧ x < nI t
  · obtain ⟨j, hj, rfl⟩ := nI_of' h.1
    exact Or.inl ⟨j, (nI_ltI hj (by omega)).mp h.2, rfl⟩
  · exact Or.inr h
theorem in_pred {x : Int32} {t : Nat} (ht : t ≤ 1000) : (0 ≤ x ∧ x ≤ nI t - 1) ↔ (0 ≤ x ∧ x < nI t) := by
  have e : (nI t - 1).toInt = (t : Int) - 1 := i_sub (nI_toInt (by omega)) rfl (by omega) (by omega)
  rw [i_le (b := nI t - 1), i_lt, e, nI_toInt (by omega)]
  constructor
  · exact fun h => ⟨h.1, by omega⟩
  · exact fun h => ⟨h.1, by omega⟩
theorem in01 {x : Int32} {t i : Nat} (ht : t ≤ 1000) (hi : i < t) (e : x = nI i) : 0 ≤ x ∧ x < nI t := by
  rw [e]
  exact ⟨nI_pos' (by omega), nI_lt hi (by omega)⟩
theorem third_cases (hF : WF T) (hC : TC N T SC) (hM : TM N T SM) (x : Int32) : (∃ i, i < tT T ∧ x = nI i ∧ f_X8_hasThird 2 x SC = some (1, SC) ∧ f_X11_isThird x SM = some (1, SM)) ∨ (f_X8_hasThird 2 x SC = some (0, SC) ∧ f_X11_isThird x SM = some (0, SM)) := by
  have h4 := hF.2.2.1
  obtain ⟨lv, hlv, t⟩ := hM.1
  have e1 : f_X11_isThird x SM = some (if 0 ≤ x ∧ x < nI (tT T) then 1 else 0, SM) := by
    unfold f_X11_isThird
    rw [t.1, rx_gd_in (vp_in_nI hlv (by decide)), nI_clamp (by omega), t.2.2.2.1, in_eq, bd_some]
    simp only [in_pred (show tT T ≤ 1000 by omega)]
    split
    · exact rx_bl_in (Or.inr rfl)
    · exact rx_bl_in (Or.inl rfl)
  have e2 : f_X8_hasThird 2 x SC = some (if 0 ≤ x ∧ x < nI (tT T) then 1 else 0, SC) := by
    rw [hasThird_eq, hC.1.2.2.1]
  rcases in_cases (x := x) (t := tT T) (by omega) with ⟨i, hi, e⟩ | h
  · rw [if_pos (in01 (by omega) hi e)] at e1 e2
    exact Or.inl ⟨i, hi, e, e2, e1⟩
  · rw [if_neg h] at e1 e2
    exact Or.inr ⟨e2, e1⟩
theorem hasCouple_eq {S : rx_S} {x : Int32} {k : Nat} : f_X8_hasCouple k x S = some (if 0 ≤ x ∧ x < S.1 k 7 then 1 else 0, S) := by
  unfold f_X8_hasCouple
  by_cases h1 : x < 0
  · rw [if_pos h1, if_neg (fun q => i_nlt.mpr q.1 h1)]
  · rw [if_neg h1]
    by_cases h2 : S.1 k 7 ≤ x
    · rw [if_pos h2, if_neg (fun q => i_nle.mpr q.2 h2)]
    · rw [if_neg h2, if_pos ⟨i_nlt.mp h1, i_nle.mp h2⟩]
theorem hasSpouse_eq {S : rx_S} {x : Int32} {k : Nat} : f_X8_hasSpouse k x S = some (if 0 ≤ x ∧ x < S.1 k 6 then 1 else 0, S) := by
  unfold f_X8_hasSpouse
  by_cases h1 : x < 0
  · rw [if_pos h1, if_neg (fun q => i_nlt.mpr q.1 h1)]
  · rw [if_neg h1]
    by_cases h2 : S.1 k 6 ≤ x
    · rw [if_pos h2, if_neg (fun q => i_nle.mpr q.2 h2)]
    · rw [if_neg h2, if_pos ⟨i_nlt.mp h1, i_nle.mp h2⟩]
theorem couple_cases (hF : WF T) (hC : TC N T SC) (hM : TM N T SM) (x : Int32) : (∃ i, i < tC T ∧ x = nI i ∧ f_X8_hasCouple 2 x SC = some (1, SC) ∧ f_X11_isCouple x SM = some (1, SM)) ∨ (f_X8_hasCouple 2 x SC = some (0, SC) ∧ f_X11_isCouple x SM = some (0, SM)) := by
  have h4 := hF.2.1
  obtain ⟨lv, hlv, t⟩ := hM.1
  have e1 : f_X11_isCouple x SM = some (if 0 ≤ x ∧ x < nI (tC T) then 1 else 0, SM) := by
    unfold f_X11_isCouple
    rw [t.1, rx_gd_in (vp_in_nI hlv (by decide)), nI_clamp (by omega), t.2.2.1, in_eq, bd_some]
    simp only [in_pred (show tC T ≤ 1000 by omega)]
    split
    · exact rx_bl_in (Or.inr rfl)
    · exact rx_bl_in (Or.inl rfl)
  have e2 : f_X8_hasCouple 2 x SC = some (if 0 ≤ x ∧ x < nI (tC T) then 1 else 0, SC) := by
    rw [hasCouple_eq, hC.1.2.1]
  rcases in_cases (x := x) (t := tC T) (by omega) with ⟨i, hi, e⟩ | h
  · rw [if_pos (in01 (by omega) hi e)] at e1 e2
    exact Or.inl ⟨i, hi, e, e2, e1⟩
  · rw [if_neg h] at e1 e2
    exact Or.inr ⟨e2, e1⟩
theorem spouse_cases (hF : WF T) (hC : TC N T SC) (hM : TM N T SM) (x : Int32) : (∃ i, i < tS T ∧ x = nI i ∧ f_X8_hasSpouse 2 x SC = some (1, SC) ∧ f_X11_isSpouse x SM = some (1, SM)) ∨ (f_X8_hasSpouse 2 x SC = some (0, SC) ∧ f_X11_isSpouse x SM = some (0, SM)) := by
  have h4 := hF.1
  obtain ⟨lv, hlv, t⟩ := hM.1
  have e1 : f_X11_isSpouse x SM = some (if 0 ≤ x ∧ x < nI (tS T) then 1 else 0, SM) := by
    unfold f_X11_isSpouse
    rw [t.1, rx_gd_in (vp_in_nI hlv (by decide)), nI_clamp (by omega), t.2.1, in_eq, bd_some]
    simp only [in_pred (show tS T ≤ 1000 by omega)]
    split
    · exact rx_bl_in (Or.inr rfl)
    · exact rx_bl_in (Or.inl rfl)
  have e2 : f_X8_hasSpouse 2 x SC = some (if 0 ≤ x ∧ x < nI (tS T) then 1 else 0, SC) := by
    rw [hasSpouse_eq, hC.1.1]
  rcases in_cases (x := x) (t := tS T) (by omega) with ⟨i, hi, e⟩ | h
  · rw [if_pos (in01 (by omega) hi e)] at e1 e2
    exact Or.inl ⟨i, hi, e, e2, e1⟩
  · rw [if_neg h] at e1 e2
    exact Or.inr ⟨e2, e1⟩
theorem rng_cases {x y : Int32} {m : Nat} (hm : m < 1000) (hy : y = nI m) : (∃ w, w ≤ m ∧ x = nI w ∧ 0 ≤ x ∧ x ≤ y) ∨ ¬ (0 ≤ x ∧ x ≤ y) := by
  by_cases h : 0 ≤ x ∧ x ≤ y
  · obtain ⟨j, hj, rfl⟩ := nI_of' h.1
    have h2 := h.2
    rw [hy, nI_leI hj (by omega)] at h2
    exact Or.inl ⟨j, h2, rfl, h⟩
  · exact Or.inr h
theorem word_cases (x : Int32) : (∃ w, w < 8 ∧ x = nI w ∧ f_X10_isWord x SC = some (1, SC) ∧ f_X11_in x 0 7 SM = some (1, SM)) ∨ (f_X10_isWord x SC = some (0, SC) ∧ f_X11_in x 0 7 SM = some (0, SM)) := by
  have e : f_X10_isWord x SC = some (if 0 ≤ x ∧ x ≤ 7 then 1 else 0, SC) := by
    unfold f_X10_isWord
    have c7 : (7 : Int32).toInt = 7 := rfl
    have c8 : (8 : Int32).toInt = 8 := rfl
    by_cases h1 : x < 0
    · rw [if_pos h1, if_neg (fun q => i_nlt.mpr q.1 h1)]
    · rw [if_neg h1]
      by_cases h2 : 8 ≤ x
      · rw [if_pos h2, if_neg (fun q => by have := q.2; rw [i_le] at h2 this; omega)]
      · rw [if_neg h2, if_pos ⟨i_nlt.mp h1, by rw [i_le] at h2 ⊢; omega⟩]
  rcases rng_cases (x := x) (y := 7) (m := 7) (by decide) rfl with ⟨w, hw, hx, h⟩ | h
  · rw [if_pos h] at e
    exact Or.inl ⟨w, by omega, hx, e, by rw [in_eq, if_pos h]⟩
  · rw [if_neg h] at e
    exact Or.inr ⟨e, by rw [in_eq, if_neg h]⟩
theorem place_cases (x : Int32) : (∃ w, w < 5 ∧ x = nI w ∧ f_X10_isPlace x SC = some (1, SC) ∧ f_X11_in x 0 4 SM = some (1, SM)) ∨ (f_X10_isPlace x SC = some (0, SC) ∧ f_X11_in x 0 4 SM = some (0, SM)) := by
  have e : f_X10_isPlace x SC = some (if 0 ≤ x ∧ x ≤ 4 then 1 else 0, SC) := by
    unfold f_X10_isPlace
    have c7 : (4 : Int32).toInt = 4 := rfl
    have c8 : (5 : Int32).toInt = 5 := rfl
    by_cases h1 : x < 0
    · rw [if_pos h1, if_neg (fun q => i_nlt.mpr q.1 h1)]
    · rw [if_neg h1]
      by_cases h2 : 5 ≤ x
      · rw [if_pos h2, if_neg (fun q => by have := q.2; rw [i_le] at h2 this; omega)]
      · rw [if_neg h2, if_pos ⟨i_nlt.mp h1, by rw [i_le] at h2 ⊢; omega⟩]
  rcases rng_cases (x := x) (y := 4) (m := 4) (by decide) rfl with ⟨w, hw, hx, h⟩ | h
  · rw [if_pos h] at e
    exact Or.inl ⟨w, by omega, hx, e, by rw [in_eq, if_pos h]⟩
  · rw [if_neg h] at e
    exact Or.inr ⟨e, by rw [in_eq, if_neg h]⟩
theorem row_cases (hN : 5000 ≤ N) (x : Int32) : (∃ v, okr v ∧ x = nI v ∧ f_X5_isRow N x SC = some (1, SC) ∧ f_X11_isRow N x SM = some (1, SM)) ∨ (f_X5_isRow N x SC = some (0, SC) ∧ f_X11_isRow N x SM = some (0, SM)) := by
  unfold f_X5_isRow f_X11_isRow
  rw [size_eq hN, bd_some, wordsIn_eq hN, bd_some]
  rcases rsz_cases x with e | ⟨n, v, hn, e, h1, h2, h3⟩
  · rw [e]
    exact Or.inr ⟨rfl, rfl⟩
  · rw [h3]
    refine Or.inl ⟨v, ⟨n, hn, h1, h2⟩, e, ?_, ?_⟩
    · rw [if_neg]
      have : ∀ k : Nat, k ≤ 5 → ¬ nI k = -1 := by decide
      exact this n hn
    · rw [if_neg (nI_pos (by omega))]
end ARG
/-- copies() -/
def cM (T : tx) (S S' : rx_S) : Prop := (∀ j, j < 48 → S'.1 127 j = S.1 126 j) ∧ S'.1 94 51 = tE T ∧ (∀ k, k ≠ 127 → k ≠ 94 → S'.1 k = S.1 k) ∧ (∀ j, j ≠ 51 → S'.1 94 j = S.1 94 j) ∧ S'.2 = S.2
theorem cM.i {T : tx} {S S' : rx_S} (h : cM T S S') : iM S S' := ⟨fun k j hk => by
  by_cases e : k = 94
  · subst e
    exact h.2.2.2.1 j (by unfold kpM at hk; omega)
  · rw [h.2.2.1 k (by unfold kpM at hk; omega) e], h.2.2.2.2⟩
theorem cM.ws {T : tx} {S S' : rx_S} {w : Nat} (h : cM T S S') (hw : WS T w (S.1 126)) : WS T w (S'.1 127) := fun j => by
  by_cases hj : j < 48
  · rw [h.1 j hj]; exact hw j
  · exact wsj_any (by omega)
theorem cM.st {T : tx} {S S' : rx_S} {R : Nat → Int32} (h : cM T S S') (hr : stR T R (S.1 126)) : stR T R (S'.1 127) := hr.eq (fun j hj => h.1 j (by omega))
