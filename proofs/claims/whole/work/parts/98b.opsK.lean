/-! ===== say ===== -/
def ff (p : Nat → Bool) : Nat → Nat → Option Nat
  | 0, _ => none
  | m + 1, w => if p w = true then some w else ff p m (w + 1)
theorem ff_none {p : Nat → Bool} : ∀ m w, ff p m w = none → ∀ z, w ≤ z → z < w + m → p z = false := by
  intro m
  induction m with
  | zero => intro w _ z h1 h2; omega
  | succ m ih =>
    intro w h z h1 h2
    rw [ff] at h
    by_cases q : p w = true
    · rw [if_pos q] at h; cases h
    · rw [if_neg q] at h
      by_cases e : z = w
      · rw [e]; exact Bool.eq_false_iff.mpr q
      · exact ih (w + 1) h z (by omega) (by omega)
theorem ff_some {p : Nat → Bool} : ∀ m w z, ff p m w = some z → w ≤ z ∧ z < w + m ∧ p z = true ∧ ∀ y, w ≤ y → y < z → p y = false := by
  intro m
  induction m with
  | zero => intro w z h; cases h
  | succ m ih =>
    intro w z h
    rw [ff] at h
    by_cases q : p w = true
    · rw [if_pos q] at h
      cases h
      exact ⟨Nat.le_refl _, by omega, q, fun y h1 h2 => by omega⟩
    · rw [if_neg q] at h
      obtain ⟨h1, h2, h3, h4⟩ := ih (w + 1) z h
      refine ⟨by omega, by omega, h3, fun y h5 h6 => ?_⟩
      by_cases e : y = w
      · rw [e]; exact Bool.eq_false_iff.mpr q
      · exact h4 y (by omega) h6
def sok (P : Nat → Nat → Nat) (v n r had : Nat) (f : Nat → Option Nat) (w : Nat) : Bool := if P (n - (r + 1)) w = 8 then (f had).isSome else decide (had < rl v ∧ P (n - (r + 1)) w = wd v (rl v) had) && (f (had + 1)).isSome
def ms (P : Nat → Nat → Nat) (v n : Nat) : Nat → (Nat → Option Nat)
  | 0 => fun had => if had = rl v then some 0 else none
  | r + 1 => fun had => match ff (sok P v n r had (ms P v n r)) 8 0 with
    | none => none
    | some w => (ms P v n r (if P (n - (r + 1)) w = 8 then had else had + 1)).map (fun x => 8 ^ r * w + x)
def sg (P : Nat → Nat → Nat) (v n : Nat) : Nat → (Nat → Nat → Bool)
  | 0 => fun had _ => decide (had = rl v)
  | r + 1 => fun had x => if P (n - (r + 1)) (x / 8 ^ r % 8) = 8 then sg P v n r had (x % 8 ^ r) else decide (had < rl v ∧ P (n - (r + 1)) (x / 8 ^ r % 8) = wd v (rl v) had) && sg P v n r (had + 1) (x % 8 ^ r)
theorem ms_ok {P : Nat → Nat → Nat} {v n : Nat} : ∀ r had, (∀ x, ms P v n r had = some x → x < 8 ^ r ∧ sg P v n r had x = true ∧ ∀ y, y < x → sg P v n r had y = false) ∧ (ms P v n r had = none → ∀ y, y < 8 ^ r → sg P v n r had y = false) := by
  intro r
  induction r with
  | zero =>
    intro had
    refine ⟨fun x h => ?_, fun h y _ => ?_⟩
    · simp only [ms] at h
      by_cases q : had = rl v
      · rw [if_pos q] at h
        cases h
        exact ⟨by decide, by simp [sg, q], fun y hy => by omega⟩
      · rw [if_neg q] at h
        cases h
    · simp only [ms] at h
      by_cases q : had = rl v
      · rw [if_pos q] at h
        cases h
      · simp [sg, q]
  | succ r ih =>
    intro had
    have hp : 0 < 8 ^ r := Nat.pow_pos (by decide)
    have no : ∀ y, sok P v n r had (ms P v n r) (y / 8 ^ r % 8) = false → sg P v n (r + 1) had y = false := by
      intro y h
      have hm : y % 8 ^ r < 8 ^ r := Nat.mod_lt _ hp
      simp only [sg]
      unfold sok at h
      by_cases q : P (n - (r + 1)) (y / 8 ^ r % 8) = 8
      · rw [if_pos q] at h ⊢
        have : ms P v n r had = none := by
          cases e : ms P v n r had with
          | none => rfl
          | some x => rw [e] at h; cases h
        exact (ih had).2 this _ hm
      · rw [if_neg q] at h ⊢
        by_cases q2 : had < rl v ∧ P (n - (r + 1)) (y / 8 ^ r % 8) = wd v (rl v) had
        · rw [decide_eq_true q2, Bool.true_and] at h ⊢
          have : ms P v n r (had + 1) = none := by
            cases e : ms P v n r (had + 1) with
            | none => rfl
            | some x => rw [e] at h; cases h
          exact (ih (had + 1)).2 this _ hm
        · rw [decide_eq_false q2, Bool.false_and]
    refine ⟨fun x h => ?_, fun h y hy => ?_⟩
    · simp only [ms] at h
      cases e : ff (sok P v n r had (ms P v n r)) 8 0 with
      | none => rw [e] at h; cases h
      | some w =>
        rw [e] at h
        obtain ⟨-, hw8, hsw, hlt⟩ := ff_some 8 0 w e
        simp only at h
        cases e2 : ms P v n r (if P (n - (r + 1)) w = 8 then had else had + 1) with
        | none => rw [e2] at h; cases h
        | some x' =>
          rw [e2] at h
          simp only [Option.map_some, Option.some.injEq] at h
          obtain ⟨hx1, hx2, hx3⟩ := (ih _).1 x' e2
          have hdx : ∀ z, z < 8 ^ r → (8 ^ r * w + z) / 8 ^ r % 8 = w ∧ (8 ^ r * w + z) % 8 ^ r = z := fun z hz => by
            rw [Nat.mul_add_div hp, Nat.div_eq_of_lt hz, Nat.add_zero, Nat.mul_add_mod, Nat.mod_eq_of_lt hz]
            exact ⟨Nat.mod_eq_of_lt (by omega), rfl⟩
          have hsg : ∀ z, z < 8 ^ r → sg P v n (r + 1) had (8 ^ r * w + z) = sg P v n r (if P (n - (r + 1)) w = 8 then had else had + 1) z := fun z hz => by
            simp only [sg]
            rw [(hdx z hz).1, (hdx z hz).2]
            unfold sok at hsw
            by_cases q : P (n - (r + 1)) w = 8
            · rw [if_pos q, if_pos q]
            · rw [if_neg q] at hsw
              rw [if_neg q, if_neg q]
              by_cases q2 : had < rl v ∧ P (n - (r + 1)) w = wd v (rl v) had
              · rw [decide_eq_true q2, Bool.true_and]
              · rw [decide_eq_false q2, Bool.false_and] at hsw; cases hsw
          subst h
          have hb : 8 ^ r * w + 8 ^ r ≤ 8 ^ (r + 1) := by
            rw [Nat.pow_succ, ← Nat.mul_succ]
            exact Nat.mul_le_mul_left _ (by omega)
          refine ⟨by omega, by rw [hsg x' hx1]; exact hx2, fun y hy => ?_⟩
          have hyd : y / 8 ^ r ≤ w := by
            have : y / 8 ^ r < w + 1 := (Nat.div_lt_iff_lt_mul hp).mpr (by rw [Nat.mul_comm, Nat.mul_succ]; omega)
            omega
          have hyw : y / 8 ^ r % 8 = y / 8 ^ r := Nat.mod_eq_of_lt (by omega)
          by_cases q : y / 8 ^ r = w
          · have ey : y = 8 ^ r * w + y % 8 ^ r := by
              have := Nat.div_add_mod y (8 ^ r)
              rw [q] at this
              omega
            have hz : y % 8 ^ r < x' := by omega
            rw [ey, hsg _ (by omega)]
            exact hx3 _ hz
          · exact no y (by rw [hyw]; exact hlt _ (Nat.zero_le _) (by omega))
    · simp only [ms] at h
      cases e : ff (sok P v n r had (ms P v n r)) 8 0 with
      | none =>
        have h8 : y / 8 ^ r % 8 < 8 := Nat.mod_lt _ (by decide)
        exact no y (ff_none 8 0 e _ (Nat.zero_le _) (by omega))
      | some w =>
        rw [e] at h
        obtain ⟨-, hw8, hsw, -⟩ := ff_some 8 0 w e
        exfalso
        simp only [Option.map_eq_none_iff] at h
        unfold sok at hsw
        by_cases q : P (n - (r + 1)) w = 8
        · rw [if_pos q] at h hsw
          rw [h] at hsw
          cases hsw
        · rw [if_neg q] at h hsw
          rw [h] at hsw
          simp at hsw
/-- going on from a value -/
def rn (P : Nat → Nat → Nat) (n : Nat) : Nat → (Nat → Nat → Nat)
  | 0 => fun c _ => c
  | r + 1 => fun c x => if P (n - (r + 1)) (x / 8 ^ r % 8) = 8 then rn P n r c (x % 8 ^ r) else rn P n r (8 * c + P (n - (r + 1)) (x / 8 ^ r % 8)) (x % 8 ^ r)
theorem rn_pre {P : Nat → Nat → Nat} {v n : Nat} (hP : ∀ a w, w < 8 → P a w < 9) : ∀ r c x, rn P n r c x = v → ∃ k, c = v / 8 ^ k := by
  intro r
  induction r with
  | zero => intro c x h; exact ⟨0, by rw [Nat.pow_zero, Nat.div_one]; exact h⟩
  | succ r ih =>
    intro c x h
    simp only [rn] at h
    have h9 := hP (n - (r + 1)) (x / 8 ^ r % 8) (Nat.mod_lt _ (by decide))
    by_cases q : P (n - (r + 1)) (x / 8 ^ r % 8) = 8
    · rw [if_pos q] at h
      exact ih _ _ h
    · rw [if_neg q] at h
      obtain ⟨k, hk⟩ := ih _ _ h
      refine ⟨k + 1, ?_⟩
      rw [Nat.pow_succ, ← Nat.div_div_eq_div_mul, ← hk]
      omega
theorem pre_size {v L k : Nat} (h1 : 8 ^ L ≤ v) (h2 : v < 2 * 8 ^ L) (hk : k ≤ L) : 8 ^ (L - k) ≤ v / 8 ^ k ∧ v / 8 ^ k < 2 * 8 ^ (L - k) := by
  have hp : 0 < 8 ^ k := Nat.pow_pos (by decide)
  have e : 8 ^ L = 8 ^ (L - k) * 8 ^ k := by rw [← Nat.pow_add, Nat.sub_add_cancel hk]
  refine ⟨(Nat.le_div_iff_mul_le hp).mpr (by rw [← e]; exact h1), (Nat.div_lt_iff_lt_mul hp).mpr ?_⟩
  rw [Nat.mul_assoc, ← e]
  exact h2
theorem size_inj {a b x : Nat} (h1 : 8 ^ a ≤ x) (h2 : x < 2 * 8 ^ a) (h3 : 8 ^ b ≤ x) (h4 : x < 2 * 8 ^ b) : a = b := by
  rcases Nat.lt_trichotomy a b with h | h | h
  · have := Nat.pow_le_pow_right (n := 8) (by decide) (show a + 1 ≤ b from h)
    rw [Nat.pow_succ] at this
    omega
  · exact h
  · have := Nat.pow_le_pow_right (n := 8) (by decide) (show b + 1 ≤ a from h)
    rw [Nat.pow_succ] at this
    omega
theorem rn_sg {P : Nat → Nat → Nat} {v n : Nat} (hP : ∀ a w, w < 8 → P a w < 9) (hv : okr v) : ∀ r had x, had ≤ rl v → (rn P n r (v / 8 ^ (rl v - had)) x = v ↔ sg P v n r had x = true) := by
  obtain ⟨L, hL, g1, g2⟩ := hv
  rw [rl_of hL g1 g2]
  intro r
  induction r with
  | zero =>
    intro had x hh
    simp only [rn, sg]
    rw [rl_of hL g1 g2, decide_eq_true_iff]
    have hs := pre_size g1 g2 (show L - had ≤ L by omega)
    constructor
    · intro e
      rw [e] at hs
      have := size_inj g1 g2 hs.1 hs.2
      omega
    · intro e
      rw [e, Nat.sub_self, Nat.pow_zero, Nat.div_one]
  | succ r ih =>
    intro had x hh
    simp only [rn, sg]
    rw [rl_of hL g1 g2]
    have h9 := hP (n - (r + 1)) (x / 8 ^ r % 8) (Nat.mod_lt _ (by decide))
    generalize P (n - (r + 1)) (x / 8 ^ r % 8) = p at *
    by_cases q : p = 8
    · rw [if_pos q, if_pos q]
      exact ih had _ hh
    · rw [if_neg q, if_neg q]
      have hpre : had < L → 8 * (v / 8 ^ (L - had)) + wd v L had = v / 8 ^ (L - (had + 1)) := by
        intro hl
        unfold wd
        have e1 : L - had = (L - (had + 1)) + 1 := by omega
        have e2 : L - 1 - had = L - (had + 1) := by omega
        rw [e1, e2, Nat.pow_succ, ← Nat.div_div_eq_div_mul]
        have := Nat.div_add_mod (v / 8 ^ (L - (had + 1))) 8
        omega
      by_cases q2 : had < L ∧ p = wd v L had
      · rw [decide_eq_true q2, Bool.true_and, q2.2, hpre q2.1]
        exact ih (had + 1) _ q2.1
      · rw [decide_eq_false q2, Bool.false_and]
        refine ⟨fun e => ?_, fun e => by cases e⟩
        exfalso
        obtain ⟨k, hk⟩ := rn_pre hP _ _ _ e
        have hs := pre_size g1 g2 (show L - had ≤ L by omega)
        rw [show L - (L - had) = had by omega] at hs
        have hc : 8 ^ (had + 1) ≤ 8 * (v / 8 ^ (L - had)) + p ∧ 8 * (v / 8 ^ (L - had)) + p < 2 * 8 ^ (had + 1) := by
          rw [Nat.pow_succ]
          omega
        have hkL : k ≤ L := by
          apply Classical.byContradiction
          intro z
          have : v / 8 ^ k = 0 := Nat.div_eq_of_lt (Nat.lt_of_lt_of_le g2 (by
            have := Nat.pow_le_pow_right (n := 8) (by decide) (show L + 1 ≤ k by omega)
            rw [Nat.pow_succ] at this
            omega))
          rw [this] at hk
          have : 0 < 8 ^ (had + 1) := Nat.pow_pos (by decide)
          omega
        have hs2 := pre_size g1 g2 hkL
        rw [← hk] at hs2
        have e3 := size_inj hc.1 hc.2 hs2.1 hs2.2
        have hl : had < L := by omega
        have e4 : k = L - (had + 1) := by omega
        rw [e4, ← hpre hl] at hk
        exact q2 ⟨hl, by omega⟩
/-- what both find -/
def sy (P : Nat → Nat → Nat) (v : Nat) : Nat → Nat → Int32
  | 0, _ => -2
  | m + 1, n => match ms P v n n 0 with
    | some x => nI (8 ^ n + x)
    | none => sy P v m (n + 1)
section OPK
variable {N : Nat} {T : tx} {n : Nat} {SC SM SC' SM' : rx_S} {st : Nat → Int32} {w0 : Nat} {P : Nat → Nat → Nat} {v : Nat}
theorem p8_le {n : Nat} (h : n ≤ 4) : 8 ^ n ≤ 4096 := Nat.pow_le_pow_right (n := 8) (by decide) h
theorem pw_L (hN : 5000 ≤ N) {S : rx_S} (hP : ∀ a w, w < 8 → P a w < 9) (hc : ∀ a w, a < 4 → w < 8 → S.1 129 (8 * a + w) = nI (P a w)) {said nn : Nat} (hn : nn ≤ 4) (hs : said < 2 ^ 31) : ∀ (r f k c : Nat), k + r = nn → r < f → c < 2 * 8 ^ k → f_X11_putWith_L5 N f (nI said) (nI nn) (nI c) (nI k) S = some (nI (rn P nn r c (said % 8 ^ r)), S) := by
  intro r
  induction r with
  | zero =>
    intro f k c hk hf hcc
    obtain ⟨f, rfl⟩ : ∃ q, f = q + 1 := ⟨f - 1, by omega⟩
    rw [f_X11_putWith_L5, if_pos (nI_le (by omega) (by omega))]
    rfl
  | succ r ih =>
    intro f k c hk hf hcc
    obtain ⟨f, rfl⟩ : ∃ q, f = q + 1 := ⟨f - 1, by omega⟩
    have hp : 0 < 8 ^ r := Nat.pow_pos (by decide)
    have hw := wd_lt said nn k
    have h9 := hP k (wd said nn k) hw
    have c8 : (8 : Int32) * nI k = nI (8 * k) := nI_mul 8 k
    have hk4 : 8 ^ k ≤ 4096 := p8_le (by omega)
    rw [f_X11_putWith_L5, if_neg (nI_ge (by omega) (by omega)), wordIn_eq hN hs (by omega) (by omega), bd_some, c8, nI_add, rx_gd_in (vp_in_nI (by omega) (by decide)), nI_clamp (by omega), hc k _ (by omega) hw]
    simp only [rx_let, nI_1]
    have ek : nn - (r + 1) = k := by omega
    have ed : said % 8 ^ (r + 1) / 8 ^ r % 8 = wd said nn k := by
      unfold wd
      rw [show nn - 1 - k = r by omega, Nat.pow_succ, Nat.mod_mul_right_div_self, Nat.mod_mod]
    have em : said % 8 ^ (r + 1) % 8 ^ r = said % 8 ^ r := by
      rw [Nat.pow_succ]
      exact Nat.mod_mul_right_mod said (8 ^ r) 8
    simp only [rn]
    rw [ed, em, ek]
    by_cases q : P k (wd said nn k) = 8
    · rw [if_pos (show (8 : Int32) ≤ nI (P k (wd said nn k)) by rw [q]; decide), if_pos q]
      exact ih f (k + 1) c (by omega) (by omega) (by rw [Nat.pow_succ]; omega)
    · have c88 : (8 : Int32) * nI c = nI (8 * c) := nI_mul 8 c
      rw [if_neg (show ¬ (8 : Int32) ≤ nI (P k (wd said nn k)) from nI_ge (b := 8) (by omega) (by decide)), if_neg q, c88, nI_add]
      exact ih f (k + 1) _ (by omega) (by omega) (by rw [Nat.pow_succ]; omega)
theorem sr39_L (hN : 5000 ≤ N) {S : rx_S} (hv : okr v) (hP : ∀ a w, w < 8 → P a w < 9) (hc : ∀ a w, a < 4 → w < 8 → S.1 129 (8 * a + w) = nI (P a w)) {nn : Nat} (hn : nn ≤ 4) {K : Int32 → Int32 → rx_S → Option (Int32 × rx_S)} : ∀ (m f y : Nat), y + m = 8 ^ nn → m < f → (∀ z, z < y → sg P v nn nn 0 z = false) → f_X11_say_L39 N K f (nI v) (nI nn) (nI (8 ^ nn + y)) S = (match ms P v nn nn 0 with | some x => some (nI (8 ^ nn + x), S) | none => K (nI v) (nI nn) S) := by
  intro m
  have hb := p8_le hn
  have hv17 := okr_lt hv
  have c2 : (2 : Int32) * nI (8 ^ nn) = nI (2 * 8 ^ nn) := nI_mul 2 _
  induction m with
  | zero =>
    intro f y hy hf hz
    obtain ⟨f, rfl⟩ : ∃ q, f = q + 1 := ⟨f - 1, by omega⟩
    rw [f_X11_say_L39, eights_eq hN (by omega), bd_some, c2, if_pos (nI_le (by omega) (by omega))]
    cases e : ms P v nn nn 0 with
    | none => rfl
    | some x =>
      obtain ⟨h1, h2, -⟩ := (ms_ok nn 0).1 x e
      rw [hz x (by omega)] at h2
      cases h2
  | succ m ih =>
    intro f y hy hf hz
    obtain ⟨f, rfl⟩ : ∃ q, f = q + 1 := ⟨f - 1, by omega⟩
    have ep := pw_L hN hP hc (said := 8 ^ nn + y) (nn := nn) hn (by omega) nn N 0 1 (by omega) (by omega) (by decide)
    have ep : f_X11_putWith N (nI (8 ^ nn + y)) (nI nn) S = some (nI (rn P nn nn 1 ((8 ^ nn + y) % 8 ^ nn)), S) := ep
    rw [Nat.add_mod_left, Nat.mod_eq_of_lt (show y < 8 ^ nn by omega)] at ep
    rw [f_X11_say_L39, eights_eq hN (by omega), bd_some, c2, if_neg (nI_ge (by omega) (by omega)), ep, bd_some]
    have e1 : v / 8 ^ (rl v - 0) = 1 := by
      obtain ⟨L, hL, g1, g2⟩ := id hv
      rw [rl_of hL g1 g2]
      have := pre_size g1 g2 (Nat.le_refl L)
      rw [Nat.sub_self, Nat.pow_zero] at this
      rw [Nat.sub_zero]
      omega
    have hq := rn_sg (n := nn) hP hv nn 0 y (Nat.zero_le _)
    rw [e1] at hq
    have hbd : rn P nn nn 1 y < 2 ^ 31 := by
      have key : ∀ r c x k, c < 2 * 8 ^ k → rn P nn r c x < 2 * 8 ^ (k + r) := by
        intro r
        induction r with
        | zero => intro c x k h; exact h
        | succ r ihr =>
          intro c x k h
          simp only [rn]
          have h9 := hP (nn - (r + 1)) (x / 8 ^ r % 8) (Nat.mod_lt _ (by decide))
          split
          · have := ihr c (x % 8 ^ r) (k + 1) (by rw [Nat.pow_succ]; omega)
            rw [show k + (r + 1) = k + 1 + r by omega]
            exact this
          · have := ihr (8 * c + P (nn - (r + 1)) (x / 8 ^ r % 8)) (x % 8 ^ r) (k + 1) (by rw [Nat.pow_succ]; omega)
            rw [show k + (r + 1) = k + 1 + r by omega]
            exact this
      have := key nn 1 y 0 (by decide)
      rw [Nat.zero_add] at this
      omega
    have hq2 : nI (rn P nn nn 1 y) = nI v ↔ sg P v nn nn 0 y = true := by
      rw [nI_eq hbd (by omega)]
      exact hq
    simp only [rx_let]
    by_cases q : sg P v nn nn 0 y = true
    · rw [if_pos (hq2.mpr q)]
      cases e : ms P v nn nn 0 with
      | none =>
        rw [(ms_ok nn 0).2 e y (by omega)] at q
        cases q
      | some x =>
        obtain ⟨h1, h2, h3⟩ := (ms_ok nn 0).1 x e
        rcases Nat.lt_trichotomy x y with h | h | h
        · rw [hz x h] at h2; cases h2
        · rw [h]
        · rw [h3 y h] at q; cases q
    · rw [if_neg (fun z => q (hq2.mp z)), nI_1]
      refine ih f (y + 1) (by omega) (by omega) (fun z hz2 => ?_)
      by_cases e : z = y
      · rw [e]; exact Bool.eq_false_iff.mpr q
      · exact hz z (by omega)
theorem sr28_L (hN : 5000 ≤ N) {S : rx_S} (hv : okr v) (hP : ∀ a w, w < 8 → P a w < 9) (hc : ∀ a w, a < 4 → w < 8 → S.1 129 (8 * a + w) = nI (P a w)) : ∀ (m f nn : Nat), nn + m = 5 → m < f → f_X11_say_L28 N f (nI v) (nI nn) S = some (sy P v m nn, S) := by
  intro m
  induction m with
  | zero =>
    intro f nn hn hf
    obtain ⟨f, rfl⟩ : ∃ q, f = q + 1 := ⟨f - 1, by omega⟩
    rw [f_X11_say_L28, if_pos (show (4 : Int32) < nI nn from nI_lt (a := 4) (by omega) (by omega))]
    rfl
  | succ m ih =>
    intro f nn hn hf
    obtain ⟨f, rfl⟩ : ∃ q, f = q + 1 := ⟨f - 1, by omega⟩
    have hb := p8_le (show nn ≤ 4 by omega)
    rw [f_X11_say_L28, if_neg (show ¬ (4 : Int32) < nI nn from nI_nlt (a := 4) (b := nn) (by omega) (by decide)), eights_eq hN (by omega), bd_some]
    simp only [rx_let]
    have e := sr39_L hN hv hP hc (nn := nn) (by omega) (K := fun x25 x26 S27 => f_X11_say_L28 N f x25 (x26 + 1) S27) (8 ^ nn) N 0 (by omega) (by omega) (fun z hz => absurd hz (by omega))
    rw [Nat.add_zero] at e
    rw [e, sy]
    cases ms P v nn nn 0 with
    | some x => rfl
    | none =>
      simp only
      rw [nI_1]
      exact ih f (nn + 1) (by omega) (by omega)
theorem fpt_L (hN : 5000 ≤ N) {S : rx_S} (hF : WF T) (hT : TM N T S) {i : Nat} (hi : i < tT T) : ∀ (m f k : Nat) (S1 : rx_S), k + m = 32 → m < f → xM 129 S S1 → (∀ q, q < k → S1.1 129 q = nI (pt T (S.1 127) i (q % 8) (q / 8))) → pk (f_X11_fillsPut_L2 N f (nI i) (nI k) S1) (fun _ S' => xM 129 S S' ∧ ∀ q, q < 32 → S'.1 129 q = nI (pt T (S.1 127) i (q % 8) (q / 8))) := by
  intro m
  induction m with
  | zero =>
    intro f k S1 hk hf hs h1
    obtain ⟨f, rfl⟩ : ∃ q, f = q + 1 := ⟨f - 1, by omega⟩
    have : k = 32 := by omega
    subst this
    rw [f_X11_fillsPut_L2, if_pos (by decide), pk_some]
    exact ⟨hs, h1⟩
  | succ m ih =>
    intro f k S1 hk hf hs h1
    obtain ⟨f, rfl⟩ : ∃ q, f = q + 1 := ⟨f - 1, by omega⟩
    have e1 : rx_rem (nI k) 8 = nI (k % 8) := nI_rem (b := 8) (by omega) (by decide)
    have e2 : nI k / 8 = nI (k / 8) := nI_div (b := 8) (by omega) (by decide)
    rw [f_X11_fillsPut_L2, if_neg (show ¬ (32 : Int32) ≤ nI k from nI_ge (b := 32) (by omega) (by decide)), e1, e2]
    refine pk_bdm (putAs_ok (w := k % 8) (p := k / 8) hN hF (hT.ag (hs.ag (by decide))) hi) (fun r S2 h2 => ?_)
    rw [hs.st (by decide)] at h2
    rw [pk_gdn (by omega) (by decide), pk_let, pk_let, nI_1, nI_clamp (by omega), h2.1]
    refine ih f (k + 1) _ (by omega) (by omega) ((hs.tr h2.2.x).tr xM.u) (fun q hq => ?_)
    rw [ui_same]
    by_cases e : q = k
    · rw [e, upd_at]
    · rw [upd_ne e, h2.2.row (by decide) (by decide) (by decide)]
      exact h1 q (by omega)
/-- the class's tables -/
def eC (S S' : rx_S) : Prop := (∀ k, k ≠ 6 → k ≠ 7 → k ≠ 84 → k ≠ 85 → S'.1 k = S.1 k) ∧ S'.2 = S.2
theorem eC.rf {S : rx_S} : eC S S := ⟨fun _ _ _ _ _ => rfl, rfl⟩
theorem eC.tr {S S' S'' : rx_S} (h : eC S S') (g : eC S' S'') : eC S S'' := ⟨fun k h1 h2 h3 h4 => (g.1 k h1 h2 h3 h4).trans (h.1 k h1 h2 h3 h4), g.2.trans h.2⟩
theorem eC.i {S S' : rx_S} (h : eC S S') : iC S S' := ⟨fun k hq => h.1 k (by unfold kpC at hq; omega) (by unfold kpC at hq; omega) (by unfold kpC at hq; omega) (by unfold kpC at hq; omega), h.2⟩
theorem wC.e4 {S S' : rx_S} (h : wC 84 S S') : eC S S' := ⟨fun k h1 h2 h3 _ => h.1 k h1 h2 h3, h.2⟩
theorem fK.e5 {S S' : rx_S} (h : fK 85 S S') : eC S S' := ⟨fun k _ _ _ h4 => h.1 k h4, h.2⟩
theorem rp12_L (hN : 5000 ≤ N) {S : rx_S} (hF : WF T) (hT : TC N T S) (hR : stR T (S.1 32) st) (hW : WS T w0 st) {i a : Nat} {y : Int32} (hi : i < tT T) (ha : a < 4) {Q : Int32 → rx_S → Prop} {K : Int32 → Int32 → Int32 → rx_S → Option (Int32 × rx_S)} (kk : ∀ S', wC 84 S S' → (∀ b w, (b < a + 1) → w < 8 → S'.1 84 (b * 8 + w) = nI (pt T st i w b)) → pk (K (nI i) y (nI a) S') Q) : ∀ (m f w : Nat) (S1 : rx_S), w + m = 8 → m < f → wC 84 S S1 → (∀ b q, (b < a ∨ (b = a ∧ q < w)) → q < 8 → S1.1 84 (b * 8 + q) = nI (pt T st i q b)) → pk (f_X6_rowPutAs_L12 N K f (nI i) y (nI a) (nI w) S1) Q := by
  intro m
  induction m with
  | zero =>
    intro f w S1 hw hf hs h1
    obtain ⟨f, rfl⟩ : ∃ q, f = q + 1 := ⟨f - 1, by omega⟩
    rw [f_X6_rowPutAs_L12, if_pos (show (8 : Int32) ≤ nI w from nI_le (a := 8) (by omega) (by omega))]
    exact kk S1 hs (fun b q hb hq => h1 b q (by omega) hq)
  | succ m ih =>
    intro f w S1 hw hf hs h1
    obtain ⟨f, rfl⟩ : ∃ q, f = q + 1 := ⟨f - 1, by omega⟩
    have c8 : nI a * 8 = nI (a * 8) := nI_mul a 8
    rw [f_X6_rowPutAs_L12, if_neg (show ¬ (8 : Int32) ≤ nI w from nI_ge (b := 8) (by omega) (by decide))]
    refine pk_bdm (putWord_ok (w := w) (p := a) hN hF (hT.ag (hs.ag (by decide))) (by decide) (hR.w (by decide) hs) hW hi) (fun r S2 h2 => ?_)
    rw [c8, nI_add, pk_gdn (by omega) (by decide), pk_let, pk_let, nI_1, nI_clamp (by omega), h2.1]
    refine ih f (w + 1) _ (by omega) (by omega) ((hs.tr h2.2.w).tr wC.u) (fun b q hb hq => ?_)
    rw [ui_same]
    by_cases e : b = a ∧ q = w
    · rw [e.1, e.2, upd_at]
    · rw [upd_ne (by omega), h2.2.1 84 (by decide) (by decide)]
      exact h1 b q (by omega) hq
theorem rp3_L (hN : 5000 ≤ N) {S : rx_S} (hF : WF T) (hT : TC N T S) (hR : stR T (S.1 32) st) (hW : WS T w0 st) {i : Nat} {y : Int32} (hi : i < tT T) {Q : Int32 → rx_S → Prop} {K : Int32 → rx_S → Option (Int32 × rx_S)} (kk : ∀ S', wC 84 S S' → (∀ b w, b < 4 → w < 8 → S'.1 84 (b * 8 + w) = nI (pt T st i w b)) → pk (K y S') Q) : ∀ (m f a : Nat) (S1 : rx_S), a + m = 4 → m < f → wC 84 S S1 → (∀ b q, b < a → q < 8 → S1.1 84 (b * 8 + q) = nI (pt T st i q b)) → pk (f_X6_rowPutAs_L3 N K f (nI i) y (nI a) S1) Q := by
  intro m
  induction m with
  | zero =>
    intro f a S1 ha hf hs h1
    obtain ⟨f, rfl⟩ : ∃ q, f = q + 1 := ⟨f - 1, by omega⟩
    rw [f_X6_rowPutAs_L3, if_pos (show (4 : Int32) ≤ nI a from nI_le (a := 4) (by omega) (by omega))]
    exact kk S1 hs (fun b q hb hq => h1 b q (by omega) hq)
  | succ m ih =>
    intro f a S1 ha hf hs h1
    obtain ⟨f, rfl⟩ : ∃ q, f = q + 1 := ⟨f - 1, by omega⟩
    rw [f_X6_rowPutAs_L3, if_neg (show ¬ (4 : Int32) ≤ nI a from nI_ge (b := 4) (by omega) (by decide)), pk_let]
    refine rp12_L (S := S) hN hF hT hR hW hi (show a < 4 by omega) (fun S2 h2 g2 => ?_) 8 N 0 S1 (by omega) (by omega) hs (fun b q hb hq => h1 b q (by omega) hq)
    rw [pk_let, nI_1]
    exact ih f (a + 1) S2 (by omega) (by omega) h2 g2
def fwv (o : Option Nat) : Int32 := match o with | some w => nI w | none => -1
/-- a fitting word -/
theorem fit_L {S : rx_S} {nn r a had : Nat} (hv : okr v) (hP : ∀ a w, w < 8 → P a w < 9) (hc : ∀ b w, b < 4 → w < 8 → S.1 84 (b * 8 + w) = nI (P b w)) (hn : nn ≤ 4) (ha : a + (r + 1) = nn) (hh : had ≤ 5) (he : ∀ q, q ≤ 5 → S.1 85 ((a + 1) * 6 + q) = if (ms P v nn r q).isSome = true then 1 else 0) : ∀ (m f w : Nat), w + m = 8 → m < f → f_X6_fittingWord_L9 N f (nI a) (nI had) (nI v) (nI (rl v)) (nI w) S = some (fwv (ff (sok P v nn r had (ms P v nn r)) m w), S) := by
  intro m
  have hL := rl_le v
  have hv17 := okr_lt hv
  have n1 : ¬ (1 : Int32) = 0 := by decide
  induction m with
  | zero =>
    intro f w hw hf
    obtain ⟨f, rfl⟩ : ∃ q, f = q + 1 := ⟨f - 1, by omega⟩
    rw [f_X6_fittingWord_L9, if_pos (show (8 : Int32) ≤ nI w from nI_le (a := 8) (by omega) (by omega))]
    rfl
  | succ m ih =>
    intro f w hw hf
    obtain ⟨f, rfl⟩ : ∃ q, f = q + 1 := ⟨f - 1, by omega⟩
    have c8 : nI a * 8 = nI (a * 8) := nI_mul a 8
    have c6 : nI (a + 1) * 6 = nI ((a + 1) * 6) := nI_mul (a + 1) 6
    have h9 := hP a w (by omega)
    have ea : nn - (r + 1) = a := by omega
    have hq8 : nI (P a w) = 8 ↔ P a w = 8 := nI_eq (b := 8) (by omega) (by decide)
    have ih2 := ih f (w + 1) (by omega) (by omega)
    rw [f_X6_fittingWord_L9, if_neg (show ¬ (8 : Int32) ≤ nI w from nI_ge (b := 8) (by omega) (by decide)), c8, nI_add, rx_gd_in (vp_in_nI (by omega) (by decide)), nI_clamp (by omega), hc a w (by omega) (by omega)]
    simp only [rx_let, nI_1]
    unfold f_X6_endAt
    simp only [bd_some, nI_1, c6, nI_add]
    rw [ff]
    by_cases q : P a w = 8
    · have hsk : sok P v nn r had (ms P v nn r) w = (ms P v nn r had).isSome := by unfold sok; rw [ea, if_pos q]
      rw [if_pos (hq8.mpr q), rx_gd_in (vp_in_nI (by omega) (by decide)), nI_clamp (by omega), he had hh, hsk]
      by_cases z : (ms P v nn r had).isSome = true
      · rw [if_pos z, if_neg n1, if_pos z]; rfl
      · rw [if_neg z, if_pos rfl, if_neg z]; exact ih2
    · rw [if_neg (fun z => q (hq8.mp z))]
      by_cases q1 : had < rl v
      · have hwd := wd_lt v (rl v) had
        rw [if_neg (nI_ge q1 (by omega)), wordAt_eq (by omega) hL q1, bd_some]
        have hqw : nI (P a w) = nI (wd v (rl v) had) ↔ P a w = wd v (rl v) had := nI_eq (by omega) (by omega)
        by_cases q2 : P a w = wd v (rl v) had
        · have hsk : sok P v nn r had (ms P v nn r) w = (ms P v nn r (had + 1)).isSome := by
            unfold sok
            rw [ea, if_neg q, decide_eq_true ⟨q1, q2⟩, Bool.true_and]
          rw [if_pos (hqw.mpr q2), rx_gd_in (vp_in_nI (by omega) (by decide)), nI_clamp (by omega), he (had + 1) (by omega), hsk]
          by_cases z : (ms P v nn r (had + 1)).isSome = true
          · rw [if_pos z, if_neg n1, if_pos z]; rfl
          · rw [if_neg z, if_pos rfl, if_neg z]; exact ih2
        · have hsk : sok P v nn r had (ms P v nn r) w = false := by
            unfold sok
            rw [ea, if_neg q, decide_eq_false (fun z => q2 z.2), Bool.false_and]
          rw [if_neg (fun z => q2 (hqw.mp z)), hsk, if_neg (by decide)]
          exact ih2
      · have hsk : sok P v nn r had (ms P v nn r) w = false := by
          unfold sok
          rw [ea, if_neg q, decide_eq_false (fun z => q1 z.1), Bool.false_and]
        rw [if_pos (nI_le (by omega) (by omega)), hsk, if_neg (by decide)]
        exact ih2
theorem fit_ok (hN : 5000 ≤ N) {S : rx_S} {nn r a had : Nat} (hv : okr v) (hP : ∀ a w, w < 8 → P a w < 9) (hc : ∀ b w, b < 4 → w < 8 → S.1 84 (b * 8 + w) = nI (P b w)) (hn : nn ≤ 4) (ha : a + (r + 1) = nn) (hh : had ≤ 5) (he : ∀ q, q ≤ 5 → S.1 85 ((a + 1) * 6 + q) = if (ms P v nn r q).isSome = true then 1 else 0) : f_X6_fittingWord N (nI a) (nI had) (nI v) S = some (fwv (ff (sok P v nn r had (ms P v nn r)) 8 0), S) := by
  unfold f_X6_fittingWord
  rw [size_eq hN, bd_some, rsz_okr hv]
  exact fit_L hv hP hc hn ha hh he 8 N 0 (by omega) (by omega)
theorem fwv_no {o : Option Nat} (h : ∀ w, o = some w → w < 8) : fwv o = -1 ↔ o = none := by
  cases o with
  | none => exact ⟨fun _ => rfl, fun _ => rfl⟩
  | some w =>
    have h8 := h w rfl
    have : ∀ k : Nat, k < 8 → ¬ nI k = -1 := by decide
    exact ⟨fun z => absurd z (this w h8), fun z => by cases z⟩
theorem ms_ff {nn r had : Nat} : (ms P v nn (r + 1) had).isSome = true ↔ ff (sok P v nn r had (ms P v nn r)) 8 0 ≠ none := by
  simp only [ms]
  cases e : ff (sok P v nn r had (ms P v nn r)) 8 0 with
  | none => simp
  | some w =>
    obtain ⟨-, -, hsw, -⟩ := ff_some 8 0 w e
    unfold sok at hsw
    by_cases q : P (nn - (r + 1)) w = 8
    · rw [if_pos q] at hsw
      simp [q, hsw]
    · rw [if_neg q, Bool.and_eq_true] at hsw
      simp [q, hsw.2]
theorem me55_L (hN : 5000 ≤ N) {S : rx_S} {nn r a : Nat} (hv : okr v) (hP : ∀ a w, w < 8 → P a w < 9) (hc : ∀ b w, b < 4 → w < 8 → S.1 84 (b * 8 + w) = nI (P b w)) (hn : nn ≤ 4) (ha : a + (r + 1) = nn) (he : ∀ q, q ≤ 5 → S.1 85 ((a + 1) * 6 + q) = if (ms P v nn r q).isSome = true then 1 else 0) {Q : Unit → rx_S → Prop} {K : Int32 → Int32 → rx_S → Option (Unit × rx_S)} (kk : ∀ S', fK 85 S S' → (∀ q, q ≤ 5 → S'.1 85 (a * 6 + q) = if (ms P v nn (r + 1) q).isSome = true then 1 else 0) → (∀ j, (a + 1) * 6 ≤ j → S'.1 85 j = S.1 85 j) → pk (K (nI v) (nI a) S') Q) : ∀ (m f had : Nat) (S1 : rx_S), had + m = 6 → m < f → fK 85 S S1 → (∀ q, q < had → S1.1 85 (a * 6 + q) = if (ms P v nn (r + 1) q).isSome = true then 1 else 0) → (∀ j, (a + 1) * 6 ≤ j → S1.1 85 j = S.1 85 j) → pk (f_X6_markEnds_L55 N K f (nI v) (nI a) (nI had) S1) Q := by
  intro m
  induction m with
  | zero =>
    intro f had S1 hh hf hs h1 h2
    obtain ⟨f, rfl⟩ : ∃ q, f = q + 1 := ⟨f - 1, by omega⟩
    rw [f_X6_markEnds_L55, if_pos (show (5 : Int32) < nI had from nI_lt (a := 5) (by omega) (by omega))]
    exact kk S1 hs (fun q hq => h1 q (by omega)) h2
  | succ m ih =>
    intro f had S1 hh hf hs h1 h2
    obtain ⟨f, rfl⟩ : ∃ q, f = q + 1 := ⟨f - 1, by omega⟩
    have c6 : nI a * 6 = nI (a * 6) := nI_mul a 6
    have hfw := fit_ok (N := N) hN (S := S1) (had := had) hv hP (by rw [hs.1 84 (by decide)]; exact hc) hn ha (by omega) (fun q hq => by rw [h2 _ (by omega)]; exact he q hq)
    rw [f_X6_markEnds_L55, if_neg (show ¬ (5 : Int32) < nI had from nI_nlt (a := 5) (b := had) (by omega) (by decide))]
    unfold f_X6_endAt
    rw [bd_some, hfw, bd_some, c6, nI_add, pk_let]
    have fin : ∀ b : Int32, b = (if (ms P v nn (r + 1) had).isSome = true then 1 else 0) → pk (rx_gd (nI (a * 6 + had)) 30 (rx_let (rx_ui S1 85 (Int32.toNatClampNeg (nI (a * 6 + had))) (vp_nar .boolean b)) (fun S40 => rx_let (nI had + 1) (fun x41 => f_X6_markEnds_L55 N K f (nI v) (nI a) x41 S40)))) Q := by
      intro b hb
      have eb : vp_nar .boolean b = b := by
        rw [hb]
        split
        · exact nar1
        · exact nar0
      rw [pk_gdn (by omega) (by decide), pk_let, pk_let, nI_1, nI_clamp (by omega), eb, hb]
      refine ih f (had + 1) _ (by omega) (by omega) (hs.tr fK.ui) (fun q hq => ?_) (fun j hj => ?_)
      · rw [ui_same]
        by_cases e : q = had
        · rw [e, upd_at]
        · rw [upd_ne (by omega)]; exact h1 q (by omega)
      · rw [ui_same, upd_ne (by omega)]; exact h2 j hj
    have hno := fwv_no (o := ff (sok P v nn r had (ms P v nn r)) 8 0) (fun w hw => by have := ff_some 8 0 w hw; omega)
    by_cases q : ff (sok P v nn r had (ms P v nn r)) 8 0 = none
    · rw [if_pos (hno.mpr q)]
      exact fin 0 (by rw [if_neg (fun z => ms_ff.mp z q)])
    · rw [if_neg (fun z => q (hno.mp z))]
      exact fin 1 (by rw [if_pos (ms_ff.mpr q)])
theorem me47_L (hN : 5000 ≤ N) {S : rx_S} {nn : Nat} (hv : okr v) (hP : ∀ a w, w < 8 → P a w < 9) (hc : ∀ b w, b < 4 → w < 8 → S.1 84 (b * 8 + w) = nI (P b w)) (hn : nn ≤ 4) : ∀ (a f : Nat) (S1 : rx_S), a ≤ nn → a + 1 < f → fK 85 S S1 → (∀ b q, a ≤ b → b ≤ nn → q ≤ 5 → S1.1 85 (b * 6 + q) = if (ms P v nn (nn - b) q).isSome = true then 1 else 0) → pk (f_X6_markEnds_L47 N f (nI v) (nI a - 1) S1) (fun _ S' => fK 85 S S' ∧ ∀ b q, b ≤ nn → q ≤ 5 → S'.1 85 (b * 6 + q) = if (ms P v nn (nn - b) q).isSome = true then 1 else 0) := by
  intro a
  induction a with
  | zero =>
    intro f S1 ha hf hs h1
    obtain ⟨f, rfl⟩ : ∃ q, f = q + 1 := ⟨f - 1, by omega⟩
    rw [f_X6_markEnds_L47, if_pos (by decide), pk_some]
    exact ⟨hs, fun b q hb hq => h1 b q (by omega) hb hq⟩
  | succ a ih =>
    intro f S1 ha hf hs h1
    obtain ⟨f, rfl⟩ : ∃ q, f = q + 1 := ⟨f - 1, by omega⟩
    rw [f_X6_markEnds_L47, show nI (a + 1) - 1 = nI a from nI_pred a, if_neg (nI_pos (by omega)), pk_let]
    refine me55_L (S := S1) (nn := nn) (r := nn - (a + 1)) hN hv hP (by rw [hs.1 84 (by decide)]; exact hc) hn (by omega) (fun q hq => h1 (a + 1) q (by omega) (by omega) hq) (fun S2 f2 g2 k2 => ?_) 6 N 0 S1 (by omega) (by omega) fK.rf (fun q hq => absurd hq (by omega)) (fun _ _ => rfl)
    rw [pk_let]
    have em : nI a + (-1) = nI a - 1 := (Int32.sub_eq_add_neg _ _).symm
    rw [em]
    refine ih f S2 (by omega) (by omega) (hs.tr f2) (fun b q hb hbn hq => ?_)
    by_cases e : b = a
    · rw [e, g2 q hq, show nn - (a + 1) + 1 = nn - a by omega]
    · rw [k2 _ (by omega)]
      exact h1 b q (by omega) hbn hq
theorem me8_L {S : rx_S} {nn : Nat} {y : Int32} (hn : nn ≤ 4) {Q : Unit → rx_S → Prop} {K : Int32 → Int32 → rx_S → Option (Unit × rx_S)} (kk : ∀ S', fK 85 S S' → (∀ q, q ≤ 5 → S'.1 85 (nn * 6 + q) = if q = rl v then 1 else 0) → pk (K (nI nn) y S') Q) : ∀ (m f had : Nat) (S1 : rx_S), had + m = 6 → m < f → fK 85 S S1 → (∀ q, q < had → S1.1 85 (nn * 6 + q) = if q = rl v then 1 else 0) → pk (f_X6_markEnds_L8 N K f (nI nn) y (nI (rl v)) (nI had) S1) Q := by
  intro m
  have hL := rl_le v
  induction m with
  | zero =>
    intro f had S1 hh hf hs h1
    obtain ⟨f, rfl⟩ : ∃ q, f = q + 1 := ⟨f - 1, by omega⟩
    rw [f_X6_markEnds_L8, if_pos (show (5 : Int32) < nI had from nI_lt (a := 5) (by omega) (by omega))]
    exact kk S1 hs (fun q hq => h1 q (by omega))
  | succ m ih =>
    intro f had S1 hh hf hs h1
    obtain ⟨f, rfl⟩ : ∃ q, f = q + 1 := ⟨f - 1, by omega⟩
    have c6 : nI nn * 6 = nI (nn * 6) := nI_mul nn 6
    rw [f_X6_markEnds_L8, if_neg (show ¬ (5 : Int32) < nI had from nI_nlt (a := 5) (b := had) (by omega) (by decide))]
    unfold f_X6_endAt
    rw [bd_some, c6, nI_add, pk_let]
    have fin : ∀ b : Int32, b = (if had = rl v then 1 else 0) → pk (rx_gd (nI (nn * 6 + had)) 30 (rx_let (rx_ui S1 85 (Int32.toNatClampNeg (nI (nn * 6 + had))) (vp_nar .boolean b)) (fun S63 => rx_let (nI had + 1) (fun x64 => f_X6_markEnds_L8 N K f (nI nn) y (nI (rl v)) x64 S63)))) Q := by
      intro b hb
      have eb : vp_nar .boolean b = b := by
        rw [hb]
        split
        · exact nar1
        · exact nar0
      rw [pk_gdn (by omega) (by decide), pk_let, pk_let, nI_1, nI_clamp (by omega), eb, hb]
      refine ih f (had + 1) _ (by omega) (by omega) (hs.tr fK.ui) (fun q hq => ?_)
      rw [ui_same]
      by_cases e : q = had
      · rw [e, upd_at]
      · rw [upd_ne (by omega)]; exact h1 q (by omega)
    have hq : nI had = nI (rl v) ↔ had = rl v := nI_eq (by omega) (by omega)
    by_cases q : had = rl v
    · rw [if_pos (hq.mpr q)]
      exact fin 1 (by rw [if_pos q])
    · rw [if_neg (fun z => q (hq.mp z))]
      exact fin 0 (by rw [if_neg q])
theorem mark_ok (hN : 5000 ≤ N) {S : rx_S} {nn : Nat} (hv : okr v) (hP : ∀ a w, w < 8 → P a w < 9) (hc : ∀ b w, b < 4 → w < 8 → S.1 84 (b * 8 + w) = nI (P b w)) (hn : nn ≤ 4) : pk (f_X6_markEnds N (nI nn) (nI v) S) (fun _ S' => fK 85 S S' ∧ ∀ b q, b ≤ nn → q ≤ 5 → S'.1 85 (b * 6 + q) = if (ms P v nn (nn - b) q).isSome = true then 1 else 0) := by
  unfold f_X6_markEnds
  rw [size_eq hN, bd_some, rsz_okr hv, pk_let]
  refine me8_L (S := S) hn (fun S1 f1 g1 => ?_) 6 N 0 S (by omega) (by omega) fK.rf (fun q hq => absurd hq (by omega))
  rw [pk_let]
  refine me47_L (S := S) hN hv hP hc hn nn N S1 (Nat.le_refl _) (by omega) f1 (fun b q hb hbn hq => ?_)
  have : b = nn := by omega
  have e0 : (ms P v nn 0 q).isSome = decide (q = rl v) := by
    simp only [ms]
    by_cases e : q = rl v <;> simp [e]
  rw [this, g1 q hq, Nat.sub_self]
  by_cases e : q = rl v
  · rw [if_pos e, if_pos (by rw [e0]; exact decide_eq_true e)]
  · rw [if_neg e, if_neg (by rw [e0, decide_eq_true_iff]; exact e)]
theorem lr_L (hN : 5000 ≤ N) {S : rx_S} {nn : Nat} (hv : okr v) (hP : ∀ a w, w < 8 → P a w < 9) (hc : ∀ b w, b < 4 → w < 8 → S.1 84 (b * 8 + w) = nI (P b w)) (hn : nn ≤ 4) (he : ∀ b q, b ≤ nn → q ≤ 5 → S.1 85 (b * 6 + q) = if (ms P v nn (nn - b) q).isSome = true then 1 else 0) : ∀ (r f a had c x : Nat), a + r = nn → r < f → had ≤ rl v → c < 2 * 8 ^ a → ms P v nn r had = some x → f_X6_leastRow_L8 N f (nI nn) (nI v) (nI c) (nI had) (nI a) S = some (nI (8 ^ r * c + x), S) := by
  intro r
  have hL := rl_le v
  induction r with
  | zero =>
    intro f a had c x ha hf hh hcb hx
    obtain ⟨f, rfl⟩ : ∃ q, f = q + 1 := ⟨f - 1, by omega⟩
    rw [f_X6_leastRow_L8, if_pos (nI_le (by omega) (by omega))]
    simp only [ms] at hx
    split at hx
    · cases hx
      rw [Nat.pow_zero, Nat.one_mul, Nat.add_zero]
    · cases hx
  | succ r ih =>
    intro f a had c x ha hf hh hcb hx
    obtain ⟨f, rfl⟩ : ∃ q, f = q + 1 := ⟨f - 1, by omega⟩
    have hfw := fit_ok (N := N) hN (S := S) (had := had) hv hP hc hn ha (by omega) (fun q hq => by
      have := he (a + 1) q (by omega) hq
      rw [show nn - (a + 1) = r by omega] at this
      exact this)
    rw [f_X6_leastRow_L8, if_neg (nI_ge (by omega) (by omega)), if_neg (show ¬ (5 : Int32) < nI had from nI_nlt (a := 5) (b := had) (by omega) (by decide)), hfw, bd_some]
    simp only [ms] at hx
    cases e : ff (sok P v nn r had (ms P v nn r)) 8 0 with
    | none => rw [e] at hx; cases hx
    | some w =>
      rw [e] at hx
      simp only at hx
      obtain ⟨-, hw8, hsw, -⟩ := ff_some 8 0 w e
      have hw8 : w < 8 := by omega
      have hn1 : ∀ k : Nat, k < 8 → ¬ nI k = -1 := by decide
      have c8 : nI a * 8 = nI (a * 8) := nI_mul a 8
      have cc : nI c * 8 = nI (c * 8) := nI_mul c 8
      have ea : nn - (r + 1) = a := by omega
      have h9 := hP a w hw8
      have hq8 : nI (P a w) = 8 ↔ P a w = 8 := nI_eq (b := 8) (by omega) (by decide)
      rw [show fwv (some w) = nI w from rfl, if_neg (hn1 w hw8), c8, nI_add, rx_gd_in (vp_in_nI (by omega) (by decide)), nI_clamp (by omega), hc a w (by omega) hw8]
      unfold f_X5_with
      simp only [rx_let, bd_some, nI_1, cc, nI_add]
      cases e2 : ms P v nn r (if P (nn - (r + 1)) w = 8 then had else had + 1) with
      | none => rw [e2] at hx; cases hx
      | some x' =>
        rw [e2] at hx
        simp only [Option.map_some, Option.some.injEq] at hx
        subst hx
        have ev : 8 ^ r * (c * 8 + w) + x' = 8 ^ (r + 1) * c + (8 ^ r * w + x') := by
          rw [Nat.pow_succ, Nat.mul_add, Nat.mul_assoc, Nat.mul_comm 8 c]
          omega
        have hcb2 : c * 8 + w < 2 * 8 ^ (a + 1) := by rw [Nat.pow_succ]; omega
        unfold sok at hsw
        rw [ea] at e2 hsw
        by_cases q : P a w = 8
        · rw [if_pos q] at e2
          rw [if_pos (hq8.mpr q), Int32.add_zero, ← ev]
          exact ih f (a + 1) had (c * 8 + w) x' (by omega) (by omega) hh hcb2 e2
        · rw [if_neg q] at e2 hsw
          rw [Bool.and_eq_true, decide_eq_true_iff] at hsw
          rw [if_neg (fun z => q (hq8.mp z)), ← ev]
          exact ih f (a + 1) (had + 1) (c * 8 + w) x' (by omega) (by omega) hsw.1.1 hcb2 e2
theorem rp60_L (hN : 5000 ≤ N) {S : rx_S} (hv : okr v) (hP : ∀ a w, w < 8 → P a w < 9) (hc : ∀ b w, b < 4 → w < 8 → S.1 84 (b * 8 + w) = nI (P b w)) : ∀ (m f nn : Nat) (S1 : rx_S), nn + m = 5 → m < f → fK 85 S S1 → pk (f_X6_rowPutAs_L60 N (fun x7 x8 S9 => rx_bd (f_X6_leastRow N x8 x7 S9) (fun x11 S10 => some (x11, S10))) f (nI v) (nI nn) S1) (fun r S' => r = sy P v m nn ∧ fK 85 S S') := by
  intro m
  have hL := rl_le v
  induction m with
  | zero =>
    intro f nn S1 hn hf hs
    obtain ⟨f, rfl⟩ : ∃ q, f = q + 1 := ⟨f - 1, by omega⟩
    rw [f_X6_rowPutAs_L60, if_pos (show (4 : Int32) < nI nn from nI_lt (a := 4) (by omega) (by omega)), pk_some]
    exact ⟨rfl, hs⟩
  | succ m ih =>
    intro f nn S1 hn hf hs
    obtain ⟨f, rfl⟩ : ∃ q, f = q + 1 := ⟨f - 1, by omega⟩
    rw [f_X6_rowPutAs_L60, if_neg (show ¬ (4 : Int32) < nI nn from nI_nlt (a := 4) (b := nn) (by omega) (by decide))]
    refine pk_bdm (mark_ok (S := S1) (nn := nn) hN hv hP (by rw [hs.1 84 (by decide)]; exact hc) (by omega)) (fun _ S2 h2 => ?_)
    have hs2 := hs.tr h2.1
    have h0 := h2.2 0 0 (by omega) (by omega)
    rw [Nat.sub_zero] at h0
    have h0 : S2.1 85 0 = if (ms P v nn nn 0).isSome = true then 1 else 0 := h0
    rw [h0, sy]
    cases e : ms P v nn nn 0 with
    | none =>
      rw [if_pos (show (if (none : Option Nat).isSome = true then (1 : Int32) else 0) = 0 from rfl), pk_let, nI_1]
      exact ih f (nn + 1) S2 (by omega) (by omega) hs2
    | some x =>
      rw [if_neg (show ¬ (if (some x).isSome = true then (1 : Int32) else 0) = 0 by simp)]
      have el := lr_L (N := N) (S := S2) (nn := nn) hN hv hP (by rw [hs2.1 84 (by decide)]; exact hc) (by omega) h2.2 nn N 0 0 1 x (by omega) (by omega) (by omega) (by decide) e
      have el : f_X6_leastRow N (nI nn) (nI v) S2 = some (nI (8 ^ nn * 1 + x), S2) := el
      rw [el, bd_some, pk_some, Nat.mul_one]
      exact ⟨rfl, hs2⟩
theorem st_say (hN : 5000 ≤ N) : ST_say N (Inv N) := by
  intro n SC SM hn h x1 x2
  obtain ⟨-, -, -, -, -, T, ⟨hF, hC', hM⟩, ⟨hR, w, hw, hW⟩, -, -⟩ := id h
  unfold f_X10_say f_X11_say
  have n1 : ¬ (1 : Int32) = 0 := by decide
  have no : ∃ r SC' SM', (some ((-1 : Int32), SC) : Option (Int32 × rx_S)) = some (r, SC') ∧ (some ((-1 : Int32), SM) : Option (Int32 × rx_S)) = some (r, SM') ∧ Inv N (n + 1) SC' SM' := st_q (R := -1) h (by rw [pk_some]; exact ⟨rfl, iC.rf⟩) (by rw [pk_some]; exact ⟨rfl, iM.rf⟩)
  rcases third_cases hF hC' hM x1 with ⟨i, hi, rfl, e1, e2⟩ | ⟨e1, e2⟩
  · rw [e1, bd_some, if_neg n1, e2, bd_some, if_neg n1]
    rcases row_cases (SC := SC) (SM := SM) hN x2 with ⟨v, hv, rfl, e1, e2⟩ | ⟨e1, e2⟩
    · rw [e1, bd_some, if_neg n1, e2, bd_some, if_neg n1]
      obtain ⟨u, S1, e3, hc⟩ := copies_ok hN hM
      have hc : cM T SM S1 := hc
      rw [e3, bd_some]
      have hP : ∀ a w, w < 8 → (fun a w => pt T (S1.1 127) i w a) a w < 9 := fun a w hw => pt_lt _ _ _ _ _ hw
      refine st_q (R := sy (fun a w => pt T (S1.1 127) i w a) v 5 0) h ?_ ?_
      · unfold f_X6_rowPutAs
        have hh : pk (f_X6_rowPutAs_L3 N (fun x5 S6 => rx_let (fun (x7 : Int32) (x8 : Int32) (S9 : rx_S) => rx_bd (f_X6_leastRow N x8 x7 S9) (fun x11 S10 => some (x11, S10))) (fun J82_2 => f_X6_rowPutAs_L60 N J82_2 N x5 0 S6)) N (nI i) (nI v) 0 SC) (fun r S' => r = sy (fun a w => pt T (S1.1 127) i w a) v 5 0 ∧ iC SC S') := by
          refine rp3_L (S := SC) hN hF hC' (hc.st hR) (hc.ws hW) hi (fun S2 h2 g2 => ?_) 4 N 0 SC (by omega) (by omega) wC.rf (fun b q hb => absurd hb (by omega))
          rw [pk_let]
          refine pk_mono (rp60_L (N := N) (S := S2) (P := fun a w => pt T (S1.1 127) i w a) hN hv hP g2 5 N 0 S2 (by omega) (by omega) fK.rf) (fun r S3 h3 => ⟨h3.1, (h2.e4.tr h3.2.e5).i⟩)
        refine pk_bdm hh (fun r S4 h4 => ?_)
        rw [pk_some]
        exact h4
      · unfold f_X11_fillsPut
        refine pk_bdm (fpt_L hN hF (hM.ag hc.i.ag) hi 32 N 0 S1 (by omega) (by omega) xM.rf (fun q hq => absurd hq (by omega))) (fun _ S2 h2 => ?_)
        have e := sr28_L (N := N) (S := S2) (P := fun a w => pt T (S1.1 127) i w a) hN hv hP (fun a w ha hw => by
          have := h2.2 (8 * a + w) (by omega)
          rw [this, show (8 * a + w) % 8 = w by omega, show (8 * a + w) / 8 = a by omega]) 5 N 0 (by omega) (by omega)
        have e : f_X11_say_L28 N N (nI v) 0 S2 = _ := e
        rw [e, pk_some]
        exact ⟨rfl, hc.i.tr (h2.1.i (by omega))⟩
    · rw [e1, bd_some, if_pos rfl, e2, bd_some, if_pos rfl]
      exact no
  · rw [e1, bd_some, if_pos rfl, e2, bd_some, if_pos rfl]
    exact no
end OPK
