/-! ===== READ 3: words and numbers, by both ===== -/
section TOKC
variable {N : Nat} {S : rx_S} {len : Nat} {b : Nat → Nat}
def wdg (b : Nat → Nat) (i j : Nat) : Nat := b (i + j) - 96
theorem wdg_ok {i n : Nat} (hb : ∀ j, i ≤ j → j < i + n → b j < 256 ∧ qLe (b j) = true) : ∀ j, j < n → 1 ≤ wdg b i j ∧ wdg b i j ≤ 26 := fun j hj => by
  obtain ⟨h1, h2⟩ := hb (i + j) (by omega) (by omega)
  have := le_dec _ h1 h2
  exact ⟨this.2.2.2.1, this.2.2.2.2⟩
theorem wk6_L (h : inC len b S) {i n : Nat} (hn : i + n ≤ len) (hq : ∀ j, i ≤ j → j < i + n → qLe (b j) = true) {K : Int64 → rx_S → Option (Int32 × rx_S)} : ∀ m f k, k + m = n → m < f → f_X9_wordKind_L6 N K f (nI (i + n)) (Int64.ofNat (en 32 (wdg b i) k)) (nI (i + k)) S = K (Int64.ofNat (en 32 (wdg b i) n)) S := by
  intro m
  have hl := h.1
  induction m with
  | zero =>
    intro f k hk hf
    obtain ⟨f, rfl⟩ : ∃ q, f = q + 1 := ⟨f - 1, by omega⟩
    have : k = n := by omega
    rw [f_X9_wordKind_L6, if_pos (nI_le (by omega) (by omega)), this]
  | succ m ih =>
    intro f k hk hf
    obtain ⟨f, rfl⟩ : ∃ q, f = q + 1 := ⟨f - 1, by omega⟩
    obtain ⟨h1, h2⟩ := h.2 (i + k) (by omega)
    have hd := le_dec _ h1 (hq (i + k) (by omega) (by omega))
    rw [f_X9_wordKind_L6, if_neg (nI_ge (by omega) (by omega)), rx_gd_in (vp_in_nI (show i + k < 2000 by omega) (by decide)), nI_clamp (by omega), h2]
    unfold f_X9_withLetter
    rw [bd_some, hd.1, l_nI (by omega), show (32 : Int64) = Int64.ofNat 32 from rfl, l_mul, l_add]
    simp only [rx_let]
    have e : en 32 (wdg b i) k * 32 + (b (i + k) - 96) = en 32 (wdg b i) (k + 1) := by
      rw [en, Nat.mul_comm]
      rfl
    rw [e, nI_1]
    exact ih f (k + 1) (by omega) (by omega)
def kwp (f : Nat → Nat) (n k : Nat) : Bool := decide (en 27 (kwd k) (kwt k).length = en 27 f n)
theorem kw_len : ∀ k, k < 24 → (kwt k).length ≤ 8 := by decide +kernel
theorem p832 : 32 ^ 8 < 2 ^ 62 := by decide
theorem p827 : 27 ^ 8 < 2 ^ 62 := by decide
theorem en_b {c : Nat} (hc : 26 < c) (hp : c ^ 8 < 2 ^ 62) {f : Nat → Nat} {n : Nat} (hn : n ≤ 8) (hf : ∀ j, j < n → 1 ≤ f j ∧ f j ≤ 26) : en c f n < 2 ^ 62 := by
  have h1 := en_lt hc n hf
  have h2 : c ^ n ≤ c ^ 8 := Nat.pow_le_pow_right (by omega) hn
  omega
theorem wk43_L (h15 : S.2 15 = zC.2 15) {w : Nat → Nat} {n : Nat} (hn : n ≤ 8) (hw : ∀ j, j < n → 1 ≤ w j ∧ w j ≤ 26) : ∀ m f k, k + m = 24 → m < f → f_X9_wordKind_L43 N f (Int64.ofNat (en 32 w n)) (nI k) S = some ((match ff (kwp w n) m k with | some k => nI (128 + k) | none => 2), S) := by
  intro m
  induction m with
  | zero =>
    intro f k hk hf
    obtain ⟨f, rfl⟩ : ∃ q, f = q + 1 := ⟨f - 1, by omega⟩
    rw [f_X9_wordKind_L43, if_pos (show (24 : Int32) ≤ nI k from nI_le (a := 24) (by omega) (by omega))]
    rfl
  | succ m ih =>
    intro f k hk hf
    obtain ⟨f, rfl⟩ : ∃ q, f = q + 1 := ⟨f - 1, by omega⟩
    have hk24 : k < 24 := by omega
    have hb1 := en_b (by decide) p832 hn hw
    have hb2 := en_b (by decide) p832 (kw_len k hk24) (kw_ok k hk24)
    have hq : lg_cmp (Int64.ofNat (en 32 (kwd k) (kwt k).length)) (Int64.ofNat (en 32 w n)) = 0 ↔ kwp w n k = true := by
      rw [l_eq hb2 hb1, en_same (kw_ok k hk24) hw]
      unfold kwp
      rw [decide_eq_true_iff]
    rw [f_X9_wordKind_L43, if_neg (show ¬ (24 : Int32) ≤ nI k from nI_ge (b := 24) hk24 (by decide)), rx_gd_in (vp_in_nI hk24 (by decide)), nI_clamp (by omega), h15, kw_C k hk24, ff]
    simp only [rx_let, nI_1]
    by_cases q : kwp w n k = true
    · rw [if_pos (hq.mpr q), if_pos q]
      exact congrArg some (congrArg (·, S) (nI_add 128 k))
    · rw [if_neg (fun z => q (hq.mp z)), if_neg q]
      exact ih f (k + 1) (by omega) (by omega)
theorem kw_one {w : Nat → Nat} {n k : Nat} (hk : k < 24) (h : kwp w n k = true) : ∀ m l, k < l → l + m ≤ 24 → ff (kwp w n) m l = none := by
  intro m
  induction m with
  | zero => intro l _ _; rfl
  | succ m ih =>
    intro l h1 h2
    rw [ff, if_neg (fun z => ?_)]
    · exact ih (l + 1) (by omega) (by omega)
    · have e1 := of_decide_eq_true h
      have e2 := of_decide_eq_true z
      have := kw_dist k hk l (by omega) (e1.trans e2.symm)
      omega
theorem ck146_L (h101 : S.2 101 = zM.2 101) {w : Nat → Nat} {n : Nat} {x y : Int32} (hn : n ≤ 8) (hw : ∀ j, j < n → 1 ≤ w j ∧ w j ≤ 26) {K : Int32 → Int32 → Int64 → Int32 → rx_S → Option (Unit × rx_S)} : ∀ m f k z, k + m = 24 → m < f → f_X11_cut_L146 N K f x y (Int64.ofNat (en 27 w n)) z (nI k) S = K x y (Int64.ofNat (en 27 w n)) (match ff (kwp w n) m k with | some k => nI (20 + k) | none => z) S := by
  intro m
  induction m with
  | zero =>
    intro f k z hk hf
    obtain ⟨f, rfl⟩ : ∃ q, f = q + 1 := ⟨f - 1, by omega⟩
    rw [f_X11_cut_L146, if_pos (show (24 : Int32) ≤ nI k from nI_le (a := 24) (by omega) (by omega))]
    rfl
  | succ m ih =>
    intro f k z hk hf
    obtain ⟨f, rfl⟩ : ∃ q, f = q + 1 := ⟨f - 1, by omega⟩
    have hk24 : k < 24 := by omega
    have hb1 := en_b (by decide) p827 hn hw
    have hb2 := en_b (by decide) p827 (kw_len k hk24) (kw_ok k hk24)
    have hq : lg_cmp (Int64.ofNat (en 27 (kwd k) (kwt k).length)) (Int64.ofNat (en 27 w n)) = 0 ↔ kwp w n k = true := by
      rw [l_eq hb2 hb1]
      unfold kwp
      rw [decide_eq_true_iff]
    rw [f_X11_cut_L146, if_neg (show ¬ (24 : Int32) ≤ nI k from nI_ge (b := 24) hk24 (by decide)), rx_gd_in (vp_in_nI hk24 (by decide)), nI_clamp (by omega), h101, kw_M k hk24, ff]
    simp only [rx_let, nI_1]
    by_cases q : kwp w n k = true
    · rw [if_pos (hq.mpr q), if_pos q, ih f (k + 1) _ (by omega) (by omega), kw_one hk24 q m (k + 1) (by omega) (by omega)]
      have : (20 : Int32) + nI k = nI (20 + k) := nI_add 20 k
      simp only [this]
    · rw [if_neg (fun z => q (hq.mp z)), if_neg q]
      exact ih f (k + 1) z (by omega) (by omega)
/-- bytes of the reference -/
theorem byM (h : inM len b S) {i : Nat} (hi : i < 4000) : f_X11_byteAt (nI i) S = some (nI (if i < len then b i else 0), S) := by
  have hl := h.1
  unfold f_X11_byteAt
  rw [h.2.1]
  by_cases q : i < len
  · rw [if_neg (nI_ge q (by omega)), if_pos q, rx_gd_in (vp_in_nI (show i < 2000 by omega) (by decide)), nI_clamp (by omega), (h.2.2 i q).2]
  · rw [if_pos (nI_le (by omega) (by omega)), if_neg q]
    rfl
end TOKC
