/-! ===== READ 2: one token, by both ===== -/
section TOKB
variable {N : Nat} {S : rx_S} {len : Nat} {b : Nat → Nat}
def inC (len : Nat) (b : Nat → Nat) (S : rx_S) : Prop := len ≤ 2000 ∧ ∀ j, j < len → b j < 256 ∧ S.1 1 j = bx (b j)
def inM (len : Nat) (b : Nat → Nat) (S : rx_S) : Prop := len ≤ 2000 ∧ S.1 94 4 = nI len ∧ ∀ j, j < len → b j < 256 ∧ S.1 96 j &&& 255 = nI (b j)
theorem blE_L (h : inC len b S) : ∀ m f i, i + m = len → m < f → f_X9_blanksEnd_L2 N f (nI len) (nI i) S = some (nI (spn (fun j => qBl (b j)) m i), S) := by
  intro m
  have hl := h.1
  induction m with
  | zero =>
    intro f i hi hf
    obtain ⟨f, rfl⟩ : ∃ q, f = q + 1 := ⟨f - 1, by omega⟩
    rw [f_X9_blanksEnd_L2, if_pos (nI_le (by omega) (by omega))]
    rfl
  | succ m ih =>
    intro f i hi hf
    obtain ⟨f, rfl⟩ : ∃ q, f = q + 1 := ⟨f - 1, by omega⟩
    obtain ⟨h1, h2⟩ := h.2 i (by omega)
    rw [f_X9_blanksEnd_L2, if_neg (nI_ge (by omega) (by omega)), rx_gd_in (vp_in_nI (show i < 2000 by omega) (by decide)), nI_clamp (by omega), h2, blC h1, bd_some, spn]
    simp only [rx_let, nI_1]
    by_cases q : qBl (b i) = true
    · rw [if_pos q, if_neg (by decide), if_pos q]
      exact ih f (i + 1) (by omega) (by omega)
    · rw [if_neg q, if_pos rfl, if_neg q]
theorem teL_L (h : inC len b S) : ∀ m f i, i + m = len → m < f → f_X9_tokenEnd_L16 N f (nI len) (nI i) S = some (nI (spn (fun j => qLe (b j)) m i), S) := by
  intro m
  have hl := h.1
  induction m with
  | zero =>
    intro f i hi hf
    obtain ⟨f, rfl⟩ : ∃ q, f = q + 1 := ⟨f - 1, by omega⟩
    rw [f_X9_tokenEnd_L16, if_pos (nI_le (by omega) (by omega))]
    rfl
  | succ m ih =>
    intro f i hi hf
    obtain ⟨f, rfl⟩ : ∃ q, f = q + 1 := ⟨f - 1, by omega⟩
    obtain ⟨h1, h2⟩ := h.2 i (by omega)
    rw [f_X9_tokenEnd_L16, if_neg (nI_ge (by omega) (by omega)), rx_gd_in (vp_in_nI (show i < 2000 by omega) (by decide)), nI_clamp (by omega), h2, leC h1, bd_some, spn]
    simp only [rx_let, nI_1]
    by_cases q : qLe (b i) = true
    · rw [if_pos q, if_neg (by decide), if_pos q]
      exact ih f (i + 1) (by omega) (by omega)
    · rw [if_neg q, if_pos rfl, if_neg q]
theorem teD_L (h : inC len b S) : ∀ m f i, i + m = len → m < f → f_X9_tokenEnd_L50 N f (nI len) (nI i) S = some (nI (spn (fun j => qDi (b j)) m i), S) := by
  intro m
  have hl := h.1
  induction m with
  | zero =>
    intro f i hi hf
    obtain ⟨f, rfl⟩ : ∃ q, f = q + 1 := ⟨f - 1, by omega⟩
    rw [f_X9_tokenEnd_L50, if_pos (nI_le (by omega) (by omega))]
    rfl
  | succ m ih =>
    intro f i hi hf
    obtain ⟨f, rfl⟩ : ∃ q, f = q + 1 := ⟨f - 1, by omega⟩
    obtain ⟨h1, h2⟩ := h.2 i (by omega)
    rw [f_X9_tokenEnd_L50, if_neg (nI_ge (by omega) (by omega)), rx_gd_in (vp_in_nI (show i < 2000 by omega) (by decide)), nI_clamp (by omega), h2, diC h1, bd_some, spn]
    simp only [rx_let, nI_1]
    by_cases q : qDi (b i) = true
    · rw [if_pos q, if_neg (by decide), if_pos q]
      exact ih f (i + 1) (by omega) (by omega)
    · rw [if_neg q, if_pos rfl, if_neg q]
/-- where a token ends -/
def tkE (b : Nat → Nat) (len i : Nat) : Nat := if i < len then (if qLe (b i) = true then spn (fun j => qLe (b j)) (len - i) i else if qDi (b i) = true then spn (fun j => qDi (b j)) (len - i) i else i + 1) else i
theorem teC_ok (hN : 5000 ≤ N) (h : inC len b S) {i : Nat} (hi : i ≤ len) : f_X9_tokenEnd N (nI i) (nI len) S = some (nI (tkE b len i), S) := by
  have hl := h.1
  unfold f_X9_tokenEnd tkE
  simp only [rx_let]
  by_cases q : i < len
  · obtain ⟨h1, h2⟩ := h.2 i q
    have hg : ∀ {β : Type} (A : Option β), rx_gd (nI i) 2000 A = A := fun A => rx_gd_in (vp_in_nI (by omega) (by decide))
    rw [if_pos q, if_neg (nI_ge q (by omega)), hg, nI_clamp (by omega), h2, leC h1, bd_some]
    by_cases z : qLe (b i) = true
    · rw [if_pos z, if_neg (by decide), if_pos z]
      exact teL_L h (len - i) N i (by omega) (by omega)
    · rw [if_neg z, if_pos rfl, if_neg z, if_neg (nI_ge q (by omega)), hg, h2, diC h1, bd_some]
      by_cases y : qDi (b i) = true
      · rw [if_pos y, if_neg (by decide), if_pos y]
        exact teD_L h (len - i) N i (by omega) (by omega)
      · rw [if_neg y, if_pos rfl, if_neg y, if_neg (nI_ge q (by omega)), nI_1]
  · rw [if_neg q, if_pos (nI_le (by omega) (by omega)), if_pos (nI_le (by omega) (by omega)), if_pos (nI_le (by omega) (by omega))]
theorem le_dec : ∀ n, n < 256 → qLe n = true → bx n - 97 + 1 = nI (n - 96) ∧ nI n - 97 + 1 = nI (n - 96) ∧ ¬ nI n = 0 ∧ 1 ≤ n - 96 ∧ n - 96 ≤ 26 := by decide +kernel
theorem di_dec : ∀ n, n < 256 → qDi n = true → bx n - 48 = nI (n - 48) ∧ n - 48 ≤ 9 ∧ 48 ≤ n := by decide +kernel
theorem l_mul (a c : Nat) : Int64.ofNat a * Int64.ofNat c = Int64.ofNat (a * c) := (Int64.ofNat_mul a c).symm
theorem l_add (a c : Nat) : Int64.ofNat a + Int64.ofNat c = Int64.ofNat (a + c) := (Int64.ofNat_add a c).symm
theorem l_nI {n : Nat} (h : n < 2 ^ 31) : (nI n).toInt64 = Int64.ofNat n := nI_l h
theorem l_eq {a c : Nat} (ha : a < 2 ^ 62) (hc : c < 2 ^ 62) : lg_cmp (Int64.ofNat a) (Int64.ofNat c) = 0 ↔ a = c := by
  have t : ∀ x : Nat, x < 2 ^ 62 → (Int64.ofNat x).toInt = (x : Int) := fun x hx => Int64.toInt_ofNat_of_lt (by omega)
  rw [lg_cmp_eq]
  constructor
  · intro h
    have := congrArg Int64.toInt h
    rw [t a ha, t c hc] at this
    omega
  · intro h; rw [h]
end TOKB
