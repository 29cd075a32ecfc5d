/-! ===== READ 1: bytes, spans, words as numbers ===== -/
def bx (n : Nat) : Int32 := if n < 128 then nI n else nI n - 256
theorem bx_of {x : Int32} (h : isB x) : ∃ n, n < 256 ∧ x = bx n := by
  obtain ⟨h1, h2⟩ := h
  by_cases q : 0 ≤ x.toInt
  · refine ⟨x.toInt.toNat, by omega, ?_⟩
    unfold bx
    rw [if_pos (by omega), i_inj, nI_toInt (by omega)]
    omega
  · refine ⟨(x.toInt + 256).toNat, by omega, ?_⟩
    unfold bx
    rw [if_neg (by omega), i_inj, i_sub (nI_toInt (by omega)) (show (256 : Int32).toInt = 256 from rfl) (by omega) (by omega)]
    omega
def qBl (n : Nat) : Bool := n == 9 || n == 10 || n == 13 || n == 32
def qLe (n : Nat) : Bool := decide (97 ≤ n ∧ n ≤ 122)
def qDi (n : Nat) : Bool := decide (48 ≤ n ∧ n ≤ 57)
theorem bx_dec : ∀ n, n < 256 → bx n &&& 255 = nI n ∧ (qBl n = true ↔ (bx n = 9 ∨ bx n = 10 ∨ bx n = 13 ∨ bx n = 32)) ∧ (qLe n = true ↔ (¬ bx n < 97 ∧ ¬ 122 < bx n)) ∧ (qDi n = true ↔ (¬ bx n < 48 ∧ ¬ 57 < bx n)) ∧ (qBl n = true ↔ (nI n = 9 ∨ nI n = 10 ∨ nI n = 13 ∨ nI n = 32)) ∧ (qLe n = true ↔ (¬ nI n < 97 ∧ ¬ 122 < nI n)) ∧ (qDi n = true ↔ (¬ nI n < 48 ∧ ¬ 57 < nI n)) := by decide +kernel
theorem nar_isB {x : Int32} (h : isB x) : vp_nar .byte x = x := by
  obtain ⟨n, hn, rfl⟩ := bx_of h
  have : ∀ n, n < 256 → vp_nar .byte (bx n) = bx n := by decide +kernel
  exact this n hn
section TOKA
variable {S : rx_S}
theorem blC {n : Nat} (hn : n < 256) : f_X9_isBlank (bx n) S = some (if qBl n = true then 1 else 0, S) := by
  have h := (bx_dec n hn).2.1
  unfold f_X9_isBlank
  by_cases q1 : bx n = 9
  · rw [if_pos q1, if_pos (h.mpr (Or.inl q1))]
  rw [if_neg q1]
  by_cases q2 : bx n = 10
  · rw [if_pos q2, if_pos (h.mpr (Or.inr (Or.inl q2)))]
  rw [if_neg q2]
  by_cases q3 : bx n = 13
  · rw [if_pos q3, if_pos (h.mpr (Or.inr (Or.inr (Or.inl q3))))]
  rw [if_neg q3]
  by_cases q4 : bx n = 32
  · rw [if_pos q4, if_pos (h.mpr (Or.inr (Or.inr (Or.inr q4))))]
  rw [if_neg q4, if_neg (fun z => (h.mp z).elim q1 (fun y => y.elim q2 (fun y => y.elim q3 q4)))]
theorem leC {n : Nat} (hn : n < 256) : f_X9_isLetter (bx n) S = some (if qLe n = true then 1 else 0, S) := by
  have h := (bx_dec n hn).2.2.1
  unfold f_X9_isLetter
  by_cases q1 : bx n < 97
  · rw [if_pos q1, if_neg (fun z => (h.mp z).1 q1)]
  rw [if_neg q1]
  by_cases q2 : 122 < bx n
  · rw [if_pos q2, if_neg (fun z => (h.mp z).2 q2)]
  rw [if_neg q2, if_pos (h.mpr ⟨q1, q2⟩)]
theorem diC {n : Nat} (hn : n < 256) : f_X9_isDigit (bx n) S = some (if qDi n = true then 1 else 0, S) := by
  have h := (bx_dec n hn).2.2.2.1
  unfold f_X9_isDigit
  by_cases q1 : bx n < 48
  · rw [if_pos q1, if_neg (fun z => (h.mp z).1 q1)]
  rw [if_neg q1]
  by_cases q2 : 57 < bx n
  · rw [if_pos q2, if_neg (fun z => (h.mp z).2 q2)]
  rw [if_neg q2, if_pos (h.mpr ⟨q1, q2⟩)]
theorem leM {n : Nat} (hn : n < 256) : f_X11_isLetter (nI n) S = some (if qLe n = true then 1 else 0, S) := by
  have h := (bx_dec n hn).2.2.2.2.2.1
  unfold f_X11_isLetter
  by_cases q1 : nI n < 97
  · rw [if_pos q1, if_neg (fun z => (h.mp z).1 q1)]
  rw [if_neg q1]
  by_cases q2 : 122 < nI n
  · rw [if_pos q2, if_neg (fun z => (h.mp z).2 q2)]
  rw [if_neg q2, if_pos (h.mpr ⟨q1, q2⟩)]
theorem diM {n : Nat} (hn : n < 256) : f_X11_isDigit (nI n) S = some (if qDi n = true then 1 else 0, S) := by
  have h := (bx_dec n hn).2.2.2.2.2.2
  unfold f_X11_isDigit
  by_cases q1 : nI n < 48
  · rw [if_pos q1, if_neg (fun z => (h.mp z).1 q1)]
  rw [if_neg q1]
  by_cases q2 : 57 < nI n
  · rw [if_pos q2, if_neg (fun z => (h.mp z).2 q2)]
  rw [if_neg q2, if_pos (h.mpr ⟨q1, q2⟩)]
end TOKA
/-- how far a sort of bytes goes -/
def spn (q : Nat → Bool) : Nat → Nat → Nat
  | 0, i => i
  | m + 1, i => if q i = true then spn q m (i + 1) else i
theorem spn_ge {q : Nat → Bool} : ∀ m i, i ≤ spn q m i ∧ spn q m i ≤ i + m := by
  intro m
  induction m with
  | zero => intro i; exact ⟨Nat.le_refl _, Nat.le_refl _⟩
  | succ m ih =>
    intro i
    rw [spn]
    split
    · have := ih (i + 1); omega
    · omega
theorem spn_in {q : Nat → Bool} : ∀ m i j, i ≤ j → j < spn q m i → q j = true := by
  intro m
  induction m with
  | zero => intro i j h1 h2; rw [spn] at h2; omega
  | succ m ih =>
    intro i j h1 h2
    rw [spn] at h2
    split at h2
    · rename_i h
      by_cases e : j = i
      · rw [e]; exact h
      · exact ih (i + 1) j (by omega) h2
    · omega
theorem spn_out {q : Nat → Bool} : ∀ m i, spn q m i < i + m → q (spn q m i) = false := by
  intro m
  induction m with
  | zero => intro i h; rw [spn] at h; omega
  | succ m ih =>
    intro i h
    rw [spn] at h ⊢
    split
    · rename_i z
      rw [if_pos z] at h
      exact ih (i + 1) (by omega)
    · rename_i z
      exact Bool.eq_false_iff.mpr z
/-- a word as a number -/
def en (b : Nat) (f : Nat → Nat) : Nat → Nat
  | 0 => 0
  | n + 1 => b * en b f n + f n
theorem en_inj {b : Nat} (hb : 26 < b) {f g : Nat → Nat} : ∀ n m, (∀ j, j < n → 1 ≤ f j ∧ f j ≤ 26) → (∀ j, j < m → 1 ≤ g j ∧ g j ≤ 26) → en b f n = en b g m → n = m ∧ ∀ j, j < n → f j = g j := by
  intro n
  induction n with
  | zero =>
    intro m _ hg h
    cases m with
    | zero => exact ⟨rfl, fun j hj => by omega⟩
    | succ m =>
      rw [en, en] at h
      have := (hg m (by omega)).1
      omega
  | succ n ih =>
    intro m hf hg h
    cases m with
    | zero =>
      rw [en, en] at h
      have := (hf n (by omega)).1
      omega
    | succ m =>
      rw [en, en] at h
      have h1 := hf n (by omega)
      have h2 := hg m (by omega)
      have e1 : f n = g m := by
        have := congrArg (· % b) h
        simp only [Nat.mul_add_mod, Nat.mod_eq_of_lt (show f n < b by omega), Nat.mod_eq_of_lt (show g m < b by omega)] at this
        exact this
      have e2 : en b f n = en b g m := by
        rw [e1] at h
        exact Nat.eq_of_mul_eq_mul_left (by omega) (Nat.add_right_cancel h)
      obtain ⟨e3, e4⟩ := ih m (fun j hj => hf j (by omega)) (fun j hj => hg j (by omega)) e2
      subst e3
      refine ⟨rfl, fun j hj => ?_⟩
      by_cases e : j = n
      · rw [e]; exact e1
      · exact e4 j (by omega)
theorem en_ext {b : Nat} {f g : Nat → Nat} : ∀ n, (∀ j, j < n → f j = g j) → en b f n = en b g n := by
  intro n
  induction n with
  | zero => intro _; rfl
  | succ n ih => intro h; rw [en, en, ih (fun j hj => h j (by omega)), h n (by omega)]
theorem en_same {f g : Nat → Nat} {n m : Nat} (hf : ∀ j, j < n → 1 ≤ f j ∧ f j ≤ 26) (hg : ∀ j, j < m → 1 ≤ g j ∧ g j ≤ 26) : en 32 f n = en 32 g m ↔ en 27 f n = en 27 g m := by
  constructor
  · intro h
    obtain ⟨rfl, e⟩ := en_inj (by decide) n m hf hg h
    exact en_ext n e
  · intro h
    obtain ⟨rfl, e⟩ := en_inj (by decide) n m hf hg h
    exact en_ext n e
theorem en_lt {b : Nat} (hb : 26 < b) {f : Nat → Nat} : ∀ n, (∀ j, j < n → 1 ≤ f j ∧ f j ≤ 26) → en b f n < b ^ n := by
  intro n
  induction n with
  | zero => intro _; rw [en, Nat.pow_zero]; decide
  | succ n ih =>
    intro h
    have h1 := ih (fun j hj => h j (by omega))
    have h2 := h n (by omega)
    rw [en, Nat.pow_succ]
    have h3 : b * en b f n + b ≤ b ^ n * b := by
      rw [← Nat.mul_succ, Nat.mul_comm]
      exact Nat.mul_le_mul_right _ h1
    omega
/-- the keywords -/
def kwt (k : Nat) : List Nat := match k with
  | 0 => [19, 16, 15, 21, 19, 5] | 1 => [3, 15, 21, 16, 12, 5] | 2 => [20, 8, 9, 18, 4] | 3 => [12, 5, 14, 7, 20, 8] | 4 => [19, 1, 25, 19] | 5 => [2, 5, 14, 4, 19] | 6 => [4, 18, 15, 16, 19] | 7 => [20, 1, 11, 5, 19] | 8 => [12, 15, 22, 5, 19] | 9 => [4, 1, 18, 5, 19] | 10 => [6, 9, 14, 5] | 11 => [19, 5, 5, 4] | 12 => [9, 6] | 13 => [20, 8, 5, 14] | 14 => [5, 12, 19, 5] | 15 => [23, 15, 18, 4] | 16 => [16, 12, 1, 3, 5] | 17 => [13, 15, 15, 4] | 18 => [20, 9, 18, 5, 4] | 19 => [12, 15, 22, 5] | 20 => [23, 8, 9, 3, 8] | 21 => [23, 5, 5, 11] | 22 => [16, 18, 9, 3, 5] | _ => [6, 9, 14, 5, 19]
def kwd (k j : Nat) : Nat := (kwt k).getD j 0
theorem kw_ok : ∀ k, k < 24 → ∀ j, j < (kwt k).length → 1 ≤ kwd k j ∧ kwd k j ≤ 26 := by decide +kernel
theorem kw_C : ∀ k, k < 24 → zC.2 15 k = Int64.ofNat (en 32 (kwd k) (kwt k).length) := by decide +kernel
theorem kw_M : ∀ k, k < 24 → zM.2 101 k = Int64.ofNat (en 27 (kwd k) (kwt k).length) := by decide +kernel
theorem kw_dist : ∀ k, k < 24 → ∀ l, l < 24 → en 27 (kwd k) (kwt k).length = en 27 (kwd l) (kwt l).length → k = l := by decide +kernel
