/-! rows as numbers -/
def rq (r x y c z : Int32) : Int32 := if r < x then z else if y ≤ r then z else c
def rsz (r : Int32) : Int32 := rq r 1 2 0 (rq r 8 16 1 (rq r 64 128 2 (rq r 512 1024 3 (rq r 4096 8192 4 (rq r 32768 65536 5 (-1))))))
theorem wI_step {N n : Nat} {r x3 x4 y z w v : Int32} {S : rx_S} (h : ¬ (5 : Int32) < x4) (hy : x3 * 8 = y) (hz : x4 + 1 = z) (hw : 2 * x3 = w) (k : f_X11_wordsIn_L4 N n r y z S = some (v, S)) : f_X11_wordsIn_L4 N (n + 1) r x3 x4 S = some (rq r x3 w x4 v, S) := by
  rw [f_X11_wordsIn_L4, if_neg h]
  simp only [rx_let]
  rw [hy, hz, hw, k]
  unfold rq
  split
  · rfl
  · split <;> rfl
theorem wI_end {N n : Nat} {r x3 : Int32} {S : rx_S} : f_X11_wordsIn_L4 N (n + 1) r x3 6 S = some (-1, S) := by
  rw [f_X11_wordsIn_L4, if_pos (by decide)]
theorem wordsIn_eq {N : Nat} {r : Int32} {S : rx_S} (hN : 5000 ≤ N) : f_X11_wordsIn N r S = some (rsz r, S) := by
  obtain ⟨n, rfl⟩ : ∃ n, N = n + 7 := ⟨N - 7, by omega⟩
  unfold f_X11_wordsIn rsz
  exact wI_step (by decide) (by decide) (by decide) (by decide) (wI_step (by decide) (by decide) (by decide) (by decide) (wI_step (by decide) (by decide) (by decide) (by decide) (wI_step (by decide) (by decide) (by decide) (by decide) (wI_step (by decide) (by decide) (by decide) (by decide) (wI_step (y := 262144) (by decide) (by decide) (by decide) (by decide) wI_end)))))
theorem sz_step {N n : Nat} {r x3 x4 z w v : Int32} {S : rx_S} (h : ¬ (5 : Int32) < x4) (hy : (1 : Int32) <<< (((3 : Int32) * x4) &&& 31) = x3) (hz : x4 + 1 = z) (hw : 2 * x3 = w) (k : f_X5_size_L2 N n r z S = some (v, S)) : f_X5_size_L2 N (n + 1) r x4 S = some (rq r x3 w x4 v, S) := by
  rw [f_X5_size_L2, if_neg h]
  simp only [rx_let]
  rw [hy, hz, hw, k]
  unfold rq
  split
  · rfl
  · split <;> rfl
theorem sz_end {N n : Nat} {r : Int32} {S : rx_S} : f_X5_size_L2 N (n + 1) r 6 S = some (-1, S) := by
  rw [f_X5_size_L2, if_pos (by decide)]
theorem size_eq {N : Nat} {r : Int32} {S : rx_S} (hN : 5000 ≤ N) : f_X5_size N r S = some (rsz r, S) := by
  obtain ⟨n, rfl⟩ : ∃ n, N = n + 7 := ⟨N - 7, by omega⟩
  unfold f_X5_size rsz
  exact sz_step (by decide) (by decide) (by decide) (by decide) (sz_step (by decide) (by decide) (by decide) (by decide) (sz_step (by decide) (by decide) (by decide) (by decide) (sz_step (by decide) (by decide) (by decide) (by decide) (sz_step (by decide) (by decide) (by decide) (by decide) (sz_step (by decide) (by decide) (by decide) (by decide) sz_end)))))
theorem rq_in {r x y c z : Int32} (h1 : x ≤ r) (h2 : r < y) : rq r x y c z = c := by
  unfold rq
  rw [if_neg (i_nlt.mpr h1), if_neg (i_nle.mpr h2)]
theorem rq_lo {r x y c z : Int32} (h1 : r < x) : rq r x y c z = z := by
  unfold rq
  rw [if_pos h1]
theorem rq_hi {r x y c z : Int32} (h1 : y ≤ r) : rq r x y c z = z := by
  unfold rq
  rw [if_pos h1]
  split <;> rfl
theorem rq_or (r x y c z : Int32) : (x ≤ r ∧ r < y ∧ rq r x y c z = c) ∨ rq r x y c z = z := by
  unfold rq
  by_cases h : r < x
  · exact Or.inr (if_pos h)
  · rw [if_neg h]
    by_cases h2 : y ≤ r
    · exact Or.inr (if_pos h2)
    · exact Or.inl ⟨i_nlt.mp h, i_nle.mp h2, if_neg h2⟩
theorem rsz_of {v n : Nat} (hn : n ≤ 5) (h1 : 8 ^ n ≤ v) (h2 : v < 2 * 8 ^ n) : rsz (nI v) = nI n := by
  have hv : v < 2 ^ 31 := Nat.lt_of_lt_of_le h2 (by have : 8 ^ n ≤ 8 ^ 5 := Nat.pow_le_pow_right (by decide) hn; omega)
  have hi : ∀ q : Nat, q < 2 ^ 31 → q ≤ v → nI q ≤ nI v := fun q hq h => (nI_leI hq hv).mpr h
  have lo : ∀ q : Nat, q < 2 ^ 31 → v < q → nI v < nI q := fun q hq h => (nI_ltI hv hq).mpr h
  unfold rsz
  match n, hn with
  | 0, _ => exact rq_in (hi 1 (by decide) (by omega)) (lo 2 (by decide) (by omega))
  | 1, _ => refine (rq_hi (y := 2) (hi 2 (by decide) (by omega))).trans ?_; exact rq_in (x := 8) (y := 16) (hi 8 (by decide) (by omega)) (lo 16 (by decide) (by omega))
  | 2, _ => refine (rq_hi (y := 2) (hi 2 (by decide) (by omega))).trans ?_; refine (rq_hi (y := 16) (hi 16 (by decide) (by omega))).trans ?_; exact rq_in (x := 64) (y := 128) (hi 64 (by decide) (by omega)) (lo 128 (by decide) (by omega))
  | 3, _ => refine (rq_hi (y := 2) (hi 2 (by decide) (by omega))).trans ?_; refine (rq_hi (y := 16) (hi 16 (by decide) (by omega))).trans ?_; refine (rq_hi (y := 128) (hi 128 (by decide) (by omega))).trans ?_; exact rq_in (x := 512) (y := 1024) (hi 512 (by decide) (by omega)) (lo 1024 (by decide) (by omega))
  | 4, _ => refine (rq_hi (y := 2) (hi 2 (by decide) (by omega))).trans ?_; refine (rq_hi (y := 16) (hi 16 (by decide) (by omega))).trans ?_; refine (rq_hi (y := 128) (hi 128 (by decide) (by omega))).trans ?_; refine (rq_hi (y := 1024) (hi 1024 (by decide) (by omega))).trans ?_; exact rq_in (x := 4096) (y := 8192) (hi 4096 (by decide) (by omega)) (lo 8192 (by decide) (by omega))
  | 5, _ => refine (rq_hi (y := 2) (hi 2 (by decide) (by omega))).trans ?_; refine (rq_hi (y := 16) (hi 16 (by decide) (by omega))).trans ?_; refine (rq_hi (y := 128) (hi 128 (by decide) (by omega))).trans ?_; refine (rq_hi (y := 1024) (hi 1024 (by decide) (by omega))).trans ?_; refine (rq_hi (y := 8192) (hi 8192 (by decide) (by omega))).trans ?_; exact rq_in (x := 32768) (y := 65536) (hi 32768 (by decide) (by omega)) (lo 65536 (by decide) (by omega))
theorem rsz_cases (r : Int32) : rsz r = -1 ∨ ∃ n v : Nat, n ≤ 5 ∧ r = nI v ∧ 8 ^ n ≤ v ∧ v < 2 * 8 ^ n ∧ rsz r = nI n := by
  have key : ∀ (n a b : Nat), n ≤ 5 → 8 ^ n = a → 2 * 8 ^ n = b → nI a ≤ r → r < nI b → ∃ n v : Nat, n ≤ 5 ∧ r = nI v ∧ 8 ^ n ≤ v ∧ v < 2 * 8 ^ n ∧ rsz r = nI n := by
    intro n a b hn ha hb h1 h2
    have q : 8 ^ n ≤ 8 ^ 5 := Nat.pow_le_pow_right (by decide) hn
    have h0 : 0 ≤ r := by
      rw [i_le] at h1 ⊢
      rw [nI_toInt (by omega)] at h1
      have : (0 : Int32).toInt = 0 := rfl
      omega
    obtain ⟨v, hv, rfl⟩ := nI_of' h0
    rw [nI_leI (by omega) hv] at h1
    rw [nI_ltI hv (by omega)] at h2
    exact ⟨n, v, hn, rfl, by omega, by omega, rsz_of hn (by omega) (by omega)⟩
  unfold rsz at key ⊢
  rcases rq_or r 1 2 0 (rq r 8 16 1 (rq r 64 128 2 (rq r 512 1024 3 (rq r 4096 8192 4 (rq r 32768 65536 5 (-1)))))) with ⟨h1, h2, -⟩ | e
  · exact Or.inr (key 0 1 2 (by decide) rfl rfl h1 h2)
  rcases rq_or r 8 16 1 (rq r 64 128 2 (rq r 512 1024 3 (rq r 4096 8192 4 (rq r 32768 65536 5 (-1))))) with ⟨h1, h2, -⟩ | e1
  · exact Or.inr (key 1 8 16 (by decide) rfl rfl h1 h2)
  rcases rq_or r 64 128 2 (rq r 512 1024 3 (rq r 4096 8192 4 (rq r 32768 65536 5 (-1)))) with ⟨h1, h2, -⟩ | e2
  · exact Or.inr (key 2 64 128 (by decide) rfl rfl h1 h2)
  rcases rq_or r 512 1024 3 (rq r 4096 8192 4 (rq r 32768 65536 5 (-1))) with ⟨h1, h2, -⟩ | e3
  · exact Or.inr (key 3 512 1024 (by decide) rfl rfl h1 h2)
  rcases rq_or r 4096 8192 4 (rq r 32768 65536 5 (-1)) with ⟨h1, h2, -⟩ | e4
  · exact Or.inr (key 4 4096 8192 (by decide) rfl rfl h1 h2)
  rcases rq_or r 32768 65536 5 (-1) with ⟨h1, h2, -⟩ | e5
  · exact Or.inr (key 5 32768 65536 (by decide) rfl rfl h1 h2)
  exact Or.inl (by rw [e, e1, e2, e3, e4, e5])
theorem eig_step {N : Nat} {S : rx_S} : ∀ (m n i : Nat) (v : Nat), i + m < 2 ^ 31 → m < n → f_X11_eights_L4 N n (nI (i + m)) (nI v) (nI i) S = some (nI (v * 8 ^ m), S) := by
  intro m
  induction m with
  | zero =>
    intro n i v hi hn
    obtain ⟨n, rfl⟩ : ∃ q, n = q + 1 := ⟨n - 1, by omega⟩
    rw [f_X11_eights_L4, if_pos (nI_le (a := i + 0) (b := i) (by omega) (by omega))]
    simp
  | succ m ih =>
    intro n i v hi hn
    obtain ⟨n, rfl⟩ : ∃ q, n = q + 1 := ⟨n - 1, by omega⟩
    rw [f_X11_eights_L4, if_neg (nI_ge (by omega) hi)]
    simp only [rx_let]
    have e1 : nI v * 8 = nI (v * 8) := nI_mul v 8
    rw [e1, nI_1, show i + (m + 1) = (i + 1) + m by omega, ih n (i + 1) (v * 8) (by omega) (by omega)]
    rw [Nat.pow_succ, Nat.mul_assoc, Nat.mul_comm 8]
theorem eights_eq {N : Nat} {n : Nat} {S : rx_S} (hN : 5000 ≤ N) (hn : n ≤ 4000) : f_X11_eights N (nI n) S = some (nI (8 ^ n), S) := by
  have h := eig_step (N := N) (S := S) n N 0 1 (by omega) (by omega)
  rw [Nat.zero_add, Nat.one_mul] at h
  exact h
theorem nI_div {a b : Nat} (ha : a < 2 ^ 31) (hb : b < 2 ^ 31) : nI a / nI b = nI (a / b) := by
  have hq : a / b ≤ a := Nat.div_le_self a b
  rw [i_inj, Int32.toInt_div, nI_toInt ha, nI_toInt hb, nI_toInt (by omega)]
  have e : (a : Int).tdiv (b : Int) = ((a / b : Nat) : Int) := (Int.ofNat_tdiv a b).symm
  rw [e]
  generalize a / b = q at hq
  exact Int.bmod_eq_of_le (by omega) (by omega)
theorem nI_rem {a b : Nat} (ha : a < 2 ^ 31) (hb : b < 2 ^ 31) : rx_rem (nI a) (nI b) = nI (a % b) := by
  unfold rx_rem
  have h := Nat.div_add_mod a b
  have h2 : a / b * b ≤ a := Nat.div_mul_le_self a b
  rw [nI_div ha hb, nI_mul, nI_sub h2]
  have h3 : a - a / b * b = a % b := by rw [Nat.mul_comm] at h; omega
  rw [h3]
/-- the i-th word of a row v of n words -/
def wd (v n i : Nat) : Nat := v / 8 ^ (n - 1 - i) % 8
theorem wd_lt (v n i : Nat) : wd v n i < 8 := Nat.mod_lt _ (by decide)
theorem wordIn_eq {N v n i : Nat} {S : rx_S} (hN : 5000 ≤ N) (hv : v < 2 ^ 31) (hn : n ≤ 5) (hi : i < n) : f_X11_wordIn N (nI v) (nI n) (nI i) S = some (nI (wd v n i), S) := by
  unfold f_X11_wordIn
  have e1 : nI n - 1 - nI i = nI (n - 1 - i) := by
    have : nI n - 1 = nI (n - 1) := nI_sub (b := 1) (by omega)
    rw [this, nI_sub (by omega)]
  have hp : 8 ^ (n - 1 - i) ≤ 8 ^ 5 := Nat.pow_le_pow_right (by decide) (by omega)
  have hp1 : 0 < 8 ^ (n - 1 - i) := Nat.pow_pos (by decide)
  have hq : v / 8 ^ (n - 1 - i) ≤ v := Nat.div_le_self _ _
  rw [e1, eights_eq hN (by omega), bd_some, rx_nz_in (nI_ne0 hp1 (by omega)), nI_div hv (by omega)]
  have e2 := nI_rem (a := v / 8 ^ (n - 1 - i)) (b := 8) (by omega) (by decide)
  have e3 : rx_rem (nI (v / 8 ^ (n - 1 - i))) 8 = nI (v / 8 ^ (n - 1 - i) % 8) := e2
  rw [e3]
  rfl
theorem wordAt_eq {v n i : Nat} {S : rx_S} (hv : v < 2 ^ 31) (hn : n ≤ 5) (hi : i < n) : f_X5_wordAt (nI v) (nI n) (nI i) S = some (nI (wd v n i), S) := by
  unfold f_X5_wordAt
  have e1 : nI n - 1 - nI i = nI (n - 1 - i) := by
    have : nI n - 1 = nI (n - 1) := nI_sub (b := 1) (by omega)
    rw [this, nI_sub (by omega)]
  simp only [rx_let]
  rw [e1, if_neg (nI_pos (by omega)), if_neg (nI_pos (by omega))]
  have e2 : (3 : Int32) * nI (n - 1 - i) = nI (3 * (n - 1 - i)) := nI_mul 3 _
  rw [e2]
  unfold rx_ushr
  have e3 : (((nI (3 * (n - 1 - i))).toUInt32 &&& Int32.toUInt32 31).toBitVec % 32).toNat = 3 * (n - 1 - i) := by
    have : n - 1 - i ≤ 4 := by omega
    generalize n - 1 - i = k at this
    match k, this with
    | 0, _ => decide
    | 1, _ => decide
    | 2, _ => decide
    | 3, _ => decide
    | 4, _ => decide
  rw [pk_ushrN (by omega) _ _ e3, pk_andN (Nat.lt_of_le_of_lt (Nat.div_le_self _ _) (by omega)) 3 (by decide)]
  unfold wd
  rw [Nat.pow_mul]
/-- a row with one more word -/
theorem rsz_app {v n w : Nat} (h1 : 8 ^ n ≤ v) (h2 : v < 2 * 8 ^ n) (hw : w < 8) : 8 ^ (n + 1) ≤ v * 8 + w ∧ v * 8 + w < 2 * 8 ^ (n + 1) := by
  rw [Nat.pow_succ]
  omega
