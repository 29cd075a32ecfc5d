/-! ===== WHAT BOTH SIDES COMPUTE, over an abstract text T and a state st (in the reference's layout) ===== -/
abbrev tx : Type := (Nat → Nat) × (Nat → Nat → Int32) × (Nat → Int32 → Int32 → Int32 → Int32 → Int32 → Int32 → Int32 → Int32 → Int32 → Int32)
def tS (T : tx) : Nat := T.1 0
def tC (T : tx) : Nat := T.1 1
def tT (T : tx) : Nat := T.1 2
def tP (T : tx) (c w : Nat) : Nat := T.1 (3 + 2 * c + w)
def tM (T : tx) (a : Nat) : Int32 := T.2.1 0 a
def tO (T : tx) (a : Nat) : Int32 := T.2.1 1 a
def tR (T : tx) (i : Nat) : Int32 := T.2.1 2 i
def tD (T : tx) (i : Nat) : Int32 := T.2.1 3 i
def tF (T : tx) : Int32 := T.2.1 4 0
def tE (T : tx) : Int32 := T.2.1 4 1
def tL (T : tx) (k : Nat) : Int32 → Int32 → Int32 → Int32 → Int32 → Int32 → Int32 → Int32 → Int32 → Int32 := T.2.2 k
/-- small numbers -/
def sm (b : Nat) (x : Int32) : Prop := ∃ n : Nat, n ≤ b ∧ x = nI n
def WF (T : tx) : Prop := tS T ≤ 6 ∧ tC T ≤ 3 ∧ tT T ≤ 4 ∧ (∀ c w, c < tC T → w < 2 → tP T c w < tS T) ∧ (∀ c, c < tC T → tP T c 0 ≠ tP T c 1) ∧ (∀ a, a < tS T → sm 99 (tM T a)) ∧ (∀ i, i < tT T → sm 9 (tR T i) ∧ sm 99 (tD T i))
def hld (x a b : Int32) : Int32 := if a ≤ x then (if x ≤ b then x else b) else a
def rst (x : Int32) (m : Nat) : Nat := x.toNatClampNeg % m
/-- what a spouse says -/
def sdN (T : tx) (st : Nat → Int32) (a : Nat) : Nat := min 5 (tL T 0 0 0 (st a) 0 0 (nI a) (st 44) 0 0).toNatClampNeg
def sdL (T : tx) (st : Nat → Int32) (a : Nat) : Nat → Nat
  | 0 => 1
  | i + 1 => 8 * sdL T st a i + rst (tL T 1 0 (nI i) (st a) 0 0 (nI a) (st 44) 0 0) 8
def sd (T : tx) (st : Nat → Int32) (a : Nat) : Nat := sdL T st a (sdN T st a)
/-- what a third puts -/
def dar (T : tx) (st : Nat → Int32) (i : Nat) : Bool := decide (0 < tL T 6 0 0 0 (st (24 + i)) (st (28 + i)) (nI i) (st 44) 0 (st (40 + i)))
def bnd (T : tx) (st : Nat → Int32) (i : Nat) : Bool := decide (st (32 + i) = 1) && ! dar T st i
def bent (T : tx) (st : Nat → Int32) (i w p : Nat) : Nat := rst (tL T 2 (nI w) (nI p) 0 (st (24 + i)) (st (28 + i)) (nI i) (st 44) (tR T i) 0) 9
def pt (T : tx) (st : Nat → Int32) (i w p : Nat) : Nat := if bnd T st i = true then w else bent T st i w p
def drp (T : tx) (st : Nat → Int32) (i : Nat) : Int32 := hld (tL T 3 0 0 0 (st (24 + i)) (st (28 + i)) (nI i) (st 44) 0 0) 0 100
def mxd (h v : Int32) : Int32 := (((h ^^^ v) * 1103515245) + 12345) ^^^ (rx_ushr (((h ^^^ v) * 1103515245) + 12345) 15)
def lot (seed which : Int32) : Int32 := rx_rem (rx_ushr (mxd (mxd seed 91) which) 1) 100
/-- what is carried: of the words of v (n of them) the first j -/
def cr (T : tx) (st : Nat → Int32) (i v n : Nat) (dr : Nat → Bool) : Nat → Nat
  | 0 => 1
  | j + 1 => if pt T st i (wd v n j) j = 8 ∨ dr j = true then cr T st i v n dr j else 8 * cr T st i v n dr j + pt T st i (wd v n j) j
/-- how many words a row has -/
def rl (v : Nat) : Nat := if v < 8 then 0 else if v < 64 then 1 else if v < 512 then 2 else if v < 4096 then 3 else if v < 32768 then 4 else 5
def okr (v : Nat) : Prop := ∃ n, n ≤ 5 ∧ 8 ^ n ≤ v ∧ v < 2 * 8 ^ n
def put (T : tx) (st : Nat → Int32) (i v : Nat) : Nat := cr T st i v (rl v) (fun _ => false) (rl v)
def md (T : tx) (st : Nat → Int32) (a v n : Nat) : Nat → Int32
  | 0 => st a
  | j + 1 => hld (md T st a v n j + hld (tL T 4 (nI (wd v n j)) (nI j) (md T st a v n j) 0 0 (nI a) (st 44) 0 0) (-9) 9) 0 99
def mood (T : tx) (st : Nat → Int32) (a v : Nat) : Int32 := md T st a v (rl v) (rl v)
theorem rl_of {v n : Nat} (hn : n ≤ 5) (h1 : 8 ^ n ≤ v) (h2 : v < 2 * 8 ^ n) : rl v = n := by
  unfold rl
  match n, hn with
  | 0, _ => rw [if_pos (by omega)]
  | 1, _ => rw [if_neg (by omega), if_pos (by omega)]
  | 2, _ => rw [if_neg (by omega), if_neg (by omega), if_pos (by omega)]
  | 3, _ => rw [if_neg (by omega), if_neg (by omega), if_neg (by omega), if_pos (by omega)]
  | 4, _ => rw [if_neg (by omega), if_neg (by omega), if_neg (by omega), if_neg (by omega), if_pos (by omega)]
  | 5, _ => rw [if_neg (by omega), if_neg (by omega), if_neg (by omega), if_neg (by omega), if_neg (by omega)]
theorem rl_le (v : Nat) : rl v ≤ 5 := by
  unfold rl
  repeat' split
  all_goals omega
theorem okr_lt {v : Nat} (h : okr v) : v < 2 ^ 17 := by
  obtain ⟨n, hn, h1, h2⟩ := h
  have : 8 ^ n ≤ 8 ^ 5 := Nat.pow_le_pow_right (by decide) hn
  omega
theorem rsz_okr {v : Nat} (h : okr v) : rsz (nI v) = nI (rl v) := by
  obtain ⟨n, hn, h1, h2⟩ := h
  rw [rsz_of hn h1 h2, rl_of hn h1 h2]
theorem hld_nI {x : Int32} {b : Nat} (hb : b < 2 ^ 31) : hld x 0 (nI b) = nI (min b x.toNatClampNeg) := by
  unfold hld
  by_cases h : 0 ≤ x
  · obtain ⟨n, hn, rfl⟩ := nI_of' h
    rw [if_pos h, nI_clamp hn]
    by_cases h2 : n ≤ b
    · rw [if_pos ((nI_leI hn hb).mpr h2), Nat.min_eq_right h2]
    · rw [if_neg (fun q => h2 ((nI_leI hn hb).mp q)), Nat.min_eq_left (by omega)]
  · have e : x.toNatClampNeg = 0 := by
      rw [i_le] at h
      have h0 : (0 : Int32).toInt = 0 := rfl
      have h1 : x.toNatClampNeg = x.toInt.toNat := rfl
      omega
    rw [if_neg h, e, Nat.min_zero]
    rfl
theorem rst_nI {x : Int32} {m : Nat} (hm : m < 2 ^ 31) : (if 0 ≤ x then rx_rem x (nI m) else 0) = nI (rst x m) := by
  unfold rst
  by_cases h : 0 ≤ x
  · obtain ⟨n, hn, rfl⟩ := nI_of' h
    rw [if_pos h, nI_clamp hn, nI_rem hn hm]
  · have e : x.toNatClampNeg = 0 := by
      rw [i_le] at h
      have h0 : (0 : Int32).toInt = 0 := rfl
      have h1 : x.toNatClampNeg = x.toInt.toNat := rfl
      omega
    rw [if_neg h, e, Nat.zero_mod]
    rfl
theorem rst_lt {x : Int32} {m : Nat} (hm : 0 < m) : rst x m < m := Nat.mod_lt _ hm
theorem sdL_ok (T : tx) (st : Nat → Int32) (a : Nat) : ∀ i, 8 ^ i ≤ sdL T st a i ∧ sdL T st a i < 2 * 8 ^ i := by
  intro i
  induction i with
  | zero => unfold sdL; decide
  | succ i ih =>
    have h := rsz_app ih.1 ih.2 (rst_lt (x := tL T 1 0 (nI i) (st a) 0 0 (nI a) (st 44) 0 0) (m := 8) (by decide))
    unfold sdL
    omega
theorem sd_ok (T : tx) (st : Nat → Int32) (a : Nat) : okr (sd T st a) := ⟨sdN T st a, Nat.min_le_left _ _, (sdL_ok T st a _).1, (sdL_ok T st a _).2⟩
theorem sd_rl (T : tx) (st : Nat → Int32) (a : Nat) : rl (sd T st a) = sdN T st a := rl_of (Nat.min_le_left _ _) (sdL_ok T st a _).1 (sdL_ok T st a _).2
theorem pt_lt (T : tx) (st : Nat → Int32) (i w p : Nat) (hw : w < 8) : pt T st i w p < 9 := by
  unfold pt
  split
  · omega
  · exact rst_lt (by decide)
theorem cr_ok (T : tx) (st : Nat → Int32) (i v n : Nat) (dr : Nat → Bool) : ∀ j, ∃ m, m ≤ j ∧ 8 ^ m ≤ cr T st i v n dr j ∧ cr T st i v n dr j < 2 * 8 ^ m := by
  intro j
  induction j with
  | zero => exact ⟨0, Nat.le_refl _, by unfold cr; decide, by unfold cr; decide⟩
  | succ j ih =>
    obtain ⟨m, hm, h1, h2⟩ := ih
    unfold cr
    split
    · exact ⟨m, by omega, h1, h2⟩
    · rename_i h
      have h9 := pt_lt T st i (wd v n j) j (wd_lt v n j)
      have h8 : pt T st i (wd v n j) j ≠ 8 := fun q => h (Or.inl q)
      have := rsz_app h1 h2 (w := pt T st i (wd v n j) j) (by omega)
      exact ⟨m + 1, by omega, by omega, by omega⟩
theorem cr_okr (T : tx) (st : Nat → Int32) (i v n : Nat) (dr : Nat → Bool) {j : Nat} (hj : j ≤ 5) : okr (cr T st i v n dr j) := by
  obtain ⟨m, hm, h1, h2⟩ := cr_ok T st i v n dr j
  exact ⟨m, by omega, h1, h2⟩
theorem put_ok (T : tx) (st : Nat → Int32) (i v : Nat) : okr (put T st i v) := cr_okr T st i v _ _ (rl_le v)
theorem hld_sm {x : Int32} {b : Nat} (hb : b < 2 ^ 31) : sm b (hld x 0 (nI b)) := ⟨_, Nat.min_le_left _ _, hld_nI hb⟩
theorem md_sm {T : tx} {st : Nat → Int32} {a v n : Nat} (h : sm 99 (st a)) : ∀ j, sm 99 (md T st a v n j) := by
  intro j
  cases j with
  | zero => exact h
  | succ j => exact hld_sm (b := 99) (by decide)
theorem rem_nn {x : Int32} : ∃ q, q < 100 ∧ rx_rem (rx_ushr x 1) 100 = nI q := by
  have e : rx_ushr x 1 = nI (x.toBitVec.toNat / 2) := by
    have h := pk_ushrN (n := x.toBitVec.toNat) x.toBitVec.isLt 1 1 (by decide)
    have hx : nI x.toBitVec.toNat = x := by
      have : (nI x.toBitVec.toNat).toBitVec = x.toBitVec := by
        show BitVec.ofNat 32 x.toBitVec.toNat = x.toBitVec
        simp
      exact Int32.toBitVec_inj.mp this
    rw [hx] at h
    exact h
  have hlt := x.toBitVec.isLt
  exact ⟨x.toBitVec.toNat / 2 % 100, Nat.mod_lt _ (by decide), by rw [e]; exact nI_rem (b := 100) (by omega) (by decide)⟩
theorem lot_nn (s w : Int32) : ∃ q, q < 100 ∧ lot s w = nI q := rem_nn
