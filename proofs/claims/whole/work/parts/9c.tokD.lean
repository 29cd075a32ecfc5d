/-! ===== READ 29: the tokens of a tape; the class's cut ===== -/
def bls (b : Nat → Nat) (len i : Nat) : Nat := spn (fun j => qBl (b j)) (len - i) i
def tps (b : Nat → Nat) (len : Nat) : Nat → Nat
  | 0 => 0
  | j + 1 => tkE b len (bls b len (tps b len j))
def tpl (b : Nat → Nat) (len j : Nat) : Nat := bls b len (tps b len j)
def tln (b : Nat → Nat) (len i : Nat) : Nat := tkE b len i - i
def sgn (c : Nat) : Bool := c == 59 || c == 61 || c == 43 || c == 45 || c == 42 || c == 47 || c == 60 || c == 40 || c == 41
def nuD (b : Nat → Nat) (i : Nat) : Nat → Nat
  | 0 => 0
  | k + 1 => 10 * nuD b i k + (b (i + k) - 48)
def kwO (o : Option Nat) : Nat := match o with
  | some k => 128 + k
  | none => 2
def tkd (b : Nat → Nat) (len i : Nat) : Nat := if i < len then (if qLe (b i) = true then (if 8 < tln b len i then 1 else kwO (ff (kwp (wdg b i) (tln b len i)) 24 0)) else if qDi (b i) = true then (if 4 < tln b len i then 1 else 3) else if sgn (b i) = true then b i else 1) else 0
def tz (b : Nat → Nat) (len m : Nat) : tks := (fun j => tkd b len (tpl b len j), fun j => tpl b len j, fun j => nuD b (tpl b len j) (tln b len (tpl b len j)), m)
section TOKD
variable {N len i : Nat} {b : Nat → Nat} {S : rx_S}
theorem bls_le (h : i ≤ len) : i ≤ bls b len i ∧ bls b len i ≤ len := by
  have := spn_ge (q := fun j => qBl (b j)) (len - i) i
  unfold bls
  omega
theorem tkE_le (h : i ≤ len) : i ≤ tkE b len i ∧ tkE b len i ≤ len := by
  unfold tkE
  have h1 := spn_ge (q := fun j => qLe (b j)) (len - i) i
  have h2 := spn_ge (q := fun j => qDi (b j)) (len - i) i
  repeat' split
  all_goals omega
theorem spn_gt {q : Nat → Bool} {m : Nat} (h : q i = true) (hm : 0 < m) : i < spn q m i := by
  obtain ⟨m, rfl⟩ : ∃ k, m = k + 1 := ⟨m - 1, by omega⟩
  rw [spn, if_pos h]
  have := spn_ge (q := q) m (i + 1)
  omega
theorem tkE_gt (h : i < len) : i < tkE b len i := by
  unfold tkE
  rw [if_pos h]
  split
  · rename_i q
    exact spn_gt (q := fun j => qLe (b j)) q (by omega)
  · split
    · rename_i q
      exact spn_gt (q := fun j => qDi (b j)) q (by omega)
    · omega
theorem tps_le : ∀ j, tps b len j ≤ len := by
  intro j
  induction j with
  | zero => exact Nat.zero_le _
  | succ j ih => rw [tps]; exact (tkE_le (bls_le ih).2).2
theorem tpl_le (j : Nat) : tpl b len j ≤ len := (bls_le (tps_le j)).2
theorem tln_le (h : i < len) : 1 ≤ tln b len i ∧ i + tln b len i = tkE b len i ∧ tkE b len i ≤ len := by
  have h1 := tkE_gt (b := b) h
  have h2 := tkE_le (b := b) (len := len) (i := i) (by omega)
  unfold tln
  omega
theorem tk_le (h : i < len) (hq : qLe (b i) = true) : (∀ j, i ≤ j → j < tkE b len i → qLe (b j) = true) ∧ (tkE b len i < len → qLe (b (tkE b len i)) = false) := by
  unfold tkE
  rw [if_pos h, if_pos hq]
  exact ⟨fun j h1 h2 => spn_in (q := fun j => qLe (b j)) _ _ j h1 h2, fun h3 => spn_out (q := fun j => qLe (b j)) (len - i) i (by omega)⟩
theorem tk_di (h : i < len) (hl : ¬ qLe (b i) = true) (hq : qDi (b i) = true) : (∀ j, i ≤ j → j < tkE b len i → qDi (b j) = true) ∧ (tkE b len i < len → qDi (b (tkE b len i)) = false) := by
  unfold tkE
  rw [if_pos h, if_neg hl, if_pos hq]
  exact ⟨fun j h1 h2 => spn_in (q := fun j => qDi (b j)) _ _ j h1 h2, fun h3 => spn_out (q := fun j => qDi (b j)) (len - i) i (by omega)⟩
theorem tk_sg (h : i < len) (hl : ¬ qLe (b i) = true) (hd : ¬ qDi (b i) = true) : tkE b len i = i + 1 := by
  unfold tkE
  rw [if_pos h, if_neg hl, if_neg hd]
theorem nuD_lt : ∀ n, (∀ j, j < n → b (i + j) < 256 ∧ qDi (b (i + j)) = true) → nuD b i n < 10 ^ n := by
  intro n
  induction n with
  | zero => intro _; rw [nuD]; decide
  | succ n ih =>
    intro h
    have h1 := ih (fun j hj => h j (by omega))
    have h2 := di_dec _ (h n (by omega)).1 (h n (by omega)).2
    rw [nuD, Nat.pow_succ]
    omega
theorem nk6_L (h : inC len b S) {n : Nat} (hn : i + n ≤ len) (hn4 : n ≤ 4) (hq : ∀ j, i ≤ j → j < i + n → qDi (b j) = true) {K : Int32 → rx_S → Option (Int32 × rx_S)} : ∀ m f k, k + m = n → m < f → f_X9_numberKind_L6 N K f (nI (i + n)) (nI (nuD b i k)) (nI (i + k)) S = K (nI (nuD b i n)) S := by
  intro m
  have hl := h.1
  induction m with
  | zero =>
    intro f k hk hf
    obtain ⟨f, rfl⟩ : ∃ q, f = q + 1 := ⟨f - 1, by omega⟩
    have : k = n := by omega
    rw [f_X9_numberKind_L6, if_pos (nI_le (by omega) (by omega)), this]
  | succ m ih =>
    intro f k hk hf
    obtain ⟨f, rfl⟩ : ∃ q, f = q + 1 := ⟨f - 1, by omega⟩
    obtain ⟨h1, h2⟩ := h.2 (i + k) (by omega)
    have hd := di_dec _ h1 (hq (i + k) (by omega) (by omega))
    rw [f_X9_numberKind_L6, if_neg (nI_ge (by omega) (by omega)), rx_gd_in (vp_in_nI (show i + k < 2000 by omega) (by decide)), nI_clamp (by omega), h2, hd.1]
    simp only [rx_let]
    have e10 : nI (nuD b i k) * 10 = nI (nuD b i k * 10) := nI_mul _ 10
    have e : nuD b i k * 10 + (b (i + k) - 48) = nuD b i (k + 1) := by rw [nuD, Nat.mul_comm]
    rw [e10, nI_add, nI_1, e]
    exact ih f (k + 1) (by omega) (by omega)
theorem ixs_dec : ∀ n, n < 256 → rx_i2c (nI n) = nI n ∧ (sgn n = true → ¬ rx_ixs (nI n) < 0) ∧ (sgn n = false → rx_ixs (nI n) < 0) := by decide +kernel
theorem kindC {j : Nat} (hN : 5000 ≤ N) (h : inC len b S) (h15 : S.2 15 = zC.2 15) (hj : S.1 14 4 = nI j) (hj1 : j < 401) (hi : i ≤ len) : ∃ S', f_X9_kindOf N (nI i) (nI (tkE b len i)) S = some (nI (tkd b len i), S') ∧ S'.1 = S.1 ∧ (∀ r, r ≠ 18 → S'.2 r = S.2 r) ∧ (∀ k, k ≠ j → S'.2 18 k = S.2 18 k) ∧ (tkd b len i = 3 → S'.2 18 j = Int64.ofNat (nuD b i (tln b len i))) ∧ (tkd b len i = 2 → tln b len i ≤ 8 ∧ i < len ∧ qLe (b i) = true ∧ S'.2 18 j = Int64.ofNat (en 32 (wdg b i) (tln b len i))) := by
  have hl := h.1
  by_cases hlt : i < len
  · obtain ⟨h1, h2⟩ := h.2 i hlt
    obtain ⟨l1, l2, l3⟩ := tln_le (b := b) hlt
    have gi : ∀ {β : Type} (A : Option β), rx_gd (nI i) 2000 A = A := fun A => rx_gd_in (vp_in_nI (by omega) (by decide))
    have esub : nI (tkE b len i) - nI i = nI (tln b len i) := nI_sub (by omega)
    have hkd : tkd b len i = (if qLe (b i) = true then (if 8 < tln b len i then 1 else kwO (ff (kwp (wdg b i) (tln b len i)) 24 0)) else if qDi (b i) = true then (if 4 < tln b len i then 1 else 3) else if sgn (b i) = true then b i else 1) := if_pos hlt
    unfold f_X9_kindOf
    rw [if_pos (nI_lt (by omega) (by omega)), gi, nI_clamp (by omega), h2, leC h1, bd_some]
    by_cases qL : qLe (b i) = true
    · rw [if_pos qL, if_neg (by decide), esub]
      rw [if_pos qL] at hkd
      by_cases q8 : 8 < tln b len i
      · rw [if_neg (show ¬ nI (tln b len i) ≤ 8 from nI_ge (a := 8) q8 (by omega))]
        rw [if_pos q8] at hkd
        rw [hkd]
        exact ⟨S, rfl, rfl, fun _ _ => rfl, fun _ _ => rfl, fun e => by omega, fun e => by omega⟩
      · rw [if_pos (show nI (tln b len i) ≤ 8 from nI_le (b := 8) (by omega) (by decide))]
        rw [if_neg q8] at hkd
        have hw := wdg_ok (b := b) (i := i) (n := tln b len i) (fun k a1 a2 => ⟨(h.2 k (by omega)).1, (tk_le hlt qL).1 k a1 (by omega)⟩)
        unfold f_X9_wordKind
        have L6 := wk6_L (N := N) h (i := i) (n := tln b len i) (by omega) (fun k a1 a2 => (tk_le hlt qL).1 k a1 (by omega)) (K := fun (x5 : Int64) (S6 : rx_S) => rx_gd (S6.1 14 4) 401 (rx_let (rx_uj S6 18 (Int32.toNatClampNeg (S6.1 14 4)) x5) (fun S8 => f_X9_wordKind_L43 N N x5 0 S8))) (tln b len i) N 0 (by omega) (by omega)
        rw [l2] at L6
        have L6' : f_X9_wordKind_L6 N (fun (x5 : Int64) (S6 : rx_S) => rx_gd (S6.1 14 4) 401 (rx_let (rx_uj S6 18 (Int32.toNatClampNeg (S6.1 14 4)) x5) (fun S8 => f_X9_wordKind_L43 N N x5 0 S8))) N (nI (tkE b len i)) (0 : Int64) (nI i) S = _ := L6
        simp only [rx_let] at L6' ⊢
        rw [L6', hj, rx_gd_in (vp_in_nI hj1 (by decide)), nI_clamp (by omega)]
        have h15' : (rx_uj S 18 j (Int64.ofNat (en 32 (wdg b i) (tln b len i)))).2 15 = zC.2 15 := by rw [uj_L (by decide)]; exact h15
        have L43 := wk43_L (N := N) h15' (w := wdg b i) (n := tln b len i) (by omega) hw 24 N 0 (by omega) (by omega)
        have L43' : f_X9_wordKind_L43 N N (Int64.ofNat (en 32 (wdg b i) (tln b len i))) 0 (rx_uj S 18 j (Int64.ofNat (en 32 (wdg b i) (tln b len i)))) = _ := L43
        rw [L43', bd_some]
        refine ⟨rx_uj S 18 j (Int64.ofNat (en 32 (wdg b i) (tln b len i))), ?_, rfl, fun r hr => uj_L hr, fun k hk => by rw [uj_at, updL_ne hk], fun e => ?_, fun e => ⟨by omega, hlt, qL, by rw [uj_at, updL_at]⟩⟩
        · rw [hkd]
          cases ff (kwp (wdg b i) (tln b len i)) 24 0 <;> rfl
        · rw [hkd] at e
          cases hff : ff (kwp (wdg b i) (tln b len i)) 24 0 with
          | none => rw [hff] at e; cases e
          | some k =>
            rw [hff] at e
            have e : 128 + k = 3 := e
            omega
    · rw [if_neg qL, if_pos rfl, gi, h2, diC h1, bd_some]
      rw [if_neg qL] at hkd
      by_cases qD : qDi (b i) = true
      · rw [if_pos qD, if_neg (by decide), esub]
        rw [if_pos qD] at hkd
        by_cases q4 : 4 < tln b len i
        · rw [if_neg (show ¬ nI (tln b len i) ≤ 4 from nI_ge (a := 4) q4 (by omega))]
          rw [if_pos q4] at hkd
          rw [hkd]
          exact ⟨S, rfl, rfl, fun _ _ => rfl, fun _ _ => rfl, fun e => by omega, fun e => by omega⟩
        · rw [if_pos (show nI (tln b len i) ≤ 4 from nI_le (b := 4) (by omega) (by decide))]
          rw [if_neg q4] at hkd
          have hv := nuD_lt (b := b) (i := i) (tln b len i) (fun k hk => ⟨(h.2 (i + k) (by omega)).1, (tk_di hlt qL qD).1 (i + k) (by omega) (by omega)⟩)
          have hp4 : 10 ^ tln b len i ≤ 10 ^ 4 := Nat.pow_le_pow_right (by decide) (by omega)
          unfold f_X9_numberKind
          have L6 := nk6_L (N := N) h (i := i) (n := tln b len i) (by omega) (by omega) (fun k a1 a2 => (tk_di hlt qL qD).1 k a1 (by omega)) (K := fun (x5 : Int32) (S6 : rx_S) => rx_gd (S6.1 14 4) 401 (rx_let (rx_uj S6 18 (Int32.toNatClampNeg (S6.1 14 4)) (Int32.toInt64 x5)) (fun S8 => some (3, S8)))) (tln b len i) N 0 (by omega) (by omega)
          rw [l2] at L6
          have L6' : f_X9_numberKind_L6 N (fun (x5 : Int32) (S6 : rx_S) => rx_gd (S6.1 14 4) 401 (rx_let (rx_uj S6 18 (Int32.toNatClampNeg (S6.1 14 4)) (Int32.toInt64 x5)) (fun S8 => some (3, S8)))) N (nI (tkE b len i)) 0 (nI i) S = _ := L6
          simp only [rx_let] at L6' ⊢
          rw [L6', hj, rx_gd_in (vp_in_nI hj1 (by decide)), nI_clamp (by omega), bd_some, l_nI (by omega)]
          rw [hkd]
          exact ⟨_, rfl, rfl, fun r hr => uj_L hr, fun k hk => by rw [uj_at, updL_ne hk], fun _ => by rw [uj_at, updL_at], fun e => by omega⟩
      · rw [if_neg qD, if_pos rfl, gi]
        rw [if_neg qD] at hkd
        obtain ⟨i1, i2, i3⟩ := ixs_dec (b i) h1
        simp only [rx_let]
        rw [h2, (bx_dec (b i) h1).1, i1]
        by_cases qs : sgn (b i) = true
        · rw [if_neg (i2 qs), hkd, if_pos qs]
          have hne : b i ≠ 3 ∧ b i ≠ 2 := by
            constructor <;> (intro e; rw [e] at qs; exact absurd qs (by decide))
          exact ⟨S, rfl, rfl, fun _ _ => rfl, fun _ _ => rfl, fun e => absurd e hne.1, fun e => absurd e hne.2⟩
        · rw [if_pos (i3 (Bool.eq_false_iff.mpr qs)), hkd, if_neg qs]
          exact ⟨S, rfl, rfl, fun _ _ => rfl, fun _ _ => rfl, fun e => by omega, fun e => by omega⟩
  · have e : tkE b len i = i := by
      unfold tkE
      rw [if_neg hlt]
    have hk : tkd b len i = 0 := if_neg hlt
    unfold f_X9_kindOf
    rw [e, if_neg (nI_nlt (Nat.le_refl _) (by omega)), hk]
    exact ⟨S, rfl, rfl, fun _ _ => rfl, fun _ _ => rfl, fun e => by omega, fun e => by omega⟩
end TOKD
