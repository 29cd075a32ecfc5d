/-! ===== THE PURE PART: what a method's function answers ===== -/
def pk {α : Type} (o : Option (α × rx_S)) (P : α → rx_S → Prop) : Prop := ∃ r S, o = some (r, S) ∧ P r S
theorem pk_some {α : Type} {r : α} {S : rx_S} {P : α → rx_S → Prop} : pk (some (r, S)) P = P r S := by
  refine propext ⟨fun ⟨r', S', e, h⟩ => ?_, fun h => ⟨r, S, rfl, h⟩⟩
  cases e
  exact h
theorem pk_let {α β : Type} {a : α} {f : α → Option (β × rx_S)} {P : β → rx_S → Prop} : pk (rx_let a f) P = pk (f a) P := rfl
theorem pk_bd {α β : Type} {x : Option (α × rx_S)} {f : α → rx_S → Option (β × rx_S)} {P : β → rx_S → Prop} : pk (rx_bd x f) P = pk x (fun r S => pk (f r S) P) := by
  refine propext ⟨fun ⟨r, S, e, h⟩ => ?_, fun ⟨a, S, e, r, S', e', h⟩ => ⟨r, S', by rw [e]; exact e', h⟩⟩
  obtain ⟨a, S', e1, e2⟩ := rx_bd_o e
  exact ⟨a, S', e1, r, S, e2, h⟩
theorem pk_gd {α : Type} {i : Int32} {n : Nat} {A : Option (α × rx_S)} {P : α → rx_S → Prop} (h : vp_in i n) : pk (rx_gd i n A) P = pk A P := by rw [rx_gd_in h]
theorem pk_gdn {α : Type} {i n : Nat} {A : Option (α × rx_S)} {P : α → rx_S → Prop} (h : i < n) (hn : n < 2 ^ 31) : pk (rx_gd (nI i) n A) P = pk A P := pk_gd (vp_in_nI h hn)
theorem pk_nz {α : Type} {y : Int32} {A : Option (α × rx_S)} {P : α → rx_S → Prop} (h : ¬ y = 0) : pk (rx_nz y A) P = pk A P := by rw [rx_nz_in h]
theorem pk_bl {α : Type} {y : Int32} {A : Option (α × rx_S)} {P : α → rx_S → Prop} (h : y = 0 ∨ y = 1) : pk (rx_bl y A) P = pk A P := by rw [rx_bl_in h]
theorem pk_ite {α : Type} {c : Prop} [Decidable c] {A B : Option (α × rx_S)} {P : α → rx_S → Prop} : pk (if c then A else B) P = if c then pk A P else pk B P := by split <;> rfl
theorem pk_mono {α : Type} {o : Option (α × rx_S)} {P Q : α → rx_S → Prop} (h : pk o P) (k : ∀ r S, P r S → Q r S) : pk o Q := by
  obtain ⟨r, S, e, hp⟩ := h
  exact ⟨r, S, e, k r S hp⟩
theorem pk_of {α : Type} {o : Option (α × rx_S)} {r : α} {S : rx_S} {P : α → rx_S → Prop} (e : o = some (r, S)) (h : P r S) : pk o P := ⟨r, S, e, h⟩
theorem pk_bdm {α β : Type} {x : Option (α × rx_S)} {f : α → rx_S → Option (β × rx_S)} {P : β → rx_S → Prop} {Q : α → rx_S → Prop} (h : pk x Q) (k : ∀ r S, Q r S → pk (f r S) P) : pk (rx_bd x f) P := by
  rw [pk_bd]
  exact pk_mono h k
theorem bd_some {α β : Type} {r : α} {S : rx_S} {f : α → rx_S → Option β} : rx_bd (some (r, S)) f = f r S := rfl
/-- reads of a changed state -/
theorem ui_get {S : rx_S} {k i k' j : Nat} {v : Int32} : (rx_ui S k i v).1 k' j = if k' = k then (if j = i then v else S.1 k j) else S.1 k' j := by
  unfold rx_ui rx_ur upd
  by_cases h : k' = k <;> simp [h]
theorem ui_row {S : rx_S} {k i k' : Nat} {v : Int32} (h : k' ≠ k) : (rx_ui S k i v).1 k' = S.1 k' := by
  unfold rx_ui rx_ur
  simp [h]
theorem ui_L {S : rx_S} {k i : Nat} {v : Int32} : (rx_ui S k i v).2 = S.2 := rfl
theorem ur_get {S : rx_S} {k k' : Nat} {f : Nat → Int32} : (rx_ur S k f).1 k' = if k' = k then f else S.1 k' := rfl
theorem ur_L {S : rx_S} {k : Nat} {f : Nat → Int32} : (rx_ur S k f).2 = S.2 := rfl
/-- Int32 -/
theorem i_inj {a b : Int32} : a = b ↔ a.toInt = b.toInt := Int32.toInt_inj.symm
theorem i_lt {a b : Int32} : a < b ↔ a.toInt < b.toInt := Int32.lt_iff_toInt_lt
theorem i_le {a b : Int32} : a ≤ b ↔ a.toInt ≤ b.toInt := Int32.le_iff_toInt_le
theorem i_b (a : Int32) : -2147483648 ≤ a.toInt ∧ a.toInt < 2147483648 := ⟨Int32.le_toInt a, Int32.toInt_lt a⟩
theorem i_add {a b : Int32} {x y : Int} (ha : a.toInt = x) (hb : b.toInt = y) (h1 : -2147483648 ≤ x + y) (h2 : x + y < 2147483648) : (a + b).toInt = x + y := by
  rw [Int32.toInt_add, ha, hb]
  exact Int.bmod_eq_of_le (by omega) (by omega)
theorem i_sub {a b : Int32} {x y : Int} (ha : a.toInt = x) (hb : b.toInt = y) (h1 : -2147483648 ≤ x - y) (h2 : x - y < 2147483648) : (a - b).toInt = x - y := by
  rw [Int32.toInt_sub, ha, hb]
  exact Int.bmod_eq_of_le (by omega) (by omega)
theorem i_mul {a b : Int32} {x y : Int} (ha : a.toInt = x) (hb : b.toInt = y) (h1 : -2147483648 ≤ x * y) (h2 : x * y < 2147483648) : (a * b).toInt = x * y := by
  rw [Int32.toInt_mul, ha, hb]
  exact Int.bmod_eq_of_le (by omega) (by omega)
theorem nI_mul (a b : Nat) : nI a * nI b = nI (a * b) := (Int32.ofNat_mul a b).symm
theorem nI_sub {a b : Nat} (h : b ≤ a) : nI a - nI b = nI (a - b) := by
  have e : nI a = nI (a - b) + nI b := by rw [nI_add, Nat.sub_add_cancel h]
  rw [e, Int32.add_sub_cancel]
theorem nI_le0 {n : Nat} (h : n < 2 ^ 31) : 0 ≤ nI n := nI_pos' h
theorem nI_of' {x : Int32} (h : 0 ≤ x) : ∃ j : Nat, j < 2 ^ 31 ∧ x = nI j := nI_of (by rw [i_lt]; rw [i_le] at h; have : (0 : Int32).toInt = 0 := rfl; omega)
theorem i_nlt {a b : Int32} : ¬ a < b ↔ b ≤ a := by rw [i_lt, i_le]; omega
theorem i_nle {a b : Int32} : ¬ a ≤ b ↔ b < a := by rw [i_lt, i_le]; omega
