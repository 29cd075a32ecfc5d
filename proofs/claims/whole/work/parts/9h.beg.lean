/-! ===== READ 34: where both readings begin ===== -/
section BEG
variable {N len m : Nat} {b : Nat → Nat} {S SC SM : rx_S}
theorem sgn_ok : ∀ n, n < 256 → sgn n = true → okK n = true ∧ n ≠ 0 ∧ n ≠ 1 ∧ n ≠ 2 ∧ n ≠ 3 := by decide +kernel
theorem kw_okK : ∀ k, k < 24 → okK (128 + k) = true := by decide
theorem tkd_ok (hb : ∀ j, j < len → b j < 256) (i : Nat) : okK (tkd b len i) = true := by
  unfold tkd
  split
  · rename_i h1
    split
    · split
      · decide
      · cases hff : ff (kwp (wdg b i) (tln b len i)) 24 0 with
        | none => exact (by decide : okK 2 = true)
        | some k => exact kw_okK k (ff_lt hff).1
    · split
      · split <;> decide
      · split
        · rename_i h
          exact (sgn_ok _ (hb i h1) h).1
        · decide
  · decide
theorem tkd_lt_len {i : Nat} (h : tkd b len i ≠ 0) : i < len := by
  by_cases q : i < len
  · exact q
  · unfold tkd at h
    rw [if_neg q] at h
    exact absurd rfl h
theorem tkd_3 (hb : ∀ j, j < len → b j < 256) {i : Nat} (h : tkd b len i = 3) : nuD b i (tln b len i) < 10000 := by
  have hi := tkd_lt_len (b := b) (len := len) (i := i) (by omega)
  obtain ⟨l1, l2, l3⟩ := tln_le (b := b) hi
  unfold tkd at h
  rw [if_pos hi] at h
  by_cases qL : qLe (b i) = true
  · rw [if_pos qL] at h
    by_cases q8 : 8 < tln b len i
    · rw [if_pos q8] at h; omega
    · rw [if_neg q8] at h
      cases hff : ff (kwp (wdg b i) (tln b len i)) 24 0 with
      | none => rw [hff] at h; cases h
      | some k =>
        rw [hff] at h
        have h : 128 + k = 3 := h
        omega
  · rw [if_neg qL] at h
    by_cases qD : qDi (b i) = true
    · rw [if_pos qD] at h
      by_cases q4 : 4 < tln b len i
      · rw [if_pos q4] at h; omega
      · have hv := nuD_lt (b := b) (i := i) (tln b len i) (fun k hk => ⟨hb (i + k) (by omega), (tk_di hi qL qD).1 (i + k) (by omega) (by omega)⟩)
        have hp4 : 10 ^ tln b len i ≤ 10 ^ 4 := Nat.pow_le_pow_right (by decide) (by omega)
        omega
    · rw [if_neg qD] at h
      by_cases qs : sgn (b i) = true
      · rw [if_pos qs] at h
        exact absurd h (sgn_ok _ (hb i hi) qs).2.2.2.2
      · rw [if_neg qs] at h; omega
theorem tpl_lt {j : Nat} (h : tkd b len (tpl b len j) ≠ 0) : tpl b len j < tpl b len (j + 1) := by
  have h1 := tkd_lt_len h
  have h2 := tkE_gt (b := b) h1
  have h3 := (bls_le (b := b) (tps_le (b := b) (len := len) (j + 1))).1
  have e : tps b len (j + 1) = tkE b len (tpl b len j) := rfl
  rw [e] at h3
  show tpl b len j < bls b len (tps b len (j + 1))
  rw [e]
  omega
theorem tz_F (hb : ∀ j, j < len → b j < 256) (hl : len ≤ 2000) (h1 : 1 ≤ m) (h2 : m ≤ 401) (h3 : ∀ i, i + 1 < m → tkd b len (tpl b len i) ≠ 0 ∧ tkd b len (tpl b len i) ≠ 1) (h4 : m = 401 ∨ tkd b len (tpl b len (m - 1)) = 0 ∨ tkd b len (tpl b len (m - 1)) = 1) : tkF (tz b len m) := by
  refine ⟨h1, h2, fun j _ => tkd_ok hb _, fun j hj k0 k1 h4' => ?_, fun j _ h => tkd_3 hb h, ?_, fun j _ => Nat.le_trans (tpl_le j) hl⟩
  · have hj : j < m := hj
    show j + 1 < m
    by_cases e : j + 1 = m
    · have ej : j = m - 1 := by omega
      rcases h4 with h | h | h
      · omega
      · rw [← ej] at h; exact absurd h k0
      · rw [← ej] at h; exact absurd h k1
    · omega
  · have key : ∀ d i, i + d + 1 < m → tpl b len i < tpl b len (i + d + 1) := by
      intro d
      induction d with
      | zero => intro i hi; exact tpl_lt (h3 i (by omega)).1
      | succ d ih =>
        intro i hi
        have a1 := ih i (by omega)
        have a2 := tpl_lt (b := b) (len := len) (j := i + d + 1) (h3 (i + d + 1) (by omega)).1
        show tpl b len i < tpl b len (i + d + 1 + 1)
        omega
    intro i j hij hj
    have hj : j < m := hj
    have := key (j - i - 1) i (by omega)
    rw [show i + (j - i - 1) + 1 = j by omega] at this
    exact this
theorem tz_C (h4 : S.1 14 4 = nI m) (hw : ∀ i, i < m → tkwC b len i S) : tkC (tz b len m) S := ⟨h4, fun j hj => ⟨(hw j hj).1, (hw j hj).2.1, (hw j hj).2.2.1⟩⟩
theorem tz_M (hw : ∀ i, i < m → tkwM b len i S) : tkM (tz b len m) S := fun j hj => ⟨(hw j hj).1, (hw j hj).2.1, (hw j hj).2.2.1⟩
theorem l_inj {a c : Nat} (ha : a < 2 ^ 62) (hc : c < 2 ^ 62) : Int64.ofNat a = Int64.ofNat c ↔ a = c := by
  rw [← lg_cmp_eq, l_eq ha hc]
theorem tz_R (hb : ∀ j, j < len → b j < 256) (hC : ∀ i, i < m → tkwC b len i SC) (hM : ∀ i, i < m → tkwM b len i SM) : nmR (tz b len m) SC SM := by
  intro i j hi hj ki kj
  have ki : tkd b len (tpl b len i) = 2 := ki
  have kj : tkd b len (tpl b len j) = 2 := kj
  obtain ⟨a1, a2, a3, a4⟩ := (hC i hi).2.2.2 ki
  obtain ⟨b1, b2, b3, b4⟩ := (hC j hj).2.2.2 kj
  have e1 := (hM i hi).2.2.2 ki
  have e2 := (hM j hj).2.2.2 kj
  obtain ⟨l1, l2, l3⟩ := tln_le (b := b) a2
  obtain ⟨k1, k2, k3⟩ := tln_le (b := b) b2
  have wi := wdg_ok (b := b) (i := tpl b len i) (n := tln b len (tpl b len i)) (fun k q1 q2 => ⟨hb k (by omega), (tk_le a2 a3).1 k q1 (by omega)⟩)
  have wj := wdg_ok (b := b) (i := tpl b len j) (n := tln b len (tpl b len j)) (fun k q1 q2 => ⟨hb k (by omega), (tk_le b2 b3).1 k q1 (by omega)⟩)
  rw [a4, b4, e1, e2, l_inj (en_b (by decide) p832 a1 wi) (en_b (by decide) p832 b1 wj), l_inj (en_b (by decide) p827 a1 wi) (en_b (by decide) p827 b1 wj)]
  exact en_same wi wj
theorem usT_ok : ∀ k, k < 7 → (usT k).length = 1 ∧ (∀ C : Nat → Int32, ∀ a, C a = usW k → sgC C a (usT k)) ∧ Ex 15 (usT k) := by
  intro k hk
  have : k = 0 ∨ k = 1 ∨ k = 2 ∨ k = 3 ∨ k = 4 ∨ k = 5 ∨ k = 6 := by omega
  rcases this with rfl | rfl | rfl | rfl | rfl | rfl | rfl
  · exact ⟨rfl, fun C a h => ⟨h, trivial⟩, Ex.lf (h := 14) (Or.inl ⟨rfl, by decide⟩)⟩
  · exact ⟨rfl, fun C a h => ⟨h.trans (by decide), trivial⟩, Ex.lf (h := 14) (Or.inr ⟨rfl, by decide⟩)⟩
  · exact ⟨rfl, fun C a h => ⟨h.trans (by decide), trivial⟩, Ex.lf (h := 14) (Or.inr ⟨rfl, by decide⟩)⟩
  · exact ⟨rfl, fun C a h => ⟨h, trivial⟩, Ex.lf (h := 14) (Or.inl ⟨rfl, by decide⟩)⟩
  · exact ⟨rfl, fun C a h => ⟨h, trivial⟩, Ex.lf (h := 14) (Or.inl ⟨rfl, by decide⟩)⟩
  · exact ⟨rfl, fun C a h => ⟨h, trivial⟩, Ex.lf (h := 14) (Or.inl ⟨rfl, by decide⟩)⟩
  · exact ⟨rfl, fun C a h => ⟨h, trivial⟩, Ex.lf (h := 14) (Or.inl ⟨rfl, by decide⟩)⟩
theorem RD0 {z : tks} {sd : Nat} (hF : tkF z) (hs : sd < 2) (tC : tkC z SC) (tM : tkM z SM) (hR : nmR z SC SM) (c4 : SC.1 13 4 = 0) (c5 : SC.1 13 5 = 0) (c6 : SC.1 13 6 = 0) (c8 : SC.1 13 8 = 0) (c9 : SC.1 13 9 = -1) (d4 : SC.1 20 4 = nI 14) (dl : ∀ j, j < 7 → SC.1 22 j = nI (2 * j) ∧ SC.1 21 (2 * j) = usW j ∧ SC.1 21 (2 * j + 1) = -14) (e6 : SC.1 19 6 = 0) (e7 : SC.1 19 7 = 0) (e8 : SC.1 19 8 = 0) (e9 : SC.1 19 9 = 10) (e10 : SC.1 19 10 = 0) (m11 : SM.1 94 11 = 0) (m12 : SM.1 94 12 = 0) (m13 : SM.1 94 13 = 0) (m15 : SM.1 94 15 = 0) (m19 : SM.1 94 19 = nI sd) (m20 : SM.1 94 20 = 0) (m35 : SM.1 94 35 = nI (130 * sd)) (m41 : SM.1 94 41 = nI (420 * sd)) (ml : ∀ j, j < 7 → SM.1 114 (7 * sd + j) = 0 ∧ SM.1 115 (7 * sd + j) = 0) (f4 : SM.1 104 sd = 0) (f7 : SM.1 107 sd = 0) (f9 : SM.1 109 sd = 0) (f12 : SM.1 112 sd = 10) (f13 : SM.1 113 sd = 0) : RD z sd 0 SC SM := by
  have h1 := hF.1
  refine ⟨0, 0, 0, 0, 14, 130 * sd, 420 * sd, (0, 0), ⟨⟨c5, c6, h1, tC, ⟨c8, by decide, c9⟩, c4, by decide⟩, d4, by omega, e6, by decide, e7, by decide, e8, by decide⟩, ⟨⟨m11, m13, h1, tM, ⟨m15, by decide, fun h => absurd rfl h⟩, fun h => absurd rfl h⟩, ⟨⟨m11, m12, m13, m41, h1, by omega, Nat.le_refl _, by omega, tM⟩, m35, m19, hs, Nat.le_refl _, by omega⟩, f4, f7, f9, m20, fun k hk => by omega⟩, hR, fun k hk => ?_, fun _ => ⟨rfl, ⟨fun k hk => by omega, fun k hk => by omega, fun k l hk => by omega⟩, fun a ha => by omega, fun i hi => by omega, fun c hc => by omega, ⟨e9.trans f12.symm, e10.trans f13.symm⟩⟩⟩
  obtain ⟨u1, u2, u3⟩ := usT_ok k hk
  obtain ⟨l1, l2, l3⟩ := dl k hk
  refine ⟨2 * k, [], usT k, l1, ⟨u3, u2 _ _ l2, by rw [u1]; exact l3, by rw [u1]; omega⟩, ?_, Or.inr ⟨(ml k hk).1.trans (ml k hk).2.symm, rfl, rfl⟩⟩
  show 2 * k + (usT k).length + 1 ≤ 14
  rw [u1]
  omega
end BEG
