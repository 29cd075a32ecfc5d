/-! ===== READ 39: a text without a fault ===== -/
def vv (a0 a1 a2 a3 a4 a5 a6 a7 a8 : Int32) : Nat → Int32
  | 0 => a0
  | 1 => a1
  | 2 => a2
  | 3 => a3
  | 4 => a4
  | 5 => a5
  | 6 => a6
  | 7 => a7
  | _ => a8
def mkT (nS nC nT : Nat) (pr : Nat → Nat) (M O R D : Nat → Int32) (F E : Int32) (L : Nat → Nat × List Br × List It) : tx := (fun i => if i = 0 then nS else if i = 1 then nC else if i = 2 then nT else pr (i - 3), fun a b => if a = 0 then M b else if a = 1 then O b else if a = 2 then R b else if a = 3 then D b else if b = 0 then F else E, fun k a0 a1 a2 a3 a4 a5 a6 a7 a8 => evL (vv a0 a1 a2 a3 a4 a5 a6 a7 a8) (L k).2.1 (L k).2.2)
theorem evL_us {k : Nat} (hk : k < 7) {a0 a1 a2 a3 a4 a5 a6 a7 a8 : Int32} : evL (vv a0 a1 a2 a3 a4 a5 a6 a7 a8) [] (usT k) = dfl k a0 a1 := by
  have : k = 0 ∨ k = 1 ∨ k = 2 ∨ k = 3 ∨ k = 4 ∨ k = 5 ∨ k = 6 := by omega
  rcases this with rfl | rfl | rfl | rfl | rfl | rfl | rfl <;> rfl
section SUC
variable {N : Nat}
theorem vC_vv {S : rx_S} {a0 a1 a2 a3 a4 a5 a6 a7 a8 : Int32} (h : vC S a0 a1 a2 a3 a4 a5 a6 a7 a8) : ∀ x, x < 9 → S.1 7 x = vv a0 a1 a2 a3 a4 a5 a6 a7 a8 x := by
  intro x hx
  obtain ⟨h0, h1, h2, h3, h4, h5, h6, h7, h8⟩ := h
  have : x = 0 ∨ x = 1 ∨ x = 2 ∨ x = 3 ∨ x = 4 ∨ x = 5 ∨ x = 6 ∨ x = 7 ∨ x = 8 := by omega
  rcases this with rfl | rfl | rfl | rfl | rfl | rfl | rfl | rfl | rfl
  · exact h0
  · exact h1
  · exact h2
  · exact h3
  · exact h4
  · exact h5
  · exact h6
  · exact h7
  · exact h8
theorem vM_vv {S : rx_S} {a0 a1 a2 a3 a4 a5 a6 a7 a8 : Int32} (h : vM S a0 a1 a2 a3 a4 a5 a6 a7 a8) : ∀ x, x < 9 → S.1 124 x = vv a0 a1 a2 a3 a4 a5 a6 a7 a8 x := by
  intro x hx
  obtain ⟨h0, h1, h2, h3, h4, h5, h6, h7, h8⟩ := h
  have : x = 0 ∨ x = 1 ∨ x = 2 ∨ x = 3 ∨ x = 4 ∨ x = 5 ∨ x = 6 ∨ x = 7 ∨ x = 8 := by omega
  rcases this with rfl | rfl | rfl | rfl | rfl | rfl | rfl | rfl | rfl
  · exact h0
  · exact h1
  · exact h2
  · exact h3
  · exact h4
  · exact h5
  · exact h6
  · exact h7
  · exact h8
def lawP (sd b : Nat) (SC SM : rx_S) (k : Nat) (x : Nat × List Br × List It) : Prop := SC.1 22 k = nI x.1 ∧ lyC (SC.1 21) x.1 x.2.1 x.2.2 ∧ ((∃ b0, SM.1 114 (7 * sd + k) = nI b0 ∧ SM.1 115 (7 * sd + k) = nI (b0 + x.2.1.length + 1) ∧ lyM SM sd b0 x.2.1 x.2.2 ∧ b0 + x.2.1.length + 1 ≤ b) ∨ (SM.1 114 (7 * sd + k) = SM.1 115 (7 * sd + k) ∧ x.2.1 = [] ∧ x.2.2 = usT k))
theorem law_ch {c b cm sd : Nat} {SC SM : rx_S} (h : CTl c b cm sd SC SM) : ∃ L : Nat → Nat × List Br × List It, ∀ k, k < 7 → lawP sd b SC SM k (L k) := by
  have h' : ∀ k, ∃ x : Nat × List Br × List It, k < 7 → lawP sd b SC SM k x := by
    intro k
    by_cases hk : k < 7
    · obtain ⟨a, bs, t, h1, h2, h3, h4⟩ := h k hk
      refine ⟨(a, bs, t), fun _ => ⟨h1, h2, ?_⟩⟩
      rcases h4 with ⟨b0, g1, g2, g3, g4, g5⟩ | g
      · exact Or.inl ⟨b0, g1, g2, g3, g4⟩
      · exact Or.inr g
    · exact ⟨(0, [], []), fun q => absurd q hk⟩
  exact ⟨fun k => Classical.choose (h' k), fun k hk => Classical.choose_spec (h' k) hk⟩
theorem law_C {T : tx} {L : Nat → Nat × List Br × List It} {sd b : Nat} {SC SM S : rx_S} (hN : 5000 ≤ N) (hL : ∀ k, k < 7 → lawP sd b SC SM k (L k)) (hT : T.2.2 = fun k a0 a1 a2 a3 a4 a5 a6 a7 a8 => evL (vv a0 a1 a2 a3 a4 a5 a6 a7 a8) (L k).2.1 (L k).2.2) (e4 : ∀ j, j < 420 → S.1 4 j = SC.1 21 j) (e5 : ∀ j, j < 7 → S.1 5 j = SC.1 22 j) : lawC N T S := by
  intro S' hg k hk a0 a1 a2 a3 a4 a5 a6 a7 a8 hv
  obtain ⟨h1, h2, -⟩ := hL k hk
  have := ansC_ok (kk := 3) (v := vv a0 a1 a2 a3 a4 a5 a6 a7 a8) (k := k) (a := (L k).1) (bs := (L k).2.1) (t := (L k).2.2) (S := S') hN (vC_vv hv) hk (by show S'.1 5 k = _; rw [hg 5 (by omega), e5 k hk]; exact h1) (by show lyC (S'.1 4) _ _ _; rw [hg 4 (by omega)]; exact lyC.eq _ _ _ 0 h2 e4)
  refine pk_mono this (fun r S'' h => ⟨?_, h.2⟩)
  unfold tL
  rw [hT]
  exact h.1
theorem law_M {T : tx} {L : Nat → Nat × List Br × List It} {sd b : Nat} {SC SM S : rx_S} (hN : 5000 ≤ N) (hs : sd < 2) (hb : b ≤ 260) (hL : ∀ k, k < 7 → lawP sd b SC SM k (L k)) (hT : T.2.2 = fun k a0 a1 a2 a3 a4 a5 a6 a7 a8 => evL (vv a0 a1 a2 a3 a4 a5 a6 a7 a8) (L k).2.1 (L k).2.2) (h18 : S.1 94 18 = nI sd) (er : ∀ r, 104 ≤ r → r ≤ 122 → S.1 r = SM.1 r) : lawM N T S := by
  intro S' hg k hk a0 a1 a2 a3 a4 a5 a6 a7 a8 hv
  have g18 : S'.1 94 18 = nI sd := hg.1.trans h18
  have half : ∀ r, 104 ≤ r → r ≤ 122 → ∀ j w, hsz r = w → w * sd ≤ j → j < w * sd + w → S'.1 r j = SM.1 r j := fun r q1 q2 j w e q3 q4 => (hg.2 sd hs h18 r q1 q2 j (by rw [e]; exact q3) (by rw [e]; exact q4)).trans (by rw [er r q1 q2])
  have e114 := half 114 (by decide) (by decide) (7 * sd + k) 7 rfl (by omega) (by omega)
  have e115 := half 115 (by decide) (by decide) (7 * sd + k) 7 rfl (by omega) (by omega)
  have htl : tL T k a0 a1 a2 a3 a4 a5 a6 a7 a8 = evL (vv a0 a1 a2 a3 a4 a5 a6 a7 a8) (L k).2.1 (L k).2.2 := by
    unfold tL
    rw [hT]
  rw [htl]
  obtain ⟨-, -, h⟩ := hL k hk
  rcases h with ⟨b0, g1, g2, g3, g4⟩ | ⟨g1, g2, g3⟩
  · have ly : lyM S' sd b0 (L k).2.1 (L k).2.2 := lyM.eq (fun r q1 q2 j q3 q4 => half r (by omega) (by omega) j 130 (by
      have : r = 116 ∨ r = 117 ∨ r = 118 ∨ r = 119 ∨ r = 120 := by omega
      rcases this with rfl | rfl | rfl | rfl | rfl <;> rfl) q3 q4) (fun r q1 q2 j q3 q4 => half r (by omega) (by omega) j 420 (by
      have : r = 121 ∨ r = 122 := by omega
      rcases this with rfl | rfl <;> rfl) q3 q4) _ _ _ g3
    exact askM_ok hN hs hk (vM_vv hv) g18 (e114.trans g1) (e115.trans g2) (by omega) ly
  · rw [law_plain hs hk g18 (by rw [e114, e115]; exact g1), pk_some, g2, g3, evL_us hk]
    exact ⟨rfl, sM.rf, rfl⟩
theorem bg_st {nS nC nT sd : Nat} {T : tx} {SC SM : rx_S} {R st M D : Nat → Int32} (hS : nS ≤ 6) (hC : nC ≤ 3) (hT : nT ≤ 4) (hcs : CTs nS nC sd SC SM) (hct : CTt nT sd SC SM) (eM : ∀ a, a < 6 → M a = SC.1 25 a) (eD : ∀ i, i < 4 → D i = SC.1 29 i) (tS' : tS T = nS) (tC' : tC T = nC) (tT' : tT T = nT) (hR : ∀ j, j < 48 → R j = bgR nS nC nT M D j) (hst : ∀ j, j < 48 → st j = bgM nS nT (fun a => SM.1 105 (6 * sd + a)) (fun i => SM.1 111 (4 * sd + i)) j) : stR T R st ∧ WS T 0 st := by
  have z : ∀ j, j < 48 → ¬ j < nS → ¬ (12 ≤ j ∧ j < 15) → ¬ (24 ≤ j ∧ j < 24 + nT) → st j = 0 := fun j h0 h1 h2 h3 => by
    rw [hst j h0]
    unfold bgM
    rw [if_neg h1, if_neg h2, if_neg h3]
  have zR : ∀ j, j < 48 → ¬ (4 ≤ j ∧ j < 4 + nS) → ¬ (16 ≤ j ∧ j < 16 + nC) → ¬ (28 ≤ j ∧ j < 28 + nT) → R j = 0 := fun j h0 h1 h2 h3 => by
    rw [hR j h0]
    unfold bgR
    rw [if_neg h1, if_neg h2, if_neg h3]
  have sM' : ∀ j, j < nS → st j = SC.1 25 j := fun j hj => by
    rw [hst j (by omega)]
    unfold bgM
    rw [if_pos hj]
    exact (hcs j hj).1.symm
  have sD : ∀ i, i < nT → st (24 + i) = SC.1 29 i := fun i hi => by
    rw [hst (24 + i) (by omega)]
    unfold bgM
    rw [if_neg (by omega), if_neg (by omega), if_pos (by omega), show 24 + i - 24 = i by omega]
    exact (hct i hi).2.2.1.symm
  have s12 : ∀ c, c < 3 → st (12 + c) = -2 := fun c hc => by
    rw [hst (12 + c) (by omega)]
    unfold bgM
    rw [if_neg (by omega), if_pos (by omega)]
  refine ⟨⟨fun j hj h12 => ?_, fun c hc hc3 => ?_, ?_, ?_, ?_, ?_⟩, fun j => ?_⟩
  · by_cases e1 : j < nS
    · rw [sM' j e1, hR (j + 4) (by omega)]
      unfold bgR
      rw [if_pos (by omega), show j + 4 - 4 = j by omega]
      exact eM j (by omega)
    · by_cases e2 : 24 ≤ j ∧ j < 24 + nT
      · have := sD (j - 24) (by omega)
        rw [show 24 + (j - 24) = j by omega] at this
        rw [this, hR (j + 4) (by omega)]
        unfold bgR
        rw [if_neg (by omega), if_neg (by omega), if_pos (by omega), show j + 4 - 28 = j - 24 by omega]
        exact eD (j - 24) (by omega)
      · rw [z j (by omega) e1 h12 e2, zR (j + 4) (by omega) (by omega) (by omega) (by omega)]
  · rw [s12 c hc3, hR (16 + c) (by omega)]
    rw [tC'] at hc
    unfold bgR
    rw [if_neg (by omega), if_pos (by omega)]
    rfl
  · rw [zR 0 (by omega) (by omega) (by omega) (by omega), z 44 (by omega) (by omega) (by omega) (by omega)]
  · rw [zR 1 (by omega) (by omega) (by omega) (by omega), z 45 (by omega) (by omega) (by omega) (by omega)]
  · rw [zR 2 (by omega) (by omega) (by omega) (by omega), z 46 (by omega) (by omega) (by omega) (by omega)]
  · rw [zR 3 (by omega) (by omega) (by omega) (by omega), z 40 (by omega) (by omega) (by omega) (by omega), z 41 (by omega) (by omega) (by omega) (by omega), z 42 (by omega) (by omega) (by omega) (by omega), z 43 (by omega) (by omega) (by omega) (by omega)]
    decide
  · by_cases hj : j < 48
    · have s0 : sm 99 0 := ⟨0, by decide, rfl⟩
      refine ⟨fun e => ?_, fun e => ?_, fun h1 h2 h3 => ?_, fun h1 h2 => ?_, fun h1 h2 => ?_, fun h1 h2 => ?_⟩
      · rw [z j hj (by omega) (by omega) (by omega)]; rfl
      · rw [tS']
        by_cases q : j < nS
        · rw [sM' j q]
          exact ⟨(hcs j q).2.1, fun h => by omega⟩
        · rw [z j hj q (by omega) (by omega)]
          exact ⟨s0, fun _ => rfl⟩
      · have := s12 (j - 12) (by omega)
        rw [show 12 + (j - 12) = j by omega] at this
        exact Or.inl this
      · rw [z j hj (by omega) (by omega) (by omega)]
        exact ⟨Or.inl rfl, fun _ => rfl⟩
      · by_cases q : j < 24 + nT
        · have := sD (j - 24) (by omega)
          rw [show 24 + (j - 24) = j by omega] at this
          rw [this]
          exact (hct (j - 24) (by omega)).2.2.2
        · rw [z j hj (by omega) (by omega) (by omega)]
          exact s0
      · rw [z j hj (by omega) (by omega) (by omega)]
        exact ⟨Or.inl rfl, fun _ => rfl⟩
    · exact wsj_any (by omega)
end SUC
