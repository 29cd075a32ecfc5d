/-! ===== laws not told; the start ===== -/
section INI
variable {N : Nat}
theorem ans_dfl {kk : Nat} (hN : 5000 ≤ N) {S : rx_S} {k a : Nat} {u v : Int32} (hk : k < 7) (ha : a + 1 < 420) (h5 : S.1 (kk + 2) k = nI a) (h4 : S.1 (kk + 1) a = u) (h4' : S.1 (kk + 1) (a + 1) = -14) (h14 : ¬ u = -14) (h10 : ¬ u ≤ -10) (hu : (¬ u < 0 ∧ v = u) ∨ (u < 0 ∧ ∃ j, j < 9 ∧ ((-1 : Int32) - u) = nI j ∧ v = S.1 (kk + 4) j)) : pk (f_X2_answer kk N (nI k) S) (fun r S' => r = v ∧ fK (kk + 3) S S') := by
  obtain ⟨n, rfl⟩ : ∃ n, N = n + 1 + 1 := ⟨N - 2, by omega⟩
  unfold f_X2_answer
  rw [pk_let, pk_let, if_neg (nI_pos (by omega)), if_neg (show ¬ (7 : Int32) ≤ nI k from nI_ge (b := 7) hk (by decide)), pk_gdn hk (by decide), nI_clamp (by omega), h5]
  rw [pk_let, f_X2_answer_L26, if_neg (by decide), if_neg (nI_pos (by omega)), if_neg (show ¬ (420 : Int32) ≤ nI a from nI_ge (b := 420) (by omega) (by decide)), pk_gdn (by omega) (by decide), pk_let, pk_let, nI_clamp (by omega), h4, nI_1, if_neg h14, if_neg h10, if_pos (by decide), pk_let]
  have fin : pk (rx_gd (0 : Int32) 20 (rx_let (rx_ui S (kk + 3) (Int32.toNatClampNeg 0) v) (fun S59 => rx_let ((0 : Int32) + 1) (fun x60 => rx_let ((0 : Int32) + 1) (fun x61 => f_X2_answer_L26 kk (n + 1 + 1) (fun x5 S6 => if x5 = 1 then (some ((S6.1 (kk + 3) 0), S6)) else (some (0, S6))) (n + 1) (nI (a + 1)) x60 x61 S59))))) (fun r S' => r = v ∧ fK (kk + 3) S S') := by
    rw [pk_gd (i := (0 : Int32)) (n := 20) (by unfold vp_in; decide), pk_let, pk_let, pk_let, f_X2_answer_L26, if_neg (by decide), if_neg (nI_pos (by omega)), if_neg (show ¬ (420 : Int32) ≤ nI (a + 1) from nI_ge (b := 420) (by omega) (by decide)), pk_gdn (by omega) (by decide), pk_let, pk_let, nI_clamp (by omega), ui_row (by omega), h4', if_pos rfl, if_pos (by decide), pk_some]
    refine ⟨?_, fK.ui⟩
    rw [ui_same]
    exact upd_at
  rcases hu with ⟨h0, rfl⟩ | ⟨h0, j, hj, e, rfl⟩
  · rw [if_neg h0]
    exact fin
  · rw [if_pos h0, e, pk_gdn hj (by decide), nI_clamp (by omega)]
    exact fin
def T0 : tx := (fun _ => 0, fun a b => if a = 4 ∧ b = 0 then 10 else 0, fun k a0 a1 _ _ _ _ _ _ _ => dfl k a0 a1)
theorem z_code : ∀ k, k < 7 → zC.1 5 k = nI (2 * k) ∧ zC.1 4 (2 * k + 1) = -14 ∧ zC.1 4 (2 * k) = (if k = 0 then 2 else if k = 1 then -2 else if k = 2 then -1 else 0) := by decide +kernel
theorem law_usual (hN : 5000 ≤ N) {S : rx_S} {k a : Nat} {a0 a1 a2 a3 a4 a5 a6 a7 a8 : Int32} (hk : k < 7) (ha : a + 1 < 420) (h5 : S.1 5 k = nI a) (h4 : S.1 4 a = (if k = 0 then 2 else if k = 1 then -2 else if k = 2 then -1 else 0)) (h4' : S.1 4 (a + 1) = -14) (hv : vC S a0 a1 a2 a3 a4 a5 a6 a7 a8) : pk (f_X2_answer 3 N (nI k) S) (fun r S' => r = dfl k a0 a1 ∧ fK 6 S S') := by
  refine ans_dfl (kk := 3) (u := if k = 0 then 2 else if k = 1 then -2 else if k = 2 then -1 else 0) hN hk ha h5 h4 h4' ?_ ?_ ?_
  · repeat' split
    all_goals decide
  · repeat' split
    all_goals decide
  · unfold dfl
    by_cases k0 : k = 0
    · rw [if_pos k0, if_pos k0]; exact Or.inl ⟨by decide, rfl⟩
    rw [if_neg k0, if_neg k0]
    by_cases k1 : k = 1
    · rw [if_pos k1, if_pos k1]; exact Or.inr ⟨by decide, 1, by decide, by decide, hv.2.1.symm⟩
    rw [if_neg k1, if_neg k1]
    by_cases k2 : k = 2
    · rw [if_pos k2, if_pos k2]; exact Or.inr ⟨by decide, 0, by decide, by decide, hv.1.symm⟩
    rw [if_neg k2, if_neg k2]
    exact Or.inl ⟨by decide, rfl⟩
theorem law_plain {S : rx_S} {lv k : Nat} {x : Int32} (hlv : lv < 2) (hk : k < 7) (h18 : S.1 94 18 = nI lv) (h : S.1 114 (7 * lv + k) = S.1 115 (7 * lv + k)) : f_X11_asks N (nI k) x S = some (x, S) := by
  have e7 : (7 : Int32) * nI lv = nI (7 * lv) := nI_mul 7 lv
  unfold f_X11_asks
  simp only [rx_let]
  rw [h18, e7, nI_add, rx_gd_in (vp_in_nI (show 7 * lv + k < 14 by omega) (by decide)), rx_gd_in (vp_in_nI (show 7 * lv + k < 14 by omega) (by decide)), nI_clamp (by omega), if_pos h]
theorem z_row : ∀ j, j < 48 → zM.1 126 j = (if 12 ≤ j ∧ j < 15 then -2 else 0) := by decide +kernel
theorem z_now : ∀ j, j < 44 → ¬ (12 ≤ j ∧ j < 15) → zC.1 32 (j + 4) = zM.1 126 j := by decide +kernel
theorem z_C : zC.1 0 1 = 0 ∧ zC.1 0 2 = -1 ∧ zC.1 91 4 = 0 ∧ zC.1 33 3 = 0 ∧ zC.1 33 4 = 0 ∧ zC.1 2 6 = 0 ∧ zC.1 2 7 = 0 ∧ zC.1 2 8 = 0 ∧ zC.1 2 9 = 10 ∧ zC.1 2 10 = 0 ∧ zC.1 32 0 = 0 ∧ zC.1 32 1 = 0 ∧ zC.1 32 2 = 0 ∧ zC.1 32 3 = 0 := by decide +kernel
theorem z_M : zM.1 94 2 = 0 ∧ zM.1 94 17 = -1 ∧ zM.1 94 62 = 0 ∧ zM.1 94 52 = 0 ∧ zM.1 94 18 = 0 ∧ zM.1 104 0 = 0 ∧ zM.1 107 0 = 0 ∧ zM.1 109 0 = 0 ∧ zM.1 112 0 = 10 ∧ zM.1 113 0 = 0 := by decide +kernel
theorem z_held : ∀ s, s < 3 → zC.1 79 s = 0 ∧ zM.1 137 s = 0 := by decide +kernel
theorem z_law : ∀ k, k < 7 → zM.1 114 (7 * 0 + k) = zM.1 115 (7 * 0 + k) := by decide +kernel
theorem inv_0 (hN : 5000 ≤ N) : Inv N 0 zC zM := by
  obtain ⟨c1, c2, c3, c4, c5, c6, c7, c8, c9, c10, c11, c12, c13, c14⟩ := z_C
  obtain ⟨m1, m2, m3, m4, m5, m6, m7, m8, m9, m10⟩ := z_M
  refine ⟨⟨0, by decide, c1, m1, fun j hj => absurd hj (by omega)⟩, c2.trans m2.symm, rfl, rfl, ⟨0, by decide, c3, m3, fun j hj => absurd hj (by omega)⟩, T0, ⟨⟨by decide, by decide, by decide, fun c w hc => absurd hc (Nat.not_lt_zero _), fun c hc => absurd hc (Nat.not_lt_zero _), fun a ha => absurd ha (Nat.not_lt_zero _), fun i hi => absurd hi (Nat.not_lt_zero _)⟩, ⟨⟨c6, c7, c8, c9, c10, fun a ha => absurd ha (Nat.not_lt_zero _), fun i hi => absurd hi (Nat.not_lt_zero _), fun c w hc => absurd hc (Nat.not_lt_zero _)⟩, ?_⟩, ⟨⟨0, by decide, ⟨m5, m6, m7, m8, m9, m10, fun a ha => absurd ha (Nat.not_lt_zero _), fun i hi => absurd hi (Nat.not_lt_zero _), fun c w hc => absurd hc (Nat.not_lt_zero _)⟩⟩, ?_⟩⟩, ⟨⟨z_now, fun c hc => absurd hc (Nat.not_lt_zero _), ?_, ?_, ?_, ?_⟩, 0, by omega, fun j => ?_⟩, ⟨0, 0, by decide, by decide, c4, c5, m4, fun u hu => absurd hu (by omega)⟩, fun s hs => Or.inl (z_held s hs)⟩
  · intro S' hg k hk a0 a1 a2 a3 a4 a5 a6 a7 a8 hv
    obtain ⟨g1, g2, g3⟩ := z_code k hk
    exact law_usual hN hk (a := 2 * k) (by omega) (by rw [hg 5 (by omega)]; exact g1) (by rw [hg 4 (by omega)]; exact g3) (by rw [hg 4 (by omega)]; exact g2) hv
  · intro S' hg k hk a0 a1 a2 a3 a4 a5 a6 a7 a8 hv
    rw [law_plain (lv := 0) (by decide) hk (by rw [hg.1]; exact m5) (by rw [hg.2 0 (by decide) m5 114 (by decide) (by decide) (7 * 0 + k) (by have : hsz 114 = 7 := rfl; omega) (by have : hsz 114 = 7 := rfl; omega), hg.2 0 (by decide) m5 115 (by decide) (by decide) (7 * 0 + k) (by have : hsz 115 = 7 := rfl; omega) (by have : hsz 115 = 7 := rfl; omega)]; exact z_law k hk), pk_some]
    exact ⟨rfl, sM.rf, rfl⟩
  · rw [c11, z_row 44 (by decide)]; rfl
  · rw [c12, z_row 45 (by decide)]; rfl
  · rw [c13, z_row 46 (by decide)]; rfl
  · rw [c14, z_row 40 (by decide), z_row 41 (by decide), z_row 42 (by decide), z_row 43 (by decide)]; decide
  · by_cases hj : j < 48
    · have s0 : sm 99 0 := ⟨0, by decide, rfl⟩
      rw [z_row j hj]
      refine ⟨fun e => by rw [if_neg (by omega)]; rfl, fun e => by rw [if_neg (by omega)]; exact ⟨s0, fun _ => rfl⟩, fun _ _ h => absurd h (Nat.not_lt_zero _), fun h1 h2 => by rw [if_neg (by omega)]; exact ⟨Or.inl rfl, fun _ => rfl⟩, fun h1 h2 => by rw [if_neg (by omega)]; exact s0, fun h1 h2 => by rw [if_neg (by omega)]; exact ⟨Or.inl rfl, fun _ => rfl⟩⟩
    · exact wsj_any (by omega)
end INI
theorem law_step {N : Nat} (hN : 5000 ≤ N) (hr : ST_read N (Inv N)) : LawStep N (Inv N) := ⟨st_feed hN, st_back, hr, st_place, st_spouse hN, st_couple, st_third hN, st_hire hN, st_swear hN, st_weeks hN, st_undo hN, st_bends hN, st_heard hN, st_chain hN, st_say hN, st_loses hN, st_least hN, st_truest hN, st_crooked hN, st_altered hN, st_takes hN, st_hires hN, st_then hN, st_paid hN, st_parts hN, st_oaths hN, st_year hN, st_tell hN, st_forget, st_who hN, st_ask hN, st_hold hN, st_restore hN, st_count hN⟩
theorem pure_of {N : Nat} (hN : 5000 ≤ N) (hr : ST_read N (Inv N)) : ∃ (N : Nat) (Inv : Nat → rx_S → rx_S → Prop), Inv 0 zC zM ∧ LawStep N Inv ∧ (∀ n SC SM, n < 512 → Inv n SC SM → Inv (n + 1) SC SM) := ⟨N, Inv N, inv_0 hN, law_step hN hr, fun _ _ _ _ h => h.keep iC.rf iM.rf⟩
