/-! ===== READ 36: a text with a fault ===== -/
section FLT
variable {N n : Nat} {z : tks} {S SC SM SC' SM' : rx_S} {T : tx}
theorem qM.ag {lv sd : Nat} (hlv : lv < 2) (h18 : SM.1 94 18 = nI lv) (hsd : sd = 1 - lv) (h : qM sd SM SM') : agL SM SM' := by
  refine ⟨h.1 94 18 (by unfold kpM; omega) (by omega) (by omega), fun lv' h1 h2 k h3 h4 j h5 h6 => ?_⟩
  have e : lv' = lv := by
    rw [h18, nI_eq (by omega) (by omega)] at h2
    exact h2.symm
  subst e
  refine h.1 k j (by unfold kpM; omega) (by omega) (fun q => ?_)
  have : lv' = 0 ∨ lv' = 1 := by omega
  rcases this with rfl | rfl
  · rw [hsd] at q
    simp only [Nat.mul_zero, Nat.sub_zero, Nat.mul_one] at h5 h6 q
    omega
  · rw [hsd] at q
    simp only [Nat.mul_zero, Nat.sub_self, Nat.mul_one] at h5 h6 q
    omega
theorem TM.half (hF : WF T) (h : TM N T S) {S' : rx_S} (g : agL S S') : TM N T S' := by
  obtain ⟨⟨lv, hlv, h1, h2, h3, h4, h5, h6, h7, h8, h9⟩, hl⟩ := h
  obtain ⟨w1, w2, w3, -⟩ := hF
  have k1 : ∀ k, 104 ≤ k → k ≤ 122 → ∀ j w, hsz k = w → w * lv ≤ j → j < w * lv + w → S'.1 k j = S.1 k j := fun k a1 a2 j w e a3 a4 => g.2 lv hlv h1 k a1 a2 j (by rw [e]; exact a3) (by rw [e]; exact a4)
  refine ⟨⟨lv, hlv, g.1.trans h1, (k1 104 (by decide) (by decide) lv 1 rfl (by omega) (by omega)).trans h2, (k1 107 (by decide) (by decide) lv 1 rfl (by omega) (by omega)).trans h3, (k1 109 (by decide) (by decide) lv 1 rfl (by omega) (by omega)).trans h4, (k1 112 (by decide) (by decide) lv 1 rfl (by omega) (by omega)).trans h5, (k1 113 (by decide) (by decide) lv 1 rfl (by omega) (by omega)).trans h6, fun a ha => ⟨?_, ?_⟩, fun i hi => ⟨?_, ?_⟩, fun c w hc hw => ?_⟩, fun S'' g' => hl S'' (g.tr g')⟩
  · exact (k1 105 (by decide) (by decide) _ 6 rfl (by omega) (by omega)).trans (h7 a ha).1
  · exact (k1 106 (by decide) (by decide) _ 6 rfl (by omega) (by omega)).trans (h7 a ha).2
  · exact (k1 110 (by decide) (by decide) _ 4 rfl (by omega) (by omega)).trans (h8 i hi).1
  · exact (k1 111 (by decide) (by decide) _ 4 rfl (by omega) (by omega)).trans (h8 i hi).2
  · exact (k1 108 (by decide) (by decide) _ 6 rfl (by omega) (by omega)).trans (h9 c w hc hw)
theorem Inv.read0 {lv sd : Nat} (h : Inv N n SC SM) (hc : ∀ k, kpC k → k ≠ 0 → SC'.1 k = SC.1 k) (h01 : SC'.1 0 1 = 0) (hp' : SC'.1 0 2 = SM'.1 94 17) (h15 : SC'.2 15 = SC.2 15) (hq : qM sd SM SM') (h2 : SM'.1 94 2 = 0) (hlv : lv < 2) (h18 : SM.1 94 18 = nI lv) (hsd : sd = 1 - lv) : Inv N (n + 1) SC' SM' := by
  obtain ⟨⟨len, t1, t2, t3, t4⟩, hp, k1, k2, ⟨m, o1, o2, o3, o4⟩, T, ⟨hF, hTC, hTM⟩, hs, ⟨nx, ds, u1, u2, u3, u4, u5, u6⟩, hh⟩ := h
  have c32 := hc 32 (by unfold kpC; omega) (by decide)
  have c33 := hc 33 (by unfold kpC; omega) (by decide)
  have c79 := hc 79 (by unfold kpC; omega) (by decide)
  have c91 := hc 91 (by unfold kpC; omega) (by decide)
  have c92 := hc 92 (by unfold kpC; omega) (by decide)
  have c93 := hc 93 (by unfold kpC; omega) (by decide)
  have row : ∀ k, k = 126 ∨ k = 128 ∨ k = 134 ∨ k = 135 ∨ k = 137 ∨ k = 138 → SM'.1 k = SM.1 k := fun k hk => funext fun j => hq.1 k j (by unfold kpM; omega) (by omega) (by omega)
  have fld : ∀ j, j = 18 ∨ j = 52 ∨ j = 62 → SM'.1 94 j = SM.1 94 j := fun j hj => hq.1 94 j (by unfold kpM; omega) (by omega) (by omega)
  refine ⟨⟨0, by omega, h01, h2, fun j hj => absurd hj (by omega)⟩, hp', h15.trans k1, hq.2.trans k2, ⟨m, o1, ?_, ?_, fun j hj => ?_⟩, T, ⟨hF, hTC.ag (fun k hk => hc k (by unfold kpC; omega) (by omega)), hTM.half hF (hq.ag hlv h18 hsd)⟩, ?_, ⟨nx, ds, u1, u2, ?_, ?_, ?_, fun u hu => ?_⟩, fun s hs => ?_⟩
  · rw [c91]; exact o2
  · rw [fld 62 (by omega)]; exact o3
  · rw [c92, c93, row 134 (by omega), row 135 (by omega)]; exact o4 j hj
  · rw [c32, row 126 (by omega)]; exact hs.up
  · rw [c33]; exact u3
  · rw [c33]; exact u4
  · rw [fld 52 (by omega)]; exact u5
  · have hlt : (nx + (40 - ds) + u) % 40 < 40 := Nat.mod_lt _ (by decide)
    rw [hc _ (by unfold kpC; omega) (by omega), row 128 (by omega)]; exact (u6 u hu).up
  · rw [c79, row 137 (by omega), hc (76 + s) (by unfold kpC; omega) (by omega), row 138 (by omega)]
    rcases hh s hs with e | ⟨e1, e2, e3⟩
    · exact Or.inl e
    · exact Or.inr ⟨e1, e2, e3.up⟩
theorem rtK_g {x y : Int32} (h : ∃ w, (if S.1 13 6 = 0 then some (S.1 13 9, S) else f_X9_placeOf (S.1 13 5) S) = some (w, S) ∧ w = x) (hy : y = (if S.1 13 6 = 0 then S.1 13 8 else S.1 13 6)) : ∃ S', rtK S = some (y, S') ∧ S'.1 13 7 = x ∧ (∀ r, r ≠ 13 → S'.1 r = S.1 r) ∧ S'.2 = S.2 := by
  obtain ⟨w, hw, rfl⟩ := h
  have e6 : (rx_ui S 13 7 w).1 13 6 = S.1 13 6 := by rw [ui_get, if_pos rfl, if_neg (by decide)]
  have e8 : (rx_ui S 13 7 w).1 13 8 = S.1 13 8 := by rw [ui_get, if_pos rfl, if_neg (by decide)]
  have fin : ∀ v : Int32, v = y → ∃ S', (some ((rx_ui (rx_ui S 13 7 w) 13 6 v).1 13 6, rx_ui (rx_ui S 13 7 w) 13 6 v) : Option (Int32 × rx_S)) = some (y, S') ∧ S'.1 13 7 = w ∧ (∀ r, r ≠ 13 → S'.1 r = S.1 r) ∧ S'.2 = S.2 := by
    intro v hv
    refine ⟨rx_ui (rx_ui S 13 7 w) 13 6 v, ?_, ?_, fun r hr => ?_, rfl⟩
    · rw [ui_get, if_pos rfl, if_pos rfl, hv]
    · rw [ui_get, if_pos rfl, if_neg (by decide), ui_get, if_pos rfl, if_pos rfl]
    · rw [ui_row hr, ui_row hr]
  unfold rtK
  simp only [rx_let]
  by_cases q : S.1 13 6 = 0
  · rw [if_pos q] at hw hy
    have hw' : S.1 13 9 = w := by
      have := Option.some.inj hw
      exact congrArg Prod.fst this
    rw [if_pos q, hw', e6, if_pos q, e8]
    exact fin _ hy.symm
  · rw [if_neg q] at hw hy
    rw [if_neg q, hw, bd_some, e6, if_neg q]
    exact fin _ hy.symm
theorem rtK_f {f q : Nat} (hF : tkF z) (ht : tkC z S) (h : fC z f q S) : ∃ S', rtK S = some (nI f, S') ∧ S'.1 13 7 = nI (kP z q) ∧ (∀ r, r ≠ 13 → S'.1 r = S.1 r) ∧ S'.2 = S.2 := by
  obtain ⟨h1, h2, h3, h4⟩ := h
  have hm := hF.2.1
  have n0 : ¬ S.1 13 6 = 0 := by
    rw [h3]
    rcases h1 with rfl | rfl <;> decide
  refine rtK_g ⟨nI (kP z q), ?_, rfl⟩ (by rw [if_neg n0, h3])
  rw [if_neg n0, h4]
  unfold f_X9_placeOf
  rw [if_neg (nI_pos (by omega)), ht.1, if_neg (nI_ge h2 (by omega)), rx_gd_in (vp_in_nI (show q < 401 by omega) (by decide)), nI_clamp (by omega), (ht.2 q h2).2.1]
theorem rtK_m {m : Nat × Nat} (h6 : S.1 13 6 = 0) (h : mwC z m S) : ∃ S', rtK S = some (nI m.1, S') ∧ S'.1 13 7 = (if m.1 = 0 then -1 else nI (kP z m.2)) ∧ (∀ r, r ≠ 13 → S'.1 r = S.1 r) ∧ S'.2 = S.2 := rtK_g ⟨_, by rw [if_pos h6], h.2.2⟩ (by rw [if_pos h6, h.1])
theorem rdK_f {f q : Nat} (h : flt z f q S) : rdK N S = some (nI f, rx_ui S 94 17 (nI (kP z q))) := by
  have h2 := h.ui (j := 17) (x := nI (kP z q)) (by decide) (by decide)
  unfold rdK
  simp only [rx_let]
  rw [if_neg h.pos.1, h.2.2.2, if_neg h2.pos.1, h2.2.2.1]
theorem rdK_m {m : Nat × Nat} (h13 : S.1 94 13 = 0) (h : mwM z m S) (h0 : m.1 ≠ 0) : rdK N S = some (nI m.1, rx_ui S 94 17 (nI (kP z m.2))) := by
  have h5 := h.2.1
  have n0 : ¬ S.1 94 15 ≤ 0 := by
    rw [h.1]
    exact nI_nle (by omega) (by omega)
  have e13 : (rx_ui S 94 17 (nI (kP z m.2))).1 94 13 = 0 := by rw [ui_get, if_pos rfl, if_neg (by decide)]; exact h13
  have e15 : (rx_ui S 94 17 (nI (kP z m.2))).1 94 15 = S.1 94 15 := by rw [ui_get, if_pos rfl, if_neg (by decide)]
  unfold rdK
  simp only [rx_let]
  rw [if_pos (by rw [h13]; decide), if_neg n0, h.2.2 h0, if_pos (by rw [e13]; decide), e15, if_neg n0, h.1]
theorem rdK_0 (h13 : S.1 94 13 = 0) (h15 : S.1 94 15 = 0) : rdK N S = rdE N (rx_ui S 94 17 (-1)) := by
  have e13 : (rx_ui S 94 17 (-1)).1 94 13 = 0 := by rw [ui_get, if_pos rfl, if_neg (by decide)]; exact h13
  have e15 : (rx_ui S 94 17 (-1)).1 94 15 = 0 := by rw [ui_get, if_pos rfl, if_neg (by decide)]; exact h15
  unfold rdK
  simp only [rx_let]
  rw [if_pos (by rw [h13]; decide), if_pos (by rw [h15]; decide), if_pos (by rw [e13]; decide), if_pos (by rw [e15]; decide)]
theorem read_f {y : Int32} {S1 : rx_S} (h : f_X4_readTape N (SC.1 0 1) SC = some (y, S1)) (hy : ¬ y = 0) : f_X10_read N SC = some (y, rx_ui (rx_ui S1 0 1 0) 0 2 (S1.1 13 7)) := by
  unfold f_X10_read
  simp only [rx_let]
  rw [h, bd_some, if_neg hy, ui_row (show 13 ≠ 0 by decide)]
theorem fault_end {lv sd : Nat} {y x : Int32} {S1 S2 S3 : rx_S} (hI : Inv N n SC SM) (h1 : f_X4_readTape N (SC.1 0 1) SC = some (y, S1)) (hy : ¬ y = 0) (h2 : f_X11_read N SM = some (y, rx_ui S3 94 17 x)) (hx : S1.1 13 7 = x) (hr : ∀ r, r ≠ 13 → S1.1 r = S2.1 r) (hL : S1.2 = S2.2) (hqC : qC SC S2) (h0 : S2.1 0 = SC.1 0) (hqM : qM sd SM S3) (h94 : S3.1 94 2 = 0) (hlv : lv < 2) (h18 : SM.1 94 18 = nI lv) (hsd : sd = 1 - lv) : ∃ r SC' SM', f_X10_read N SC = some (r, SC') ∧ f_X11_read N SM = some (r, SM') ∧ Inv N (n + 1) SC' SM' := by
  refine ⟨y, _, _, read_f h1 hy, h2, hI.read0 (fun k hk h0 => ?_) ?_ ?_ ?_ (hqM.tr (qM.u94 (by decide))) ?_ hlv h18 hsd⟩
  · rw [ui_row h0, ui_row h0, hr k (by unfold kpC at hk; omega), hqC.1 k hk h0]
  · rw [ui_get, if_pos rfl, if_neg (by decide), ui_get, if_pos rfl, if_pos rfl]
  · rw [ui_get, if_pos rfl, if_pos rfl, ui_get, if_pos rfl, if_pos rfl, hx]
  · show S1.2 15 = _
    rw [hL, hqC.2]
  · rw [ui_get, if_pos rfl, if_neg (by decide)]
    exact h94
end FLT
