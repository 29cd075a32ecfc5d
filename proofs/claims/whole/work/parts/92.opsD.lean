/-! ===== what is done: the tape, the past ===== -/
section OPD
variable {N : Nat} {T : tx} {n : Nat} {SC SM SC' SM' : rx_S}
theorem sav.eq {R R' st st' : Nat → Int32} (h : sav T n R st) (e1 : ∀ j, j < 48 → R' j = R j) (e2 : ∀ j, j < 48 → st' j = st j) : sav T n R' st' := by
  obtain ⟨⟨h1, h2, h3, h4, h5, h6⟩, w, hw, hW⟩ := h
  refine ⟨⟨fun j hj hn => ?_, fun c hc hc3 => ?_, ?_, ?_, ?_, ?_⟩, w, hw, fun j => ?_⟩
  · rw [e1 (j + 4) (by omega), e2 j (by omega)]; exact h1 j hj hn
  · rw [e1 (16 + c) (by omega), e2 (12 + c) (by omega)]; exact h2 c hc hc3
  · rw [e1 0 (by omega), e2 44 (by omega)]; exact h3
  · rw [e1 1 (by omega), e2 45 (by omega)]; exact h4
  · rw [e1 2 (by omega), e2 46 (by omega)]; exact h5
  · rw [e1 3 (by omega), e2 40 (by omega), e2 41 (by omega), e2 42 (by omega), e2 43 (by omega)]; exact h6
  · by_cases hj : j < 48
    · rw [e2 j hj]; exact hW j
    · exact wsj_any (by omega)
theorem iTold.eq (h : iTold SC SM) (c1 : SC'.1 91 4 = SC.1 91 4) (c2 : SC'.1 92 = SC.1 92) (c3 : SC'.1 93 = SC.1 93) (m1 : SM'.1 94 62 = SM.1 94 62) (m2 : SM'.1 134 = SM.1 134) (m3 : SM'.1 135 = SM.1 135) : iTold SC' SM' := by
  unfold iTold at h ⊢
  rw [c1, c2, c3, m1, m2, m3]
  exact h
theorem iTape.eq (h : iTape SC SM) (c1 : SC'.1 0 1 = SC.1 0 1) (c2 : SC'.1 1 = SC.1 1) (m1 : SM'.1 94 2 = SM.1 94 2) (m2 : SM'.1 95 = SM.1 95) : iTape SC' SM' := by
  unfold iTape at h ⊢
  rw [c1, c2, m1, m2]
  exact h
theorem iUndo.eq (h : iUndo T n SC SM) (c1 : SC'.1 33 3 = SC.1 33 3) (c2 : SC'.1 33 4 = SC.1 33 4) (c3 : ∀ k, 35 ≤ k → k < 75 → SC'.1 k = SC.1 k) (m1 : SM'.1 94 52 = SM.1 94 52) (m2 : SM'.1 128 = SM.1 128) : iUndo T (n + 1) SC' SM' := by
  obtain ⟨nx, ds, u1, u2, u3, u4, u5, u6⟩ := h
  refine ⟨nx, ds, u1, u2, by rw [c1]; exact u3, by rw [c2]; exact u4, by rw [m1]; exact u5, fun u hu => ?_⟩
  have hlt : (nx + (40 - ds) + u) % 40 < 40 := Nat.mod_lt _ (by decide)
  rw [c3 _ (by omega) (by omega), m2]
  exact (u6 u hu).up
theorem iHeld.eq (h : iHeld T n SC SM) (c1 : SC'.1 79 = SC.1 79) (c2 : ∀ s, s < 3 → SC'.1 (76 + s) = SC.1 (76 + s)) (m1 : SM'.1 137 = SM.1 137) (m2 : SM'.1 138 = SM.1 138) : iHeld T (n + 1) SC' SM' := by
  intro s hs
  rw [c1, c2 s hs, m1, m2]
  rcases h s hs with e | ⟨e1, e2, e3⟩
  · exact Or.inl e
  · exact Or.inr ⟨e1, e2, e3.up⟩
/-- the tape -/
def tp (len : Nat) (SC SM : rx_S) : Prop := SC.1 0 1 = nI len ∧ SM.1 94 2 = nI len ∧ ∀ j, j < len → SC.1 1 j = SM.1 95 j ∧ isB (SC.1 1 j)
def fT (S S' : rx_S) : Prop := (∀ k, k ≠ 0 → k ≠ 1 → S'.1 k = S.1 k) ∧ (∀ j, j ≠ 1 → S'.1 0 j = S.1 0 j) ∧ S'.2 = S.2
def gT (S S' : rx_S) : Prop := (∀ k, k ≠ 94 → k ≠ 95 → S'.1 k = S.1 k) ∧ (∀ j, j ≠ 2 → S'.1 94 j = S.1 94 j) ∧ S'.2 = S.2
theorem fT.tr {S S' S'' : rx_S} (h : fT S S') (g : fT S' S'') : fT S S'' := ⟨fun k h1 h2 => (g.1 k h1 h2).trans (h.1 k h1 h2), fun j hj => (g.2.1 j hj).trans (h.2.1 j hj), g.2.2.trans h.2.2⟩
theorem gT.tr {S S' S'' : rx_S} (h : gT S S') (g : gT S' S'') : gT S S'' := ⟨fun k h1 h2 => (g.1 k h1 h2).trans (h.1 k h1 h2), fun j hj => (g.2.1 j hj).trans (h.2.1 j hj), g.2.2.trans h.2.2⟩
theorem Inv.tape (h : Inv N n SC SM) {len : Nat} (hl : len ≤ 2000) (ht : tp len SC' SM') (f : fT SC SC') (g : gT SM SM') : Inv N (n + 1) SC' SM' := by
  obtain ⟨-, hp, k1, k2, ho, T, ⟨hF, hTC, hTM⟩, hs, hu, hh⟩ := h
  refine ⟨⟨len, hl, ht.1, ht.2.1, ht.2.2⟩, ?_, ?_, ?_, ho.eq ?_ ?_ ?_ ?_ ?_ ?_, T, ⟨hF, hTC.ag (fun k hk => f.1 k (by omega) (by omega)), hTM.ag ⟨fun k h1 h2 => g.1 k (by omega) (by omega), g.2.1 18 (by decide)⟩⟩, ?_, hu.eq ?_ ?_ (fun k h1 h2 => f.1 k (by omega) (by omega)) ?_ ?_, hh.eq ?_ (fun s hs => f.1 _ (by omega) (by omega)) ?_ ?_⟩
  · rw [f.2.1 2 (by decide), g.2.1 17 (by decide)]; exact hp
  · rw [f.2.2]; exact k1
  · rw [g.2.2]; exact k2
  · rw [f.1 91 (by decide) (by decide)]
  · rw [f.1 92 (by decide) (by decide)]
  · rw [f.1 93 (by decide) (by decide)]
  · exact g.2.1 62 (by decide)
  · exact g.1 134 (by decide) (by decide)
  · exact g.1 135 (by decide) (by decide)
  · rw [f.1 32 (by decide) (by decide), g.1 126 (by decide) (by decide)]; exact hs.up
  · rw [f.1 33 (by decide) (by decide)]
  · rw [f.1 33 (by decide) (by decide)]
  · exact g.2.1 52 (by decide)
  · exact g.1 128 (by decide) (by decide)
  · exact f.1 79 (by decide) (by decide)
  · exact g.1 137 (by decide) (by decide)
  · exact g.1 138 (by decide) (by decide)
theorem st_back : ST_back N (Inv N) := by
  intro n SC SM hn h x1
  obtain ⟨⟨len, t1, t2, t3, t4⟩, -⟩ := id h
  unfold f_X10_back f_X11_back
  rw [t2, t3]
  by_cases q : x1 < 0
  · rw [if_pos q, if_pos q]
    exact st_q (R := -1) h (by rw [pk_some]; exact ⟨rfl, iC.rf⟩) (by rw [pk_some]; exact ⟨rfl, iM.rf⟩)
  rw [if_neg q, if_neg q]
  by_cases q2 : x1 ≤ nI len
  · rw [if_pos q2, if_pos q2]
    obtain ⟨j, hj, rfl⟩ := nI_of' (i_nlt.mp q)
    have hjl : j ≤ len := (nI_leI hj (by omega)).mp q2
    rw [nI_sub hjl]
    refine ⟨nI (len - j), rx_ui SC 0 1 (nI (len - j)), rx_ui SM 94 2 (nI (len - j)), ?_, ?_, h.tape (len := len - j) (by omega) ⟨?_, ?_, fun i hi => ?_⟩ ⟨fun k h1 h2 => ui_row h1, fun i hi => ?_, rfl⟩ ⟨fun k h1 h2 => ui_row h1, fun i hi => ?_, rfl⟩⟩
    · simp only [rx_let]; rw [ui_same, upd_at]
    · simp only [rx_let]; rw [ui_same, upd_at]
    · rw [ui_same, upd_at]
    · rw [ui_same, upd_at]
    · rw [ui_row (by decide), ui_row (by decide)]; exact t4 i (by omega)
    · rw [ui_same, upd_ne hi]
    · rw [ui_same, upd_ne hi]
  · rw [if_neg q2, if_neg q2]
    exact st_q (R := -1) h (by rw [pk_some]; exact ⟨rfl, iC.rf⟩) (by rw [pk_some]; exact ⟨rfl, iM.rf⟩)
theorem byt_isB (y : Int32) : isB (vp_nar .byte y) := by
  show -128 ≤ (y.toInt8.toInt32).toInt ∧ (y.toInt8.toInt32).toInt < 128
  rw [Int8.toInt_toInt32]
  exact ⟨Int8.le_toInt _, Int8.toInt_lt _⟩
theorem bv_low (x : BitVec 32) (n : Nat) (hn : n ≤ 24) : (x >>> n).setWidth 8 = (x.sshiftRight n).setWidth 8 := by
  apply BitVec.eq_of_getLsbD_eq
  intro i hi
  simp only [BitVec.getLsbD_setWidth, BitVec.getLsbD_ushiftRight, BitVec.getLsbD_sshiftRight]
  have h1 : n + i < 32 := by omega
  have h2 : ¬ 32 ≤ i := by omega
  simp [h1, h2]
theorem byt_eq {x s : Int32} (hs : s = 24 ∨ s = 16 ∨ s = 8 ∨ s = 0) : rx_i2b (rx_ushr x s) = rx_i2b (x >>> (s &&& 31)) := by
  unfold rx_i2b rx_ushr
  have e : ∀ y z : Int32, y.toBitVec.setWidth 8 = z.toBitVec.setWidth 8 → y.toInt8 = z.toInt8 := fun y z h => by
    apply Int8.toBitVec_inj.mp
    rw [Int32.toBitVec_toInt8, Int32.toBitVec_toInt8, BitVec.signExtend_eq_setWidth_of_le _ (by decide), BitVec.signExtend_eq_setWidth_of_le _ (by decide)]
    exact h
  congr 1
  apply e
  rcases hs with rfl | rfl | rfl | rfl
  · exact bv_low x.toBitVec 24 (by decide)
  · exact bv_low x.toBitVec 16 (by decide)
  · exact bv_low x.toBitVec 8 (by decide)
  · exact bv_low x.toBitVec 0 (by decide)
theorem feed1 {len : Nat} (h : tp len SC SM) (hl : len < 2000) {x s s' : Int32} (h0 : ¬ s < 0) (hs : s = 24 ∨ s = 16 ∨ s = 8 ∨ s = 0) (hs' : s + (-8) = s') (m : Nat) : ∃ SC1 SM1, f_X10_addBytes_L3 N (m + 1) x s SC = f_X10_addBytes_L3 N m x s' SC1 ∧ f_X11_put_L3 N (m + 1) x s SM = f_X11_put_L3 N m x s' SM1 ∧ tp (len + 1) SC1 SM1 ∧ fT SC SC1 ∧ gT SM SM1 := by
  obtain ⟨h1, h2, h3⟩ := h
  refine ⟨rx_ui (rx_ui SC 1 len (vp_nar .byte (rx_i2b (rx_ushr x s)))) 0 1 (nI (len + 1)), rx_ui (rx_ui SM 95 len (vp_nar .byte (rx_i2b (rx_ushr x s)))) 94 2 (nI (len + 1)), ?_, ?_, ⟨?_, ?_, fun j hj => ?_⟩, ⟨fun k q1 q2 => ?_, fun j hj => ?_, rfl⟩, ⟨fun k q1 q2 => ?_, fun j hj => ?_, rfl⟩⟩
  · rw [f_X10_addBytes_L3, if_neg h0, h1, if_neg (nI_pos (by omega)), if_neg (show ¬ (2000 : Int32) ≤ nI len from nI_ge (b := 2000) hl (by decide)), rx_gd_in (vp_in_nI hl (by decide)), nI_clamp (by omega)]
    simp only [rx_let]
    rw [ui_row (by decide), h1, nI_1, hs']
  · rw [f_X11_put_L3, if_neg h0, h2, rx_gd_in (vp_in_nI hl (by decide)), nI_clamp (by omega), byt_eq hs]
    simp only [rx_let]
    rw [ui_row (by decide), h2, nI_1, hs']
  · rw [ui_same, upd_at]
  · rw [ui_same, upd_at]
  · rw [ui_row (k' := 1) (k := 0) (by decide), ui_row (k' := 95) (k := 94) (by decide), ui_same, ui_same]
    by_cases e : j = len
    · subst e
      rw [upd_at, upd_at]
      exact ⟨rfl, byt_isB _⟩
    · rw [upd_ne e, upd_ne e]
      exact h3 j (by omega)
  · rw [ui_row q1, ui_row q2]
  · rw [ui_same, upd_ne hj, ui_row (by decide)]
  · rw [ui_row q1, ui_row q2]
  · rw [ui_same, upd_ne hj, ui_row (by decide)]
theorem feed4 {len : Nat} (hN : 5000 ≤ N) (h : tp len SC SM) (hl : len + 4 ≤ 2000) (x : Int32) : ∃ SC1 SM1, f_X10_addBytes N x SC = some ((), SC1) ∧ f_X11_put N x SM = some ((), SM1) ∧ tp (len + 4) SC1 SM1 ∧ fT SC SC1 ∧ gT SM SM1 := by
  unfold f_X10_addBytes f_X11_put
  obtain ⟨m, hm⟩ : ∃ m, N = m + 1 + 1 + 1 + 1 + 1 := ⟨N - 5, by omega⟩
  obtain ⟨A1, B1, a1, b1, t1, f1, g1⟩ := feed1 (N := N) h (by omega) (x := x) (s := 24) (s' := 16) (by decide) (by decide) (by decide) (m + 1 + 1 + 1 + 1)
  obtain ⟨A2, B2, a2, b2, t2, f2, g2⟩ := feed1 (N := N) t1 (by omega) (x := x) (s := 16) (s' := 8) (by decide) (by decide) (by decide) (m + 1 + 1 + 1)
  obtain ⟨A3, B3, a3, b3, t3, f3, g3⟩ := feed1 (N := N) t2 (by omega) (x := x) (s := 8) (s' := 0) (by decide) (by decide) (by decide) (m + 1 + 1)
  obtain ⟨A4, B4, a4, b4, t4, f4, g4⟩ := feed1 (N := N) t3 (by omega) (x := x) (s := 0) (s' := -8) (by decide) (by decide) (by decide) (m + 1)
  refine ⟨A4, B4, ?_, ?_, t4, ((f1.tr f2).tr f3).tr f4, ((g1.tr g2).tr g3).tr g4⟩
  · have e : f_X10_addBytes_L3 N N x 24 SC = f_X10_addBytes_L3 N (m + 1 + 1 + 1 + 1 + 1) x 24 SC := by rw [← hm]
    rw [e, a1, a2, a3, a4, f_X10_addBytes_L3, if_pos (by decide)]
  · have e : f_X11_put_L3 N N x 24 SM = f_X11_put_L3 N (m + 1 + 1 + 1 + 1 + 1) x 24 SM := by rw [← hm]
    rw [e, b1, b2, b3, b4, f_X11_put_L3, if_pos (by decide)]
theorem st_feed (hN : 5000 ≤ N) : ST_feed N (Inv N) := by
  intro n SC SM hn h x1 x2 x3 x4 x5
  obtain ⟨⟨len, t1, t2, t3, t4⟩, -⟩ := id h
  unfold f_X10_feed f_X11_feed
  have c20 : nI len + 20 = nI (len + 20) := nI_add len 20
  rw [t2, t3, c20]
  by_cases q : len ≤ 1980
  · rw [if_pos (show nI len ≤ 1980 from nI_le (b := 1980) q (by decide)), if_pos (show nI (len + 20) ≤ 2000 from nI_le (b := 2000) (by omega) (by decide))]
    obtain ⟨A1, B1, a1, b1, u1, f1, g1⟩ := feed4 hN ⟨t2, t3, t4⟩ (by omega) x1
    obtain ⟨A2, B2, a2, b2, u2, f2, g2⟩ := feed4 hN u1 (by omega) x2
    obtain ⟨A3, B3, a3, b3, u3, f3, g3⟩ := feed4 hN u2 (by omega) x3
    obtain ⟨A4, B4, a4, b4, u4, f4, g4⟩ := feed4 hN u3 (by omega) x4
    obtain ⟨A5, B5, a5, b5, u5, f5, g5⟩ := feed4 hN u4 (by omega) x5
    refine ⟨nI (len + 4 + 4 + 4 + 4 + 4), A5, B5, ?_, ?_, h.tape (by omega) u5 ((((f1.tr f2).tr f3).tr f4).tr f5) ((((g1.tr g2).tr g3).tr g4).tr g5)⟩
    · rw [a1, bd_some, a2, bd_some, a3, bd_some, a4, bd_some, a5, bd_some, u5.1]
    · rw [b1, bd_some, b2, bd_some, b3, bd_some, b4, bd_some, b5, bd_some, u5.2.1]
  · rw [if_neg (show ¬ nI len ≤ 1980 from nI_ge (a := 1980) (by omega) (by omega)), if_neg (show ¬ nI (len + 20) ≤ 2000 from nI_ge (a := 2000) (by omega) (by omega))]
    exact st_q (R := -1) h (by rw [pk_some]; exact ⟨rfl, iC.rf⟩) (by rw [pk_some]; exact ⟨rfl, iM.rf⟩)
theorem st_forget : ST_forget N (Inv N) := by
  intro n SC SM hn h
  obtain ⟨hT, hp, k1, k2, ⟨m, o1, o2, o3, o4⟩, T, hx, hs, hu, hh⟩ := h
  unfold f_X10_forget f_X11_forget f_X1_clear
  simp only [rx_let, bd_some]
  refine ⟨nI m, rx_ui SC 91 4 0, rx_ui SM 94 62 0, by rw [o2], by rw [o3], hT.eq ?_ ?_ ?_ ?_, ?_, k1, k2, ⟨0, by decide, ?_, ?_, fun j hj => absurd hj (by omega)⟩, T, ⟨hx.1, hx.2.1.ag (fun k hk => ui_row (by omega)), hx.2.2.ag ⟨fun k h1 h2 => ui_row (by omega), ?_⟩⟩, ?_, hu.eq ?_ ?_ (fun k h1 h2 => ui_row (by omega)) ?_ ?_, hh.eq ?_ (fun s hs => ui_row (by omega)) ?_ ?_⟩
  all_goals first
    | (rw [ui_same, upd_at]; rfl)
    | (rw [ui_row (by decide), ui_same, upd_ne (by decide)]; exact hp)
    | (rw [ui_row (by decide), ui_row (by decide)]; exact hs.up)
    | (rw [ui_same, upd_ne (by decide)])
    | (rw [ui_row (by decide)])
theorem rsz_le1 (x : Int32) : (¬ rsz x = -1 ∧ rsz x ≤ 1) ↔ (x = 1 ∨ (8 ≤ x ∧ x ≤ 15)) := by
  constructor
  · rintro ⟨h1, h2⟩
    rcases rsz_cases x with e | ⟨m, v, hm, e, g1, g2, g3⟩
    · exact absurd e h1
    · rw [g3] at h2
      have hm1 : m ≤ 1 := (nI_leI (b := 1) (by omega) (by decide)).mp h2
      rw [e]
      match m, hm1 with
      | 0, _ =>
        have : v = 1 := by omega
        subst this
        exact Or.inl rfl
      | 1, _ => exact Or.inr ⟨nI_le (a := 8) (by omega) (by omega), nI_le (b := 15) (by omega) (by decide)⟩
  · rintro (rfl | ⟨h1, h2⟩)
    · have e : rsz 1 = 0 := rsz_of (v := 1) (n := 0) (by decide) (by decide) (by decide)
      rw [e]
      decide
    · obtain ⟨v, hv, rfl⟩ := nI_of' (x := x) (by
        rw [i_le] at h1 ⊢
        have a8 : (8 : Int32).toInt = 8 := rfl
        have a0 : (0 : Int32).toInt = 0 := rfl
        omega)
      have b1 : 8 ≤ v := (nI_leI (a := 8) (by decide) hv).mp h1
      have b2 : v ≤ 15 := (nI_leI (b := 15) hv (by decide)).mp h2
      have e : rsz (nI v) = 1 := rsz_of (v := v) (n := 1) (by decide) (by omega) (by omega)
      rw [e]
      decide
theorem Inv.told (h : Inv N n SC SM) {m a p : Nat} (hm : m < 20) (ha : a < 8) (hp9 : p < 9) (q2 : SC.1 91 4 = nI m) (q3 : SM.1 94 62 = nI m) : Inv N (n + 1) (rx_ui (rx_ui (rx_ui SC 92 m (nI a)) 93 m (nI (if p = 8 then 1 else 8 + p))) 91 4 (nI (m + 1))) (rx_ui (rx_ui (rx_ui SM 134 m (nI a)) 135 m (nI p)) 94 62 (nI (m + 1))) := by
  obtain ⟨hT, hp, k1, k2, ⟨m', o1, o2, o3, o4⟩, T, hx, hs, hu, hh⟩ := h
  have em : m' = m := (nI_eq (by omega) (by omega)).mp (o2.symm.trans q2)
  subst em
  have fc : ∀ k, k ≠ 91 → k ≠ 92 → k ≠ 93 → (rx_ui (rx_ui (rx_ui SC 92 m' (nI a)) 93 m' (nI (if p = 8 then 1 else 8 + p))) 91 4 (nI (m' + 1))).1 k = SC.1 k := fun k h1 h2 h3 => by rw [ui_row h1, ui_row h3, ui_row h2]
  have fm : ∀ k, k ≠ 94 → k ≠ 134 → k ≠ 135 → (rx_ui (rx_ui (rx_ui SM 134 m' (nI a)) 135 m' (nI p)) 94 62 (nI (m' + 1))).1 k = SM.1 k := fun k h1 h2 h3 => by rw [ui_row h1, ui_row h3, ui_row h2]
  have fd : ∀ j, j ≠ 62 → (rx_ui (rx_ui (rx_ui SM 134 m' (nI a)) 135 m' (nI p)) 94 62 (nI (m' + 1))).1 94 j = SM.1 94 j := fun j hj => by rw [ui_same, upd_ne hj, ui_row (by decide), ui_row (by decide)]
  refine ⟨hT.eq ?_ ?_ (fd 2 (by decide)) (fm 95 (by decide) (by decide) (by decide)), ?_, k1, k2, ⟨m' + 1, by omega, ?_, ?_, fun j hj => ?_⟩, T, ⟨hx.1, hx.2.1.ag (fun k hk => fc k (by omega) (by omega) (by omega)), hx.2.2.ag ⟨fun k h1 h2 => fm k (by omega) (by omega) (by omega), fd 18 (by decide)⟩⟩, ?_, hu.eq ?_ ?_ (fun k h1 h2 => fc k (by omega) (by omega) (by omega)) (fd 52 (by decide)) (fm 128 (by decide) (by decide) (by decide)), hh.eq (fc 79 (by decide) (by decide) (by decide)) (fun s hs => fc _ (by omega) (by omega) (by omega)) (fm 137 (by decide) (by decide) (by decide)) (fm 138 (by decide) (by decide) (by decide))⟩
  · rw [fc 0 (by decide) (by decide) (by decide)]
  · exact fc 1 (by decide) (by decide) (by decide)
  · rw [fc 0 (by decide) (by decide) (by decide), fd 17 (by decide)]; exact hp
  · rw [ui_same, upd_at]
  · rw [ui_same, upd_at]
  · rw [ui_row (k' := 92) (by decide), ui_row (k' := 92) (by decide), ui_same, ui_row (k' := 93) (by decide), ui_same, ui_row (k' := 134) (by decide), ui_row (k' := 134) (by decide), ui_same, ui_row (k' := 135) (by decide), ui_same]
    by_cases e : j = m'
    · subst e
      exact ⟨a, p, ha, hp9, upd_at, upd_at, upd_at, upd_at⟩
    · obtain ⟨w, p', z⟩ := o4 j (by omega)
      refine ⟨w, p', z.1, z.2.1, ?_, ?_, ?_, ?_⟩
      · rw [upd_ne e]; exact z.2.2.1
      · rw [upd_ne e]; exact z.2.2.2.1
      · rw [upd_ne e, ui_row (by decide)]; exact z.2.2.2.2.1
      · rw [upd_ne e, ui_row (by decide)]; exact z.2.2.2.2.2
  · rw [fc 32 (by decide) (by decide) (by decide), fm 126 (by decide) (by decide) (by decide)]; exact hs.up
  · rw [fc 33 (by decide) (by decide) (by decide)]
  · rw [fc 33 (by decide) (by decide) (by decide)]
theorem st_tell (hN : 5000 ≤ N) : ST_tell N (Inv N) := by
  intro n SC SM hn h x1 x2
  obtain ⟨-, -, -, -, ⟨m, o1, o2, o3, o4⟩, -⟩ := id h
  have no : ∃ r SC' SM', (some ((-1 : Int32), SC) : Option (Int32 × rx_S)) = some (r, SC') ∧ (some ((-1 : Int32), SM) : Option (Int32 × rx_S)) = some (r, SM') ∧ Inv N (n + 1) SC' SM' := st_q (R := -1) h (by rw [pk_some]; exact ⟨rfl, iC.rf⟩) (by rw [pk_some]; exact ⟨rfl, iM.rf⟩)
  have hrow : ∀ S : rx_S, f_X5_size N x2 S = some (rsz x2, S) := fun S => size_eq hN
  have n1 : ¬ (1 : Int32) = 0 := by decide
  have e20 : nI m = 20 ↔ m = 20 := nI_eq (b := 20) (by omega) (by decide)
  unfold f_X10_tell f_X11_tell f_X5_isRow
  rw [o3]
  rcases word_cases (SC := SC) (SM := SM) x1 with ⟨a, ha, rfl, e1, e2⟩ | ⟨e1, e2⟩
  · rw [e1, bd_some, if_neg n1, e2, bd_some, if_neg n1, hrow, bd_some]
    by_cases P : x2 = 1 ∨ (8 ≤ x2 ∧ x2 ≤ 15)
    · have hz := (rsz_le1 x2).mpr P
      rw [if_neg hz.1, bd_some, if_neg n1, hrow, bd_some, if_pos hz.2]
      unfold f_X1_add
      rw [o2, if_neg (nI_pos (by omega))]
      by_cases qm : m = 20
      · rw [if_neg (show ¬ nI m < 20 from nI_nlt (b := 20) (by omega) (by omega)), bd_some, if_pos (e20.mpr qm)]
        exact no
      · rw [if_pos (show nI m < 20 from nI_lt (b := 20) (by omega) (by decide)), if_neg (fun z => qm (e20.mp z))]
        have hm20 : m < 20 := by omega
        have hg : ∀ {β : Type} (A : Option β), rx_gd (nI m) 20 A = A := fun A => rx_gd_in (vp_in_nI hm20 (by decide))
        have hcl : (nI m).toNatClampNeg = m := nI_clamp (by omega)
        have hpr : nI (m + 1) - 1 = nI m := nI_pred m
        have cls : ∀ y : Int32, (rx_gd (nI m) 20 (rx_let (rx_ui SC 92 (Int32.toNatClampNeg (nI m)) (nI a)) (fun S7 => rx_gd (S7.1 91 4) 20 (rx_let (rx_ui S7 93 (Int32.toNatClampNeg (S7.1 91 4)) y) (fun S9 => rx_let (rx_ui S9 91 4 ((S9.1 91 4) + 1)) (fun S10 => some (((S10.1 91 4) - 1), S10))))))) = some (nI m, rx_ui (rx_ui (rx_ui SC 92 m (nI a)) 93 m y) 91 4 (nI (m + 1))) := fun y => by
          simp only [rx_let, hg, hcl, ui_row (show (91 : Nat) ≠ 92 by decide), ui_row (show (91 : Nat) ≠ 93 by decide), o2, ui_same, upd_at, nI_1, hpr]
        rw [cls, bd_some]
        simp only [rx_let, hg, hcl, ui_row (show (94 : Nat) ≠ 134 by decide), ui_row (show (94 : Nat) ≠ 135 by decide), o3, ui_same, upd_at, nI_1, hpr, in_eq, bd_some]
        by_cases q1 : x2 = 1
        · subst q1
          rw [if_pos rfl, if_pos rfl]
          exact ⟨nI m, _, _, rfl, rfl, h.told (p := 8) hm20 ha (by decide) o2 o3⟩
        · have P2 := P.resolve_left q1
          rw [if_neg q1, if_pos P2, if_neg n1, if_neg q1]
          obtain ⟨v, hv, rfl⟩ := nI_of' (x := x2) (by
            have h1 := P2.1
            rw [i_le] at h1 ⊢
            have a8 : (8 : Int32).toInt = 8 := rfl
            have a0 : (0 : Int32).toInt = 0 := rfl
            omega)
          have b1 : 8 ≤ v := (nI_leI (a := 8) (by decide) hv).mp P2.1
          have b2 : v ≤ 15 := (nI_leI (b := 15) hv (by decide)).mp P2.2
          have ev : nI v - 8 = nI (v - 8) := nI_sub (b := 8) b1
          have ex : nI v = nI (if v - 8 = 8 then 1 else 8 + (v - 8)) := by rw [if_neg (by omega), Nat.add_sub_cancel' b1]
          rw [ev]
          refine ⟨nI m, _, _, rfl, rfl, ?_⟩
          have hI := h.told (p := v - 8) hm20 ha (by omega) o2 o3
          rw [← ex] at hI
          exact hI
    · have hz : ¬ (¬ rsz x2 = -1 ∧ rsz x2 ≤ 1) := fun z => P ((rsz_le1 x2).mp z)
      have ec : (rx_bd (if rsz x2 = (-1) then (some ((0 : Int32), SC)) else (some (1, SC))) (fun x9 S8 => if x9 = 0 then (some ((-1), S8)) else (rx_bd (f_X5_size N x2 S8) (fun x13 S12 => if x13 ≤ 1 then (rx_bd (f_X1_add (nI a) x2 S12) (fun x17 S16 => some (x17, S16))) else (some ((-1), S12)))))) = some (-1, SC) := by
        by_cases z1 : rsz x2 = -1
        · rw [if_pos z1, bd_some, if_pos rfl]
        · rw [if_neg z1, bd_some, if_neg n1, hrow, bd_some, if_neg (fun z => hz ⟨z1, z⟩)]
      rw [ec]
      have q1 : ¬ x2 = 1 := fun z => P (Or.inl z)
      have q2 : ¬ (8 ≤ x2 ∧ x2 ≤ 15) := fun z => P (Or.inr z)
      simp only [rx_let]
      rw [if_neg q1, in_eq, if_neg q2, bd_some, if_pos rfl]
      split
      · exact no
      · exact no
  · rw [e1, bd_some, if_pos rfl, e2, bd_some, if_pos rfl]
    split
    · exact no
    · exact no
end OPD
