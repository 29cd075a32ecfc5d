/-! ===== READ 24: spouses and thirds, by both ===== -/
section STA
variable {N : Nat} {z : tks} {p sd n nn : Nat} {m : Nat × Nat} {S SC SM : rx_S}
theorem t1_kind (hF : tkF z) (hS : MF z p m S) {k : Nat} (hk : kK z p = k) : S.1 97 p = nI (kM k) := by
  rw [(hS.2.2.2.1 p hS.2.2.1).1, hk]
theorem t1_sp (hF : tkF z) (hS : MF z p m S) (hk : kK z p = 128) : f_X11_tellOne N S = rx_gd (S.1 94 19) 2 (rx_bd (f_X11_roomFor (S.1 104 (Int32.toNatClampNeg (S.1 94 19))) 6 S) (fun x26 S25 => if (S25.1 94 13) = 0 then (rx_bd (f_X11_tellSpouse N S25) (fun x30 S29 => some ((), S29))) else (some ((), S25)))) := by
  have hm := hF.2.1
  have hp := hS.2.2.1
  unfold f_X11_tellOne
  rw [hS.1, rx_gd_in (vp_in_nI (show p < 403 by omega) (by decide)), nI_clamp (by omega), t1_kind hF hS hk]
  simp only [rx_let]
  rw [if_pos (show nI (kM 128) = 20 from by decide)]
theorem t1_cp (hF : tkF z) (hS : MF z p m S) (hk : kK z p = 129) : f_X11_tellOne N S = rx_gd (S.1 94 19) 2 (rx_bd (f_X11_roomFor (S.1 107 (Int32.toNatClampNeg (S.1 94 19))) 3 S) (fun x26 S25 => if (S25.1 94 13) = 0 then (rx_bd (f_X11_tellCouple N S25) (fun x30 S29 => some ((), S29))) else (some ((), S25)))) := by
  have hm := hF.2.1
  have hp := hS.2.2.1
  unfold f_X11_tellOne
  rw [hS.1, rx_gd_in (vp_in_nI (show p < 403 by omega) (by decide)), nI_clamp (by omega), t1_kind hF hS hk]
  simp only [rx_let]
  rw [if_neg (show ¬ nI (kM 129) = 20 from by decide), if_pos (show nI (kM 129) = 21 from by decide)]
theorem t1_th (hF : tkF z) (hS : MF z p m S) (hk : kK z p = 130) : f_X11_tellOne N S = rx_gd (S.1 94 19) 2 (rx_bd (f_X11_roomFor (S.1 109 (Int32.toNatClampNeg (S.1 94 19))) 4 S) (fun x26 S25 => if (S25.1 94 13) = 0 then (rx_bd (f_X11_tellThird N S25) (fun x30 S29 => some ((), S29))) else (some ((), S25)))) := by
  have hm := hF.2.1
  have hp := hS.2.2.1
  unfold f_X11_tellOne
  rw [hS.1, rx_gd_in (vp_in_nI (show p < 403 by omega) (by decide)), nI_clamp (by omega), t1_kind hF hS hk]
  simp only [rx_let]
  rw [if_neg (show ¬ nI (kM 130) = 20 from by decide), if_neg (show ¬ nI (kM 130) = 21 from by decide), if_pos (show nI (kM 130) = 22 from by decide)]
/-- room, and then the rest -/
theorem roomed {n h kw : Nat} {x : Int32} {ks : List Nat} {T : rx_S → Option (Unit × rx_S)} {Q : rx_S → Prop} (hF : tkF z) (hS : MF z p m S) (hk : kK z p = kw) (h2 : 2 ≤ kw) (hn : n ≤ h) (hh : h < 1000) (hx : x = nI h) (ht : n < h → p + 1 < kN z → MF z (p + 1) m (rx_ui S 94 11 (nI (p + 1))) → pk (T (rx_ui S 94 11 (nI (p + 1)))) (fun _ S' => rdM sd (rx_ui S 94 11 (nI (p + 1))) S' ∧ ((∃ f q, sqF z (p + 1) ks f q ∧ flt z f q S') ∨ (sqT z (p + 1) ks ∧ Q S')))) : pk (rx_bd (f_X11_roomFor (nI n) x S) (fun x26 S25 => if (S25.1 94 13) = 0 then (rx_bd (T S25) (fun x30 S29 => some ((), S29))) else (some ((), S25)))) (fun _ S' => rdM sd S S' ∧ ((∃ f q, ((n = h ∧ f = 2 ∧ q = p) ∨ (n < h ∧ sqF z p (kw :: ks) f q)) ∧ flt z f q S') ∨ (n < h ∧ sqT z p (kw :: ks) ∧ Q S'))) := by
  rw [hx]
  by_cases e : n = h ∨ ¬ p < 400
  · obtain ⟨r1, r2⟩ := room_n (n := n) (h := h) hF hS (by omega) hh e
    rw [r1, bd_some, if_neg r2.pos.2.1, pk_some]
    refine ⟨g1F.fl.rd, Or.inl ⟨2, p, ?_, r2⟩⟩
    by_cases en : n = h
    · exact Or.inl ⟨en, rfl, rfl⟩
    · exact Or.inr ⟨by omega, Or.inl ⟨Or.inl ⟨rfl, hk, by omega⟩, rfl⟩⟩
  · have hp : p < 400 := by omega
    have hp1 : p + 1 < kN z := hF.2.2.2.1 p hS.2.2.1 (by omega) (by omega) hp
    have M1 := hS.go hp1
    rw [room_t hS (by omega) hh (by omega) hp, bd_some, if_pos M1.2.1, pk_bd]
    refine pk_mono (ht (by omega) hp1 M1) (fun _ S' g => ?_)
    rw [pk_some]
    refine ⟨(rdM.u94 (by omega)).tr g.1, ?_⟩
    rcases g.2 with ⟨f, q, g1, g2⟩ | ⟨g1, g2⟩
    · exact Or.inl ⟨f, q, Or.inr ⟨by omega, Or.inr ⟨⟨hk, hp⟩, g1⟩⟩, g2⟩
    · exact Or.inr ⟨by omega, ⟨⟨hk, hp⟩, g1⟩, g2⟩
/-- both outcomes fit -/
theorem outc {n h kw : Nat} {ks : List Nat} {r : Int32} {SC' SM' : rx_S} {QC QM : Prop} (hC : (r = 0 ∧ ∃ f q, ((n = h ∧ f = 2 ∧ q = p) ∨ (n < h ∧ sqF z p ks f q)) ∧ fC z f q SC' ∧ kCf SC SC') ∨ (r = 1 ∧ n < h ∧ sqT z p ks ∧ kCf SC SC' ∧ QC)) (hM : (∃ f q, ((n = h ∧ f = 2 ∧ q = p) ∨ (n < h ∧ sqF z p ks f q)) ∧ flt z f q SM') ∨ (n < h ∧ sqT z p ks ∧ QM)) (hrd : rdM sd SM SM') (hgo : n < h → sqT z p ks → kCf SC SC' → QC → QM → ∃ q, p < q ∧ RD z sd q SC' SM') : stO z sd p SC SM r SC' SM' := by
  rcases hC with ⟨rfl, f, q, h1, h2, h3⟩ | ⟨rfl, h1, h2, h3, h4⟩
  · rcases hM with ⟨f', q', g1, g2⟩ | ⟨g1, g2, _⟩
    · have e : f = f' ∧ q = q' := by
        rcases h1 with ⟨a1, a2, a3⟩ | ⟨a1, a2⟩ <;> rcases g1 with ⟨b1, b2, b3⟩ | ⟨b1, b2⟩
        · exact ⟨by omega, by omega⟩
        · omega
        · omega
        · exact sqF_det ks p f q f' q' a2 b2
      obtain ⟨rfl, rfl⟩ := e
      exact ⟨h3, hrd, Or.inr ⟨rfl, f, q, h2, g2⟩⟩
    · rcases h1 with ⟨a1, _⟩ | ⟨_, a2⟩
      · omega
      · exact (sqF_T ks p f q a2 g2).elim
  · rcases hM with ⟨f', q', g1, g2⟩ | ⟨g1, g2, g3⟩
    · rcases g1 with ⟨a1, _⟩ | ⟨_, a2⟩
      · omega
      · exact (sqF_T ks p f' q' a2 h2).elim
    · exact ⟨h3, hrd, Or.inl ⟨rfl, hgo h1 h2 h3 h4 g3⟩⟩
theorem nAt.new {S' : rx_S} {v : Int32} (h : nAt S nn) (hv : v = -1 ∨ ∃ s, s < 6 ∧ v = nI s) (e : S'.1 103 = upd (S.1 103) nn v) : nAt S' (nn + 1) := fun k hk => by
  rw [e]
  by_cases q : k = nn
  · rw [q, upd_at]; exact hv
  · rw [upd_ne q]; exact h k (by omega)
theorem upd_get {f : Nat → Int32} {i j : Nat} {x y : Int32} (h : (j = i → x = y) ∧ (j ≠ i → f j = y)) : upd f i x j = y := by
  by_cases e : j = i
  · rw [e, upd_at]; exact h.1 e
  · rw [upd_ne e]; exact h.2 e
theorem st_sp (hN : 5000 ≤ N) (hF : tkF z) (hR : RD z sd p SC SM) (hk : kK z p = 128) : ∃ r SC' SM', f_X4_readSpouse N SC = some (r, SC') ∧ f_X11_tellOne N SM = some ((), SM') ∧ stO z sd p SC SM r SC' SM' := by
  obtain ⟨nS, nC, nT, nc, c, b, cm, m, ⟨c1, c2, c3, c4, c5, c6, c7, c8, c9⟩, ⟨m1, m2, m3, m4, m5, m6, m7⟩, hnm, hl, hct⟩ := hR
  have h19 := m2.2.2.1
  have hs := m2.2.2.2.1
  obtain ⟨r, SC', eC, hC⟩ := rdSp (n := nS) hN hF c1 c4 c5
  have hM : pk (f_X11_tellOne N SM) (fun _ S' => rdM sd SM S' ∧ ((∃ f q, ((nS = 6 ∧ f = 2 ∧ q = p) ∨ (nS < 6 ∧ sqF z p [128, 2, 3, 59] f q)) ∧ flt z f q S') ∨ (nS < 6 ∧ sqT z p [128, 2, 3, 59] ∧ spM z p nS (nS + nT) sd m (rx_ui SM 94 11 (nI (p + 1))) S'))) := by
    rw [t1_sp hF m1 hk, h19, pk_gdn hs (by decide), nI_clamp (by omega), m3]
    refine roomed (T := f_X11_tellSpouse N) hF m1 hk (by decide) c5 (by decide) rfl (fun n6 hp1 M1 => ?_)
    refine pk_mono (tSp hN hF M1 (by rw [ui_get, if_pos rfl, if_neg (by decide)]; exact h19) hs (by rw [ui_row (by decide)]; exact m3) n6 (by rw [ui_get, if_pos rfl, if_neg (by decide)]; exact m6) (by omega)) (fun _ S' g => ⟨g.1, g.2.imp id (fun h => ⟨h.1, h⟩)⟩)
  obtain ⟨u, SM', eM, hrd, hM⟩ := hM
  refine ⟨r, SC', SM', eC, eM, outc (QC := _) (QM := _) (n := nS) (h := 6) (kw := 128) (hC.imp id (fun h => ⟨h.1, h.2.1, h.2.2.1, h.2.2.2.1, h.2.2.2.2⟩)) hM hrd (fun n6 hT kC qc qm => ⟨p + 4, by omega, ?_⟩)⟩
  obtain ⟨⟨nc', C', hreg⟩, x25, x26, x19, xr⟩ := qc
  obtain ⟨-, M', y20, y105, y106, y104, y103, y102, yr, yj, yl⟩ := qm
  have kx := hT.2.1.1
  have hp1 : p + 1 < kN z := by have := C'.2.2.1; omega
  have zr : ∀ r, r ≠ 94 → (rx_ui SM 94 11 (nI (p + 1))).1 r = SM.1 r := fun r hr => ui_row hr
  have zj : ∀ j, j ≠ 11 → (rx_ui SM 94 11 (nI (p + 1))).1 94 j = SM.1 94 j := fun j hj => by rw [ui_get, if_pos rfl, if_neg hj]
  have eqm : mA (mA m (ff (nmM (rx_ui SM 94 11 (nI (p + 1))) ((rx_ui SM 94 11 (nI (p + 1))).2 100 (p + 1))) (nS + nT) 0).isSome 3 (p + 1)) (decide (99 < kV z (p + 2))) 5 (p + 2) = mA (mA m (ff (nmE SC (SC.2 18 (p + 1))) nc 0).isSome 3 (p + 1)) (decide (99 < kV z (p + 2))) 5 (p + 2) := by
    by_cases h0 : m.1 = 0
    · obtain ⟨e1, e2, -⟩ := hct h0
      rw [dup_eq hF hp1 kx (by have := c1.2.2.1; omega) hnm e2, e1]
      rfl
    · rw [mA_ne h0, mA_ne h0, mA_ne h0, mA_ne h0]
  rw [eqm] at M'
  rw [zr 105 (by decide)] at y105
  rw [zr 106 (by decide)] at y106
  rw [zr 104 (by decide)] at y104
  rw [zr 103 (by decide)] at y103
  have yr' : ∀ r, r ≠ 94 → r ≠ 103 → r ≠ 104 → r ≠ 105 → r ≠ 106 → SM'.1 r = SM.1 r := fun r q1 q2 q3 q4 q5 => (yr r q1 q2 q3 q4 q5).trans (zr r q1)
  refine ⟨nS + 1, nC, nT, nc', c, b, cm, _, ⟨C', ?_, by omega, ?_, by omega, ?_, c7, ?_, c9⟩, ⟨M', m2.keep M' (by omega) (fun j hj => (yj j (by omega) (by omega) (by omega) (by omega) (by omega) (by omega)).trans (zj j (by omega))), ?_, ?_, ?_, ?_, ?_⟩, hnm.keep (kC.2 18 (by decide)) ((yl 100 (by decide)).trans rfl), hl.keep (xr 21 (by decide) (by decide) (by decide) (by decide) (by decide)) (xr 22 (by decide) (by decide) (by decide) (by decide) (by decide)) (fun r q1 q2 => yr' r (by omega) (by omega) (by omega) (by omega) (by omega)), fun h0 => ?_⟩
  · rw [xr 20 (by decide) (by decide) (by decide) (by decide) (by decide)]; exact c2
  · rw [x19, upd_at]
  · rw [x19, upd_ne (by decide)]; exact c6
  · rw [x19, upd_ne (by decide)]; exact c8
  · rw [y104, upd_at]
  · rw [yr' 107 (by decide) (by decide) (by decide) (by decide) (by decide)]; exact m4
  · rw [yr' 109 (by decide) (by decide) (by decide) (by decide) (by decide)]; exact m5
  · rw [y20]; congr 1; omega
  · have := m7.new (v := nI nS) (Or.inr ⟨nS, n6, rfl⟩) y103
    rw [show nS + 1 + nT = nS + nT + 1 by omega]
    exact this
  · obtain ⟨h0', hv⟩ := mA_0 (by decide) h0
    obtain ⟨h0'', hd⟩ := mA_0 (by decide) h0'
    obtain ⟨e1, e2, e3, e4, e5, e6⟩ := hct h0''
    have hnone : ff (nmE SC (SC.2 18 (p + 1))) nc 0 = none := by
      cases hff : ff (nmE SC (SC.2 18 (p + 1))) nc 0 with
      | none => rfl
      | some q => rw [hff] at hd; cases hd
    obtain ⟨r1, r2, r3⟩ := hreg hnone (by omega)
    have hV : kV z (p + 2) ≤ 99 := by
      have := of_decide_eq_false hv
      omega
    refine ⟨by omega, ?_, fun a ha => ?_, fun i hi => ?_, fun c hc => ?_, ?_⟩
    · rw [r1]
      exact e2.new (x := p + 1) (v := nI nS) (by omega) kx (by omega) hnone (Or.inr ⟨nS, by omega, rfl⟩) r2 (kC.2 18 (by decide)) (by rw [y102, e1]; rfl) ((yl 100 (by decide)).trans rfl) r3 (by rw [y103, e1])
    · rw [x25, x26, y105, y106]
      by_cases q : a = nS
      · subst q
        rw [upd_at, upd_at, upd_at, upd_at]
        exact ⟨rfl, ⟨_, hV, rfl⟩, rfl, Or.inl rfl⟩
      · rw [upd_ne q, upd_ne q, upd_ne (by omega), upd_ne (by omega)]
        exact e3 a (by omega)
    · rw [xr 28 (by decide) (by decide) (by decide) (by decide) (by decide), xr 29 (by decide) (by decide) (by decide) (by decide) (by decide), yr' 110 (by decide) (by decide) (by decide) (by decide) (by decide), yr' 111 (by decide) (by decide) (by decide) (by decide) (by decide)]
      exact e4 i hi
    · rw [xr 27 (by decide) (by decide) (by decide) (by decide) (by decide), yr' 108 (by decide) (by decide) (by decide) (by decide) (by decide)]
      obtain ⟨s, t, a1, a2, a3⟩ := e5 c hc
      exact ⟨s, t, by omega, by omega, a3⟩
    · unfold CTf
      rw [x19, upd_ne (by decide), upd_ne (by decide), yr' 112 (by decide) (by decide) (by decide) (by decide) (by decide), yr' 113 (by decide) (by decide) (by decide) (by decide) (by decide)]
      exact e6
theorem st_th (hN : 5000 ≤ N) (hF : tkF z) (hR : RD z sd p SC SM) (hk : kK z p = 130) : ∃ r SC' SM', f_X4_readThird N SC = some (r, SC') ∧ f_X11_tellOne N SM = some ((), SM') ∧ stO z sd p SC SM r SC' SM' := by
  obtain ⟨nS, nC, nT, nc, c, b, cm, m, ⟨c1, c2, c3, c4, c5, c6, c7, c8, c9⟩, ⟨m1, m2, m3, m4, m5, m6, m7⟩, hnm, hl, hct⟩ := hR
  have h19 := m2.2.2.1
  have hs := m2.2.2.2.1
  obtain ⟨r, SC', eC, hC⟩ := rdTh (n := nT) hN hF c1 c8 c9
  have hM : pk (f_X11_tellOne N SM) (fun _ S' => rdM sd SM S' ∧ ((∃ f q, ((nT = 4 ∧ f = 2 ∧ q = p) ∨ (nT < 4 ∧ sqF z p [130, 2, 3, 3, 59] f q)) ∧ flt z f q S') ∨ (nT < 4 ∧ sqT z p [130, 2, 3, 3, 59] ∧ thM z p nT (nS + nT) sd m (rx_ui SM 94 11 (nI (p + 1))) S'))) := by
    rw [t1_th hF m1 hk, h19, pk_gdn hs (by decide), nI_clamp (by omega), m5]
    refine roomed (T := f_X11_tellThird N) hF m1 hk (by decide) c9 (by decide) rfl (fun n6 hp1 M1 => ?_)
    refine pk_mono (tTh hN hF M1 (by rw [ui_get, if_pos rfl, if_neg (by decide)]; exact h19) hs (by rw [ui_row (by decide)]; exact m5) n6 (by rw [ui_get, if_pos rfl, if_neg (by decide)]; exact m6) (by omega)) (fun _ S' g => ⟨g.1, g.2.imp id (fun h => ⟨h.1, h⟩)⟩)
  obtain ⟨u, SM', eM, hrd, hM⟩ := hM
  refine ⟨r, SC', SM', eC, eM, outc (QC := _) (QM := _) (n := nT) (h := 4) (kw := 130) (hC.imp id (fun h => ⟨h.1, h.2.1, h.2.2.1, h.2.2.2.1, h.2.2.2.2⟩)) hM hrd (fun n6 hT kC qc qm => ⟨p + 5, by omega, ?_⟩)⟩
  obtain ⟨⟨nc', C', hreg⟩, x28, x29, x19, xr⟩ := qc
  obtain ⟨-, M', y20, y110, y111, y109, y103, y102, yr, yj, yl⟩ := qm
  have kx := hT.2.1.1
  have hp1 : p + 1 < kN z := by have := C'.2.2.1; omega
  have zr : ∀ r, r ≠ 94 → (rx_ui SM 94 11 (nI (p + 1))).1 r = SM.1 r := fun r hr => ui_row hr
  have zj : ∀ j, j ≠ 11 → (rx_ui SM 94 11 (nI (p + 1))).1 94 j = SM.1 94 j := fun j hj => by rw [ui_get, if_pos rfl, if_neg hj]
  have eqm : mA (mA (mA m (ff (nmM (rx_ui SM 94 11 (nI (p + 1))) ((rx_ui SM 94 11 (nI (p + 1))).2 100 (p + 1))) (nS + nT) 0).isSome 3 (p + 1)) (decide (9 < kV z (p + 2))) 5 (p + 2)) (decide (99 < kV z (p + 3))) 5 (p + 3) = mA (mA (mA m (ff (nmE SC (SC.2 18 (p + 1))) nc 0).isSome 3 (p + 1)) (decide (9 < kV z (p + 2))) 5 (p + 2)) (decide (99 < kV z (p + 3))) 5 (p + 3) := by
    by_cases h0 : m.1 = 0
    · obtain ⟨e1, e2, -⟩ := hct h0
      rw [dup_eq hF hp1 kx (by have := c1.2.2.1; omega) hnm e2, e1]
      rfl
    · rw [mA_ne h0, mA_ne h0, mA_ne h0, mA_ne h0, mA_ne h0, mA_ne h0]
  rw [eqm] at M'
  rw [zr 110 (by decide)] at y110
  rw [zr 111 (by decide)] at y111
  rw [zr 109 (by decide)] at y109
  rw [zr 103 (by decide)] at y103
  have yr' : ∀ r, r ≠ 94 → r ≠ 103 → r ≠ 109 → r ≠ 110 → r ≠ 111 → SM'.1 r = SM.1 r := fun r q1 q2 q3 q4 q5 => (yr r q1 q2 q3 q4 q5).trans (zr r q1)
  refine ⟨nS, nC, nT + 1, nc', c, b, cm, _, ⟨C', ?_, by omega, ?_, c5, ?_, c7, ?_, by omega⟩, ⟨M', m2.keep M' (by omega) (fun j hj => (yj j (by omega) (by omega) (by omega) (by omega) (by omega) (by omega)).trans (zj j (by omega))), ?_, ?_, ?_, ?_, ?_⟩, hnm.keep (kC.2 18 (by decide)) ((yl 100 (by decide)).trans rfl), hl.keep (xr 21 (by decide) (by decide) (by decide) (by decide) (by decide)) (xr 22 (by decide) (by decide) (by decide) (by decide) (by decide)) (fun r q1 q2 => yr' r (by omega) (by omega) (by omega) (by omega) (by omega)), fun h0 => ?_⟩
  · rw [xr 20 (by decide) (by decide) (by decide) (by decide) (by decide)]; exact c2
  · rw [x19, upd_ne (by decide)]; exact c4
  · rw [x19, upd_ne (by decide)]; exact c6
  · rw [x19, upd_at]
  · rw [yr' 104 (by decide) (by decide) (by decide) (by decide) (by decide)]; exact m3
  · rw [yr' 107 (by decide) (by decide) (by decide) (by decide) (by decide)]; exact m4
  · rw [y109, upd_at]
  · rw [y20]; congr 1
  · exact m7.new (v := -1) (Or.inl rfl) y103
  · obtain ⟨h0', hv2⟩ := mA_0 (by decide) h0
    obtain ⟨h0', hv⟩ := mA_0 (by decide) h0'
    obtain ⟨h0'', hd⟩ := mA_0 (by decide) h0'
    obtain ⟨e1, e2, e3, e4, e5, e6⟩ := hct h0''
    have hnone : ff (nmE SC (SC.2 18 (p + 1))) nc 0 = none := by
      cases hff : ff (nmE SC (SC.2 18 (p + 1))) nc 0 with
      | none => rfl
      | some q => rw [hff] at hd; cases hd
    obtain ⟨r1, r2, r3⟩ := hreg hnone (by omega)
    have hV : kV z (p + 2) ≤ 9 := by
      have := of_decide_eq_false hv
      omega
    have hV2 : kV z (p + 3) ≤ 99 := by
      have := of_decide_eq_false hv2
      omega
    refine ⟨by omega, ?_, fun a ha => ?_, fun i hi => ?_, fun c hc => ?_, ?_⟩
    · rw [r1]
      exact e2.new (x := p + 1) (v := -1) (by omega) kx (by omega) hnone (Or.inl rfl) r2 (kC.2 18 (by decide)) (by rw [y102, e1]; rfl) ((yl 100 (by decide)).trans rfl) r3 (by rw [y103, e1])
    · rw [xr 25 (by decide) (by decide) (by decide) (by decide) (by decide), xr 26 (by decide) (by decide) (by decide) (by decide) (by decide), yr' 105 (by decide) (by decide) (by decide) (by decide) (by decide), yr' 106 (by decide) (by decide) (by decide) (by decide) (by decide)]
      exact e3 a ha
    · rw [x28, x29, y110, y111]
      by_cases q : i = nT
      · subst q
        rw [upd_at, upd_at, upd_at, upd_at]
        exact ⟨rfl, ⟨_, hV, rfl⟩, rfl, ⟨_, hV2, rfl⟩⟩
      · rw [upd_ne q, upd_ne q, upd_ne (by omega), upd_ne (by omega)]
        exact e4 i (by omega)
    · rw [xr 27 (by decide) (by decide) (by decide) (by decide) (by decide), yr' 108 (by decide) (by decide) (by decide) (by decide) (by decide)]
      exact e5 c hc
    · unfold CTf
      rw [x19, upd_ne (by decide), upd_ne (by decide), yr' 112 (by decide) (by decide) (by decide) (by decide) (by decide), yr' 113 (by decide) (by decide) (by decide) (by decide) (by decide)]
      exact e6
end STA
